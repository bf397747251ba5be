/-! reading what is told: both sides answer alike -/
theorem ite01_r {α : Type} {p : Prop} [Decidable p] {x : Option α} : qk (qRb (if p then 1 else 0)) x = x := by split <;> rfl
theorem ite01_z {α : Type} {p : Prop} [Decidable p] {x : Option α} : qk (qZb (if p then 1 else 0)) x = x := by split <;> rfl
theorem ite01_e {α : Type} {p : Prop} [Decidable p] {x y : α} : (if (if p then (1 : Int) else 0) = 0 then x else y) = if p then y else x := by split <;> simp_all
theorem ite01_n {α : Type} {p : Prop} [Decidable p] {x y : α} : (if (if p then (0 : Int) else 1) = 0 then x else y) = if p then x else y := by split <;> simp_all
theorem ite01_m {α : Type} {p : Prop} [Decidable p] {x : Option α} : qk (qRb (if p then 0 else 1)) x = x := by split <;> rfl
section PR
variable {S : qSto} {T lev : Nat → Int}
theorem C_isMetre_s (h : iT S T lev) {m : Int} (hm : qR m) : C_isMetre m S = some (if 0 ≤ m ∧ m < T 0 then 1 else 0, S) := by
  obtain ⟨hb, hr, -, -, -⟩ := h
  have e1 := hr.1 0 (by omega)
  have b1 := hb.1
  obtain ⟨m1, m2⟩ := hm
  simp (disch := omega) only [C_isMetre, qk_r, e1]
  by_cases g1 : m < 0
  · rw [if_pos g1, if_neg (by omega)]
  · rw [if_neg g1]
    by_cases g2 : T 0 ≤ m
    · rw [if_pos g2, if_neg (by omega)]
    · rw [if_neg g2, if_pos (by omega)]
theorem M_isMetre_s (h : iT S T lev) {m : Int} (hm : qR m) : M_isMetre m S = some (if 0 ≤ m ∧ m < T 0 then 1 else 0, S) := by
  obtain ⟨hb, hr, h72, -, -⟩ := h
  have e1 := h72 0
  have b1 := hb.1
  obtain ⟨m1, m2⟩ := hm
  simp (disch := omega) only [M_isMetre, qk_r, e1]
  rw [M_in_s ⟨by omega, by omega⟩ ⟨by omega, by omega⟩ ⟨by omega, by omega⟩]
  simp only [ob_some, ite01_z]
  have : (0 ≤ m ∧ m ≤ T 0 - 1) ↔ (0 ≤ m ∧ m < T 0) := by omega
  simp only [this]
theorem C_isCrane_s (h : iT S T lev) {m : Int} (hm : qR m) : C_isCrane m S = some (if 0 ≤ m ∧ m < T 7 then 1 else 0, S) := by
  obtain ⟨hb, hr, -, -, -⟩ := h
  have e1 := hr.2.2.1
  have b1 := hb.2.2.2.2.2.2.2.1
  obtain ⟨m1, m2⟩ := hm
  simp (disch := omega) only [C_isCrane, qk_r, e1]
  by_cases g1 : m < 0
  · rw [if_pos g1, if_neg (by omega)]
  · rw [if_neg g1]
    by_cases g2 : T 7 ≤ m
    · rw [if_pos g2, if_neg (by omega)]
    · rw [if_neg g2, if_pos (by omega)]
theorem M_isCrane_s (h : iT S T lev) {m : Int} (hm : qR m) : M_isCrane m S = some (if 0 ≤ m ∧ m < T 7 then 1 else 0, S) := by
  obtain ⟨hb, hr, h72, -, -⟩ := h
  have e1 := h72 7
  have b1 := hb.2.2.2.2.2.2.2.1
  obtain ⟨m1, m2⟩ := hm
  simp (disch := omega) only [M_isCrane, qk_r, e1]
  rw [M_in_s ⟨by omega, by omega⟩ ⟨by omega, by omega⟩ ⟨by omega, by omega⟩]
  simp only [ob_some, ite01_z]
  have : (0 ≤ m ∧ m ≤ T 7 - 1) ↔ (0 ≤ m ∧ m < T 7) := by omega
  simp only [this]
theorem C_isShip_s (h : iT S T lev) {m : Int} (hm : qR m) : C_isShip m S = some (if 0 ≤ m ∧ m < T 9 then 1 else 0, S) := by
  obtain ⟨hb, hr, -, -, -⟩ := h
  have e1 := hr.2.2.2.2.1
  have b1 := hb.2.2.2.2.2.2.2.2.2.1
  obtain ⟨m1, m2⟩ := hm
  simp (disch := omega) only [C_isShip, qk_r, e1]
  by_cases g1 : m < 0
  · rw [if_pos g1, if_neg (by omega)]
  · rw [if_neg g1]
    by_cases g2 : T 9 ≤ m
    · rw [if_pos g2, if_neg (by omega)]
    · rw [if_neg g2, if_pos (by omega)]
theorem M_isShip_s (h : iT S T lev) {m : Int} (hm : qR m) : M_isShip m S = some (if 0 ≤ m ∧ m < T 9 then 1 else 0, S) := by
  obtain ⟨hb, hr, h72, -, -⟩ := h
  have e1 := h72 9
  have b1 := hb.2.2.2.2.2.2.2.2.2.1
  obtain ⟨m1, m2⟩ := hm
  simp (disch := omega) only [M_isShip, qk_r, e1]
  rw [M_in_s ⟨by omega, by omega⟩ ⟨by omega, by omega⟩ ⟨by omega, by omega⟩]
  simp only [ob_some, ite01_z]
  have : (0 ≤ m ∧ m ≤ T 9 - 1) ↔ (0 ≤ m ∧ m < T 9) := by omega
  simp only [this]
theorem C_isSlot_s {t : Int} (ht : qR t) : C_isSlot t S = some (if 0 ≤ t ∧ t < 336 then 1 else 0, S) := by
  obtain ⟨m1, m2⟩ := ht
  simp (disch := omega) only [C_isSlot, qk_r]
  by_cases g1 : t < 0
  · rw [if_pos g1, if_neg (by omega)]
  · rw [if_neg g1]
    by_cases g2 : 336 ≤ t
    · rw [if_pos g2, if_neg (by omega)]
    · rw [if_neg g2, if_pos (by omega)]
theorem M_isSlot_s {t : Int} (ht : qR t) : M_isSlot t S = some (if 0 ≤ t ∧ t < 336 then 1 else 0, S) := by
  obtain ⟨m1, m2⟩ := ht
  simp (disch := omega) only [M_isSlot, qk_r]
  rw [M_in_s ⟨by omega, by omega⟩ ⟨by omega, by omega⟩ ⟨by omega, by omega⟩]
  simp only [ob_some, ite01_z]
  have : (0 ≤ t ∧ t ≤ 335) ↔ (0 ≤ t ∧ t < 336) := by omega
  simp only [this]
theorem C_isWater_s {t : Int} (ht : qR t) : C_isWater t S = some (if 0 ≤ t ∧ t ≤ 300 then 1 else 0, S) := by
  obtain ⟨m1, m2⟩ := ht
  simp (disch := omega) only [C_isWater, qk_r]
  by_cases g1 : t < 0
  · rw [if_pos g1, if_neg (by omega)]
  · rw [if_neg g1]
    by_cases g2 : 300 < t
    · rw [if_pos g2, if_neg (by omega)]
    · rw [if_neg g2, if_pos (by omega)]
theorem M_isWater_s {t : Int} (ht : qR t) : M_isWater t S = some (if 0 ≤ t ∧ t ≤ 300 then 1 else 0, S) := by
  obtain ⟨m1, m2⟩ := ht
  simp (disch := omega) only [M_isWater, qk_r]
  rw [M_in_s ⟨by omega, by omega⟩ ⟨by omega, by omega⟩ ⟨by omega, by omega⟩]
  simp only [ob_some, ite01_z]
theorem C_isCraneNumber_s {t : Int} (ht : qR t) : C_isCraneNumber t S = some (if 1 ≤ t ∧ t ≤ 8 then 1 else 0, S) := by
  obtain ⟨m1, m2⟩ := ht
  simp (disch := omega) only [C_isCraneNumber, qk_r]
  by_cases g1 : t < 1
  · rw [if_pos g1, if_neg (by omega)]
  · rw [if_neg g1]
    by_cases g2 : 8 < t
    · rw [if_pos g2, if_neg (by omega)]
    · rw [if_neg g2, if_pos (by omega)]
theorem C_isShift_s {a b : Int} (ha : qR a) (hb : qR b) : C_isShift a b S = some (if (0 ≤ a ∧ a < 7) ∧ (0 ≤ b ∧ b < 3) then 1 else 0, S) := by
  obtain ⟨m1, m2⟩ := ha
  obtain ⟨n1, n2⟩ := hb
  simp (disch := omega) only [C_isShift, qk_r]
  by_cases g1 : a < 0
  · rw [if_pos g1, if_neg (by omega)]
  · rw [if_neg g1]
    by_cases g2 : 7 ≤ a
    · rw [if_pos g2, if_neg (by omega)]
    · rw [if_neg g2]
      by_cases g3 : b < 0
      · rw [if_pos g3, if_neg (by omega)]
      · rw [if_neg g3]
        by_cases g4 : 3 ≤ b
        · rw [if_pos g4, if_neg (by omega)]
        · rw [if_neg g4, if_pos (by omega)]
theorem M_isShift_s {a b : Int} (ha : qR a) (hb : qR b) : M_isShift a b S = some (if (0 ≤ a ∧ a < 7) ∧ (0 ≤ b ∧ b < 3) then 1 else 0, S) := by
  obtain ⟨m1, m2⟩ := ha
  obtain ⟨n1, n2⟩ := hb
  simp (disch := omega) only [M_isShift, qk_r]
  rw [M_in_s ⟨by omega, by omega⟩ ⟨by omega, by omega⟩ ⟨by omega, by omega⟩]
  simp only [ob_some, ite01_r, ite01_e]
  by_cases g1 : 0 ≤ a ∧ a ≤ 6
  · rw [if_pos g1, M_in_s ⟨by omega, by omega⟩ ⟨by omega, by omega⟩ ⟨by omega, by omega⟩]
    simp only [ob_some, ite01_r, ite01_e]
    by_cases g2 : 0 ≤ b ∧ b ≤ 2
    · rw [if_pos g2, if_pos (by omega)]
    · rw [if_neg g2, if_neg (by omega)]
  · rw [if_neg g1, if_neg (by omega)]
/-- gangs(day, shift) -/
theorem p_gangs (h : iT S T lev) {a b : Int} (ha : qR a) (hb : qR b) : ∃ r, C_gangs a b S = some (r, S) ∧ M_gangs a b S = some (r, S) := by
  simp only [C_gangs, M_gangs, C_isShift_s ha hb, M_isShift_s ha hb, ob_some, ite01_r, ite01_e]
  by_cases g : (0 ≤ a ∧ a < 7) ∧ (0 ≤ b ∧ b < 3)
  · simp only [if_pos g]
    have e1 : a * 3 + b = ((a * 3 + b).toNat : Int) := by omega
    have e2 : 3 * a + b = ((a * 3 + b).toNat : Int) := by omega
    rw [e1, e2, Told_gangsIn_s h (by omega), M_gangsBy_s h (by omega)]
    exact ⟨_, rfl, rfl⟩
  · simp only [if_neg g]
    exact ⟨_, rfl, rfl⟩
/-- crane(crane, what) -/
theorem p_crane (h : iT S T lev) {a b : Int} (ha : qR a) (hb : qR b) : ∃ r, C_crane a b S = some (r, S) ∧ M_crane a b S = some (r, S) := by
  have h0 := h
  obtain ⟨hbd, hr, h72, -, -⟩ := h
  have b7 := hbd.2.2.2.2.2.2.2.1
  obtain ⟨m1, m2⟩ := id ha
  obtain ⟨n1, n2⟩ := id hb
  simp (disch := omega) only [C_crane, M_crane, C_isCrane_s h0 ha, h72 7, qk_r, ob_some, ite01_r, ite01_e]
  rw [M_in_s ⟨by omega, by omega⟩ ⟨by omega, by omega⟩ ⟨by omega, by omega⟩]
  simp only [ob_some, ite01_r, ite01_e]
  by_cases g : 0 ≤ a ∧ a < T 7
  · rw [if_pos g, if_pos (show 0 ≤ a ∧ a ≤ T 7 - 1 by omega), M_in_s ⟨by omega, by omega⟩ ⟨by omega, by omega⟩ ⟨by omega, by omega⟩]
    simp only [ob_some, ite01_r, ite01_e]
    obtain ⟨e1, e2⟩ := hr.2.2.2.2.2.2.1 a.toNat (by omega)
    have f1 : (27 + a).toNat = 27 + a.toNat := by omega
    have f2 : (35 + a).toNat = 35 + a.toNat := by omega
    simp (disch := omega) only [qk_ix, e1, e2, f1, f2, h72]
    by_cases g1 : b = 0
    · subst g1
      exact ⟨_, rfl, rfl⟩
    · simp only [if_neg g1]
      by_cases g2 : b = 1
      · subst g2
        exact ⟨_, rfl, rfl⟩
      · simp only [if_neg g2, if_neg (show ¬ (0 ≤ b ∧ b ≤ 1) by omega)]
        exact ⟨_, rfl, rfl⟩
  · rw [if_neg g, if_neg (show ¬ (0 ≤ a ∧ a ≤ T 7 - 1) by omega)]
    exact ⟨_, rfl, rfl⟩
/-- level(slot) -/
theorem p_level (h : iT S T lev) {a : Int} (ha : qR a) : ∃ r, C_level a S = some (r, S) ∧ M_level a S = some (r, S) := by
  obtain ⟨-, -, -, hl, -⟩ := h
  simp only [C_level, M_level, C_isSlot_s ha, M_isSlot_s ha, ob_some, ite01_r, ite01_e]
  by_cases g : 0 ≤ a ∧ a < 336
  · obtain ⟨l1, l2, -⟩ := hl a.toNat (by omega)
    simp (disch := omega) only [if_pos g, qk_ix, l1, l2]
    exact ⟨_, rfl, rfl⟩
  · simp only [if_neg g]
    exact ⟨_, rfl, rfl⟩
/-- open(water, slot) -/
theorem p_open (h : iT S T lev) {a b : Int} (ha : qR a) (hb : qR b) : ∃ r, C_open a b S = some (r, S) ∧ M_open a b S = some (r, S) := by
  simp only [C_open, M_open, C_isWater_s ha, M_isWater_s ha, C_isSlot_s hb, M_isSlot_s hb, ob_some, ite01_r, ite01_e]
  by_cases g : 0 ≤ a ∧ a ≤ 300
  · by_cases g2 : 0 ≤ b ∧ b < 336
    · have e : b = (b.toNat : Int) := by omega
      rw [e]
      rw [e] at g2
      simp only [if_pos g, if_pos g2, Waters_isOpen_s h (w := a) (t := b.toNat) (by omega) (by omega) (by omega), M_isOpen_s h (w := a) (t := b.toNat) (by omega) (by omega) (by omega), ob_some, ite01_m, ite01_n]
      split <;> exact ⟨_, rfl, rfl⟩
    · simp only [if_pos g, if_neg g2]
      exact ⟨_, rfl, rfl⟩
  · simp only [if_neg g]
    exact ⟨_, rfl, rfl⟩
end PR
