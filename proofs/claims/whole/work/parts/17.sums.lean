/-! ship, shift, busiest, used, meet, rank -/
section PS
variable {S : qSto} {T lev : Nat → Int} {Y : qY}
/-- ship(ship, what) -/
theorem p_ship (h : iA S T lev Y) {a b : Int} (ha : qR a) (hb : qR b) : ∃ r, C_ship a b S = some (r, S) ∧ M_ship a b S = some (r, S) := by
  have h0 := h
  obtain ⟨hI, hB, hc, hm⟩ := h
  have b9 := bT_n hI.1
  obtain ⟨n1, n2⟩ := id hb
  have hrb := qRb_of n1 n2
  simp only [C_ship, M_ship, C_isShip_s hI ha, M_isShip_s hI ha, ob_some, ite01_r, ite01_e, qk_of hrb]
  by_cases g : 0 ≤ a ∧ a < T 9
  · have f : ((a.toNat : Nat) : Int) = a := by omega
    have hs : ((a.toNat : Nat) : Int) < T 9 := by omega
    rw [← f]
    simp only [if_pos (show 0 ≤ ((a.toNat : Nat) : Int) ∧ ((a.toNat : Nat) : Int) < T 9 by omega)]
    rw [M_in_s ⟨by omega, by omega⟩ ⟨by omega, by omega⟩ ⟨by omega, by omega⟩]
    simp only [ob_some, ite01_r, ite01_e]
    by_cases gw : 0 ≤ b ∧ b ≤ 17
    · simp only [if_pos gw, if_neg (show ¬ b < 0 by omega), if_pos (show b < 18 by omega)]
      by_cases g9 : 9 ≤ b
      · simp only [if_pos g9, Stays_has_s hB hc hI.1 (s := a.toNat) (by omega), M_stays_s hB hm hI.1 (s := a.toNat) (by omega), ob_some, ite01_r, ite01_e]
        by_cases gk : 0 < Y.2.2 a.toNat
        · simp only [if_pos gk]
          obtain ⟨e1, e2, e3, e4, e5⟩ := hc.2.1 a.toNat hs gk
          obtain ⟨d1, d3, d4, d5⟩ := hm.2.1 a.toNat hs gk
          have ek := hc.1 a.toNat (by omega)
          have dk := hm.1 a.toNat (by omega)
          have c4 : Told_contractOf ((a.toNat : Nat) : Int) 4 S = some (sCon T a.toNat 4, S) := Told_contractOf_s hI hs (w := 4) (by omega)
          have m4 : M_of ((a.toNat : Nat) : Int) 4 S = some (sCon T a.toNat 4, S) := M_of_s hI hs (w := 4) (by omega)
          have hix : qIx ((a.toNat : Nat) : Int) 14 = true := qIx_of (by omega) (by omega)
          simp only [C_stayFact, qk_of hrb, qk_of hix, Int.toNat_natCast, e1, e3, e4, e5, d1, d3, d4, d5, ek, dk, c4, m4, ob_some, Stays_lateOf_s hI hB hc hs, M_lateOf_s hI hB hm hs gk, Stays_costOf_s hI hB hc hs gk, M_costOf_s hI hB hm hs gk, if_pos gk]
          have hcs : b = 9 ∨ b = 10 ∨ b = 11 ∨ b = 12 ∨ b = 13 ∨ b = 14 ∨ b = 15 ∨ b = 16 ∨ b = 17 := by omega
          rcases hcs with rfl | rfl | rfl | rfl | rfl | rfl | rfl | rfl | rfl <;> exact ⟨_, rfl, rfl⟩
        · simp only [if_neg gk]
          exact ⟨_, rfl, rfl⟩
      · have fb : ((b.toNat : Nat) : Int) = b := by omega
        have e1 := Told_contractOf_s hI hs (w := b.toNat) (by omega)
        have e2 := M_of_s hI hs (w := b.toNat) (by omega)
        rw [fb] at e1 e2
        simp only [if_neg g9, e1, e2, ob_some]
        exact ⟨_, rfl, rfl⟩
    · simp only [if_neg gw]
      by_cases g2 : b < 0
      · simp only [if_pos g2]
        exact ⟨_, rfl, rfl⟩
      · simp only [if_neg g2, if_neg (show ¬ b < 18 by omega)]
        exact ⟨_, rfl, rfl⟩
  · simp only [if_neg g]
    exact ⟨_, rfl, rfl⟩
/-! the most cranes at once in a row of slots -/
theorem busiest_L (h : iA S T lev Y) {q : Nat} (hq : q < 21) : ∀ (j n i : Nat) (a : Int), i + j = 16 * q + 16 → j < n → 0 ≤ a → a ≤ 112 → ∃ r, Stays_busiestIn_L5 n ((q : Int) * 16 + 16) a (i : Int) S = some (r, S) ∧ M_mostCranes_L7 n (q : Int) a (i : Int) S = some (r, S)
  | 0, n + 1, i, a, e, _, _, _ => by
    rw [Stays_busiestIn_L5, M_mostCranes_L7]
    simp (disch := omega) only [qk_r, if_pos (show (q : Int) * 16 + 16 ≤ (i : Int) by omega), if_pos (show 16 * (q : Int) + 16 ≤ (i : Int) by omega)]
    exact ⟨a, rfl, rfl⟩
  | j + 1, n + 1, i, a, e, hn, ha, hb => by
    obtain ⟨hI, hB, hc, hm⟩ := id h
    have eb := hc.2.2.1 i (by omega)
    have bb := sBusy_b hI.1 hB i
    rw [Stays_busiestIn_L5, M_mostCranes_L7]
    simp (disch := omega) only [qk_r, qk_ix, Int.toNat_natCast, eb, if_neg (show ¬ (q : Int) * 16 + 16 ≤ (i : Int) by omega), if_neg (show ¬ 16 * (q : Int) + 16 ≤ (i : Int) by omega), M_cranesIn_s hI hB hm (t := i) (by omega), ob_some]
    rw [Jm_max_s ⟨by omega, by omega⟩ ⟨by omega, by omega⟩]
    simp only [ob_some]
    by_cases g : sBusy T Y i ≤ a
    · simp only [if_pos g, ob_some, Int.max_eq_left g]
      exact busiest_L h hq j n (i + 1) a (by omega) (by omega) ha hb
    · simp only [if_neg g, ob_some, Int.max_eq_right (show a ≤ sBusy T Y i by omega)]
      exact busiest_L h hq j n (i + 1) _ (by omega) (by omega) bb.1 bb.2
theorem p_mostCranes (h : iA S T lev Y) {q : Nat} (hq : q < 21) : ∃ r, Stays_busiestIn ((q : Int) * 16) ((q : Int) * 16 + 16) S = some (r, S) ∧ M_mostCranes (q : Int) S = some (r, S) := by
  obtain ⟨r, e1, e2⟩ := busiest_L h hq 16 qF (16 * q) 0 (by omega) (by unfold qF; omega) (by omega) (by omega)
  have f1 : ((16 * q : Nat) : Int) = (q : Int) * 16 := by omega
  have f2 : ((16 * q : Nat) : Int) = 16 * (q : Int) := by omega
  rw [f1] at e1
  rw [f2] at e2
  rw [Stays_busiestIn, M_mostCranes, e1, e2]
  exact ⟨r, rfl, rfl⟩
theorem M_craneSlots_L (h : iA S T lev Y) {q : Nat} (hq : q < 21) : ∀ (j n i : Nat), i + j = 16 * q + 16 → j < n → 16 * q ≤ i → M_craneSlots_L7 n (q : Int) (sm (sBusy T Y) i - sm (sBusy T Y) (16 * q)) (i : Int) S = some (sm (sBusy T Y) (16 * q + 16) - sm (sBusy T Y) (16 * q), S)
  | 0, n + 1, i, e, _, _ => by
    rw [M_craneSlots_L7]
    simp (disch := omega) only [qk_r, if_pos (show 16 * (q : Int) + 16 ≤ (i : Int) by omega)]
    rw [show i = 16 * q + 16 by omega]
  | j + 1, n + 1, i, e, hn, ha => by
    obtain ⟨hI, hB, hc, hm⟩ := id h
    rw [M_craneSlots_L7]
    simp (disch := omega) only [qk_r, if_neg (show ¬ 16 * (q : Int) + 16 ≤ (i : Int) by omega), M_cranesIn_s hI hB hm (t := i) (by omega), ob_some]
    have ih := M_craneSlots_L h hq j n (i + 1) (by omega) (by omega) (by omega)
    rw [sm] at ih
    rw [show sm (sBusy T Y) i - sm (sBusy T Y) (16 * q) + sBusy T Y i = sm (sBusy T Y) i + sBusy T Y i - sm (sBusy T Y) (16 * q) by omega]
    exact ih
theorem p_craneSlots (h : iA S T lev Y) {q : Nat} (hq : q < 21) : ∃ r, Stays_busyIn ((q : Int) * 16) ((q : Int) * 16 + 16) S = some (r, S) ∧ M_craneSlots (q : Int) S = some (r, S) := by
  have e1 := Stays_busyIn_s h.1 h.2.2.1 (a := 16 * q) (z := 16 * q + 16) (by omega) (by omega)
  have e2 := M_craneSlots_L h hq 16 qF (16 * q) (by omega) (by unfold qF; omega) (by omega)
  rw [Int.sub_self] at e2
  have f1 : ((16 * q : Nat) : Int) = (q : Int) * 16 := by omega
  have f2 : ((16 * q + 16 : Nat) : Int) = (q : Int) * 16 + 16 := by omega
  have f3 : ((16 * q : Nat) : Int) = 16 * (q : Int) := by omega
  rw [f1, f2] at e1
  rw [f3] at e2
  rw [M_craneSlots, e1, e2]
  exact ⟨_, rfl, rfl⟩
/-- shift(day, shift, what) -/
theorem p_shift (h : iA S T lev Y) {a b w : Int} (ha : qR a) (hb : qR b) (hw : qR w) : ∃ r, C_shift a b w S = some (r, S) ∧ M_shift a b w S = some (r, S) := by
  obtain ⟨w1, w2⟩ := id hw
  simp (disch := omega) only [C_shift, M_shift, C_isShift_s ha hb, M_isShift_s ha hb, ob_some, ite01_r, ite01_e, qk_r]
  by_cases g : (0 ≤ a ∧ a < 7) ∧ (0 ≤ b ∧ b < 3)
  · simp only [if_pos g]
    rw [M_in_s ⟨by omega, by omega⟩ ⟨by omega, by omega⟩ ⟨by omega, by omega⟩]
    simp only [ob_some, ite01_r, ite01_e]
    have e1 : a * 3 + b = ((a * 3 + b).toNat : Int) := by omega
    have e2 : 3 * a + b = ((a * 3 + b).toNat : Int) := by omega
    have hq : (a * 3 + b).toNat < 21 := by omega
    rw [e1, e2]
    generalize (a * 3 + b).toNat = q at hq
    obtain ⟨r1, p1, p2⟩ := p_mostCranes h hq
    obtain ⟨r2, s1, s2⟩ := p_craneSlots h hq
    simp only [C_movedIn_s h (q := (q : Int)) (by omega) (by omega), M_boxesIn_s h (q := (q : Int)) (by omega) (by omega), p1, p2, s1, s2, Told_gangsIn_s h.1 hq, M_gangsBy_s h.1 hq, ob_some]
    by_cases gw : 0 ≤ w ∧ w ≤ 3
    · simp only [if_pos gw]
      have hcs : w = 0 ∨ w = 1 ∨ w = 2 ∨ w = 3 := by omega
      rcases hcs with rfl | rfl | rfl | rfl <;> exact ⟨_, rfl, rfl⟩
    · simp only [if_neg gw, if_neg (show ¬ w = 0 by omega), if_neg (show ¬ w = 1 by omega), if_neg (show ¬ w = 2 by omega), if_neg (show ¬ w = 3 by omega)]
      exact ⟨_, rfl, rfl⟩
  · simp only [if_neg g]
    exact ⟨_, rfl, rfl⟩
/-- busiest(what) -/
theorem busy_L (h : iA S T lev Y) : ∀ (j n i x : Nat), i + j = 21 → j < n → x < i → ∃ y : Nat, y < 21 ∧ C_busiest_L18 n (x : Int) (sBox T Y x) (i : Int) S = some ((y : Int), sBox T Y y, S) ∧ M_busiest_L16 n (x : Int) (i : Int) S = some ((y : Int), S)
  | 0, n + 1, i, x, e, _, hx => by
    refine ⟨x, by omega, ?_, ?_⟩
    · rw [C_busiest_L18]
      simp (disch := omega) only [qk_r, if_pos (show (21 : Int) ≤ (i : Int) by omega)]
    · rw [M_busiest_L16]
      simp (disch := omega) only [qk_r, if_pos (show (21 : Int) ≤ (i : Int) by omega)]
  | j + 1, n + 1, i, x, e, hn, hx => by
    have bx := sBox_b h.1.1 h.2.1 (q := (x : Int)) (by omega) (by omega)
    have bi := sBox_b h.1.1 h.2.1 (q := (i : Int)) (by omega) (by omega)
    rw [C_busiest_L18, M_busiest_L16]
    simp (disch := omega) only [qk_r, if_neg (show ¬ (21 : Int) ≤ (i : Int) by omega), C_movedIn_s h (q := (i : Int)) (by omega) (by omega), M_boxesIn_s h (q := (i : Int)) (by omega) (by omega), M_boxesIn_s h (q := (x : Int)) (by omega) (by omega), ob_some]
    by_cases g : sBox T Y i ≤ sBox T Y x
    · simp only [if_pos g, ob_some]
      exact busy_L h j n (i + 1) x (by omega) (by omega) (by omega)
    · simp only [if_neg g, ob_some]
      exact busy_L h j n (i + 1) i (by omega) (by omega) (by omega)
theorem p_busiest (h : iA S T lev Y) {a : Int} (ha : qR a) : ∃ r, C_busiest a S = some (r, S) ∧ M_busiest a S = some (r, S) := by
  obtain ⟨n1, n2⟩ := id ha
  simp (disch := omega) only [C_busiest, M_busiest, qk_r]
  rw [M_in_s ⟨by omega, by omega⟩ ⟨by omega, by omega⟩ ⟨by omega, by omega⟩]
  simp only [ob_some, ite01_r, ite01_e]
  by_cases g : 0 ≤ a ∧ a ≤ 1
  · simp only [if_pos g, if_neg (show ¬ a < 0 by omega), if_pos (show a ≤ 1 by omega)]
    obtain ⟨y, hy, e1, e2⟩ := busy_L h 20 4999 1 0 (by omega) (by omega) (by omega)
    have b0 := sBox_b h.1.1 h.2.1 (q := 0) (by omega) (by omega)
    have e0 : C_busiest_L18 qF 0 0 0 S = some ((y : Int), sBox T Y y, S) := by
      show C_busiest_L18 (4999 + 1) 0 0 0 S = _
      rw [C_busiest_L18]
      simp (disch := omega) only [qk_r, if_neg (show ¬ (21 : Int) ≤ 0 by omega), C_movedIn_s h (q := 0) (by omega) (by omega), ob_some]
      by_cases q : sBox T Y 0 ≤ 0
      · simp only [if_pos q, ob_some]
        have z : sBox T Y ((0 : Nat) : Int) = 0 := by
          show sBox T Y 0 = 0
          omega
        rw [z] at e1
        exact e1
      · simp only [if_neg q, ob_some]
        exact e1
    have e3 : M_busiest_L16 qF 0 1 S = some ((y : Int), S) := by
      obtain ⟨y', hy', e1', e2'⟩ := busy_L h 20 qF 1 0 (by omega) (by unfold qF; omega) (by omega)
      have e4 : M_busiest_L16 qF 0 1 S = some ((y' : Int), S) := e2'
      obtain ⟨y2, hy2, f1, f2⟩ := busy_L h 20 5000 1 0 (by omega) (by omega) (by omega)
      rw [e4]
      have key : ∀ (j n n2 i x : Nat), i + j = 21 → j < n → j < n2 → x < i → M_busiest_L16 n (x : Int) (i : Int) S = M_busiest_L16 n2 (x : Int) (i : Int) S := by
        intro j
        induction j with
        | zero =>
          intro n n2 i x a1 a2 a3 a4
          obtain ⟨n, rfl⟩ : ∃ k, n = k + 1 := ⟨n - 1, by omega⟩
          obtain ⟨n2, rfl⟩ : ∃ k, n2 = k + 1 := ⟨n2 - 1, by omega⟩
          rw [M_busiest_L16, M_busiest_L16]
          simp (disch := omega) only [qk_r, if_pos (show (21 : Int) ≤ (i : Int) by omega)]
        | succ j ih =>
          intro n n2 i x a1 a2 a3 a4
          obtain ⟨n, rfl⟩ : ∃ k, n = k + 1 := ⟨n - 1, by omega⟩
          obtain ⟨n2, rfl⟩ : ∃ k, n2 = k + 1 := ⟨n2 - 1, by omega⟩
          have bx := sBox_b h.1.1 h.2.1 (q := (x : Int)) (by omega) (by omega)
          have bi := sBox_b h.1.1 h.2.1 (q := (i : Int)) (by omega) (by omega)
          rw [M_busiest_L16, M_busiest_L16]
          simp (disch := omega) only [qk_r, if_neg (show ¬ (21 : Int) ≤ (i : Int) by omega), M_boxesIn_s h (q := (i : Int)) (by omega) (by omega), M_boxesIn_s h (q := (x : Int)) (by omega) (by omega), ob_some]
          by_cases g : sBox T Y i ≤ sBox T Y x
          · simp only [if_pos g, ob_some]
            exact ih n n2 (i + 1) x (by omega) (by omega) (by omega) (by omega)
          · simp only [if_neg g, ob_some]
            exact ih n n2 (i + 1) i (by omega) (by omega) (by omega) (by omega)
      have k1 := key 20 qF 4999 1 0 (by omega) (by unfold qF; omega) (by omega) (by omega)
      rw [e2'] at k1
      rw [e2] at k1
      exact k1
    rw [e0, e3]
    have by_ := sBox_b h.1.1 h.2.1 (q := (y : Int)) (by omega) (by omega)
    simp only [ob_some]
    have hcs : a = 0 ∨ a = 1 := by omega
    rcases hcs with rfl | rfl
    · exact ⟨_, rfl, rfl⟩
    · refine ⟨sBox T Y y, rfl, ?_⟩
      rw [if_neg (by omega), M_boxesIn_s h (q := (y : Int)) (by omega) (by omega)]
      rfl
  · simp only [if_neg g]
    by_cases g2 : a < 0
    · simp only [if_pos g2]
      exact ⟨_, rfl, rfl⟩
    · simp only [if_neg g2, if_neg (show ¬ a ≤ 1 by omega)]
      exact ⟨_, rfl, rfl⟩
end PS
