/-! used, meet, rank -/
def sLy (T lev : Nat → Int) (Y : qY) (s t : Nat) : Prop := 0 < Y.2.2 s ∧ Y.2.1 s ≤ t ∧ (t : Int) < sLeave T lev s (Y.2.1 s) (Y.2.2 s)
def sSlots (T lev : Nat → Int) (Y : qY) (s : Nat) (a b : Int) : Int := if 0 < Y.2.2 s then max 0 (min b (sLeave T lev s (Y.2.1 s) (Y.2.2 s)) - max a (Y.2.1 s)) else 0
theorem sm_seg (a w : Nat) (k : Int) (b e : Nat) (hbe : b ≤ e) : sm (fun t => if a ≤ t ∧ t < a + w then k else 0) e - sm (fun t => if a ≤ t ∧ t < a + w then k else 0) b = k * max 0 ((min e (a + w) : Nat) - (max b a : Nat) : Int) := by
  rw [sm_row, sm_row, ← Int.mul_sub]
  congr 1
  omega
section PU
variable {S : qSto} {T lev : Nat → Int} {Y : qY}
theorem Stays_slotsIn_s (h : iA S T lev Y) {s : Nat} (hs : (s : Int) < T 9) {a b : Int} (ha : 0 ≤ a ∧ a ≤ 400) (hb : 0 ≤ b ∧ b ≤ 400) : Stays_slotsIn (s : Int) a b S = some (sSlots T lev Y s a b, S) := by
  obtain ⟨hI, hB, hc, hm⟩ := h
  have b9 := bT_n hI.1
  simp only [Stays_slotsIn, Stays_has_s hB hc hI.1 (s := s) (by omega), ob_some, ite01_r, ite01_e]
  unfold sSlots
  by_cases g : 0 < Y.2.2 s
  · have o := bY_one hI.1 hB hs g
    obtain ⟨-, -, e3, -, e5⟩ := hc.2.1 s hs g
    simp (disch := omega) only [if_pos g, qk_ix, Int.toNat_natCast, e5]
    rw [Jm_min_s ⟨by omega, by omega⟩ ⟨by omega, by omega⟩]
    simp (disch := omega) only [ob_some, qk_ix, Int.toNat_natCast, e3]
    rw [Jm_max_s ⟨by omega, by omega⟩ ⟨by omega, by omega⟩]
    simp only [ob_some]
    rw [Jm_max_s ⟨by omega, by omega⟩ ⟨by omega, by omega⟩]
    rfl
  · simp only [if_neg g]
theorem sSlots_b (hT : bT T) (hB : bY T lev Y) {s : Nat} (hs : (s : Int) < T 9) {a b : Int} (ha : 0 ≤ a) (hb : b ≤ a + 48) : 0 ≤ sSlots T lev Y s a b ∧ sSlots T lev Y s a b ≤ 48 := by
  unfold sSlots
  split
  · omega
  · omega
def sLong (T lev : Nat → Int) (Y : qY) (d : Int) (n : Nat) : Int := sm (fun s => sCon T s 0 * sSlots T lev Y s (48 * d) (48 * d + 48)) n
theorem sLong_b (hT : bT T) (hB : bY T lev Y) {d : Int} (h0 : 0 ≤ d) {n : Nat} (hn : (n : Int) ≤ T 9) : 0 ≤ sLong T lev Y d n ∧ sLong T lev Y d n ≤ 268800 := by
  have b9 := bT_n hT
  have := sm_bnd (f := fun s => sCon T s 0 * sSlots T lev Y s (48 * d) (48 * d + 48)) (c := 19200) (n := n) (fun s hs => by
    have c := bT_con hT (s := s) (by omega)
    have p := sSlots_b hT hB (s := s) (by omega) (a := 48 * d) (b := 48 * d + 48) (by omega) (by omega)
    have := bnd_mul (a := sCon T s 0) (b := sSlots T lev Y s (48 * d) (48 * d + 48)) (A := 400) (B := 48) (by omega) (by omega) p.1 p.2
    omega)
  unfold sLong
  omega
theorem C_used_L (h : iA S T lev Y) {d : Int} (h0 : 0 ≤ d) (h1 : d < 7) : ∀ (j n i : Nat), (i : Int) + j = T 9 → j < n → C_used_L16 n d (sLong T lev Y d i) (i : Int) S = some (sLong T lev Y d (sN T), S)
  | 0, n + 1, i, e, _ => by
    have b9 := bT_n h.1.1
    have e2 := h.1.2.1.2.2.2.2.1
    rw [C_used_L16]
    simp (disch := omega) only [qk_r, e2]
    rw [if_pos (by omega)]
    unfold sN
    rw [show (T 9).toNat = i by omega]
  | j + 1, n + 1, i, e, hn => by
    have b9 := bT_n h.1.1
    have e2 := h.1.2.1.2.2.2.2.1
    have ec : Told_contractOf (i : Int) 0 S = some (sCon T i 0, S) := Told_contractOf_s h.1 (s := i) (by omega) (w := 0) (by omega)
    have f1 : d * 48 = 48 * d := by omega
    have f2 : (d + 1) * 48 = 48 * d + 48 := by omega
    rw [C_used_L16]
    simp (disch := omega) only [qk_r, e2, if_neg (show ¬ T 9 ≤ (i : Int) by omega), ec, ob_some, f1, f2, Stays_slotsIn_s h (s := i) (a := 48 * d) (b := 48 * d + 48) (by omega) (by omega) (by omega)]
    exact C_used_L h h0 h1 j n (i + 1) (by omega) (by omega)
theorem M_used_L35s (h : iA S T lev Y) {t : Nat} (ht : t < 336) (a : Int) : ∀ (j n i : Nat), (i : Int) + j = T 9 → j < n → M_used_L35 n (a + sm (fun s => if 0 < Y.2.2 s ∧ Y.2.1 s ≤ t ∧ (t : Int) < sLeave T lev s (Y.2.1 s) (Y.2.2 s) then sCon T s 0 else 0) i) (t : Int) (i : Int) S = some (a + sm (fun s => if 0 < Y.2.2 s ∧ Y.2.1 s ≤ t ∧ (t : Int) < sLeave T lev s (Y.2.1 s) (Y.2.2 s) then sCon T s 0 else 0) (sN T), S)
  | 0, n + 1, i, e, _ => by
    have b9 := bT_n h.1.1
    have e2 := h.1.2.2.1 9
    rw [M_used_L35]
    simp (disch := omega) only [qk_r, e2]
    rw [if_pos (by omega)]
    unfold sN
    rw [show (T 9).toNat = i by omega]
  | j + 1, n + 1, i, e, hn => by
    have b9 := bT_n h.1.1
    have e2 := h.1.2.2.1 9
    have ec : M_of (i : Int) 0 S = some (sCon T i 0, S) := M_of_s h.1 (s := i) (by omega) (w := 0) (by omega)
    rw [M_used_L35]
    simp (disch := omega) only [qk_r, e2, if_neg (show ¬ T 9 ≤ (i : Int) by omega), M_isLying_s h (s := i) (t := t) (by omega) ht, ob_some, ite01_r, ite01_e, ec]
    have ih := M_used_L35s h ht a j n (i + 1) (by omega) (by omega)
    rw [sm, ← Int.add_assoc] at ih
    by_cases g : 0 < Y.2.2 i ∧ Y.2.1 i ≤ t ∧ (t : Int) < sLeave T lev i (Y.2.1 i) (Y.2.2 i)
    · simp only [if_pos g, ob_some] at ih ⊢
      exact ih
    · simp only [if_neg g, ob_some, Int.add_zero] at ih ⊢
      exact ih
def sLie1 (T lev : Nat → Int) (Y : qY) (t : Nat) : Int := sm (fun s => if 0 < Y.2.2 s ∧ Y.2.1 s ≤ t ∧ (t : Int) < sLeave T lev s (Y.2.1 s) (Y.2.2 s) then sCon T s 0 else 0) (sN T)
theorem M_used_L21s (h : iA S T lev Y) {d : Nat} (hd : d < 7) : ∀ (j n i : Nat), i + j = 48 * d + 48 → j < n → 48 * d ≤ i → M_used_L21 n (d : Int) (sm (sLie1 T lev Y) i - sm (sLie1 T lev Y) (48 * d)) (i : Int) S = some (sm (sLie1 T lev Y) (48 * d + 48) - sm (sLie1 T lev Y) (48 * d), S)
  | 0, n + 1, i, e, _, _ => by
    rw [M_used_L21]
    simp (disch := omega) only [qk_r, if_pos (show 48 * (d : Int) + 48 ≤ (i : Int) by omega)]
    rw [show i = 48 * d + 48 by omega]
  | j + 1, n + 1, i, e, hn, ha => by
    have b9 := bT_n h.1.1
    rw [M_used_L21]
    simp (disch := omega) only [qk_r, if_neg (show ¬ 48 * (d : Int) + 48 ≤ (i : Int) by omega)]
    have e1 := M_used_L35s h (t := i) (by omega) (sm (sLie1 T lev Y) i - sm (sLie1 T lev Y) (48 * d)) (T 9).toNat qF 0 (by omega) (by unfold qF; omega)
    have z : sm (fun s => if 0 < Y.2.2 s ∧ Y.2.1 s ≤ i ∧ (i : Int) < sLeave T lev s (Y.2.1 s) (Y.2.2 s) then sCon T s 0 else 0) 0 = 0 := rfl
    rw [z, Int.add_zero] at e1
    have e1' : M_used_L35 qF (sm (sLie1 T lev Y) i - sm (sLie1 T lev Y) (48 * d)) (i : Int) 0 S = _ := e1
    rw [e1', ob_some]
    have ih := M_used_L21s h hd j n (i + 1) (by omega) (by omega) (by omega)
    rw [sm] at ih
    have e2 : sm (sLie1 T lev Y) i - sm (sLie1 T lev Y) (48 * d) + sLie1 T lev Y i = sm (sLie1 T lev Y) i + sLie1 T lev Y i - sm (sLie1 T lev Y) (48 * d) := by omega
    rw [← e2] at ih
    exact ih
theorem sm_sub (f g : Nat → Int) : ∀ n : Nat, sm f n - sm g n = sm (fun k => f k - g k) n
  | 0 => rfl
  | n + 1 => by rw [sm, sm, sm, ← sm_sub f g n]; omega
theorem used_eq (hT : bT T) (hB : bY T lev Y) {d : Nat} (hd : d < 7) : sm (sLie1 T lev Y) (48 * d + 48) - sm (sLie1 T lev Y) (48 * d) = sLong T lev Y d (sN T) := by
  have b9 := bT_n hT
  have e : ∀ z : Nat, sm (sLie1 T lev Y) z = sm (fun s => sm (fun t => if 0 < Y.2.2 s ∧ Y.2.1 s ≤ t ∧ (t : Int) < sLeave T lev s (Y.2.1 s) (Y.2.2 s) then sCon T s 0 else 0) z) (sN T) := fun z => sm_swap (fun t s => if 0 < Y.2.2 s ∧ Y.2.1 s ≤ t ∧ (t : Int) < sLeave T lev s (Y.2.1 s) (Y.2.2 s) then sCon T s 0 else 0) (sN T) z
  rw [e, e, sm_sub]
  unfold sLong
  apply sm_cong
  intro s hs
  unfold sSlots
  by_cases g : 0 < Y.2.2 s
  · rw [if_pos g]
    have o := bY_one hT hB (s := s) (by unfold sN at hs; omega) g
    have e1 : ∀ z : Nat, sm (fun t => if 0 < Y.2.2 s ∧ Y.2.1 s ≤ t ∧ (t : Int) < sLeave T lev s (Y.2.1 s) (Y.2.2 s) then sCon T s 0 else 0) z = sm (fun t => if (Y.2.1 s).toNat ≤ t ∧ t < (Y.2.1 s).toNat + (sLeave T lev s (Y.2.1 s) (Y.2.2 s) - Y.2.1 s).toNat then sCon T s 0 else 0) z := fun z => sm_cong (fun t ht => by
      by_cases q : (Y.2.1 s).toNat ≤ t ∧ t < (Y.2.1 s).toNat + (sLeave T lev s (Y.2.1 s) (Y.2.2 s) - Y.2.1 s).toNat
      · rw [if_pos q, if_pos ⟨g, by omega, by omega⟩]
      · rw [if_neg q, if_neg (fun z => q ⟨by omega, by omega⟩)])
    rw [e1, e1, sm_seg _ _ _ _ _ (by omega)]
    have e9 : (max 0 (((min (48 * d + 48) ((Y.2.1 s).toNat + (sLeave T lev s (Y.2.1 s) (Y.2.2 s) - Y.2.1 s).toNat) : Nat) : Int) - (max (48 * d) (Y.2.1 s).toNat : Nat))) = max 0 (min (48 * (d : Int) + 48) (sLeave T lev s (Y.2.1 s) (Y.2.2 s)) - max (48 * (d : Int)) (Y.2.1 s)) := by omega
    rw [e9]
  · have e1 : ∀ z : Nat, sm (fun t => if 0 < Y.2.2 s ∧ Y.2.1 s ≤ t ∧ (t : Int) < sLeave T lev s (Y.2.1 s) (Y.2.2 s) then sCon T s 0 else 0) z = 0 := fun z => by rw [sm_cong (g := fun _ => 0) (fun t ht => by rw [if_neg (fun q => g q.1)]), sm_zero]
    rw [e1, e1, if_neg g, Int.mul_zero]
    rfl
/-- used(day) -/
theorem p_used (h : iA S T lev Y) {a : Int} (ha : qR a) : ∃ r, C_used a S = some (r, S) ∧ M_used a S = some (r, S) := by
  obtain ⟨n1, n2⟩ := id ha
  have b9 := bT_n h.1.1
  have b0 := h.1.1.1
  have e15 := h.1.2.1.1 0 (by omega)
  have e72 := h.1.2.2.1 0
  simp (disch := omega) only [C_used, M_used, qk_r]
  rw [M_in_s ⟨by omega, by omega⟩ ⟨by omega, by omega⟩ ⟨by omega, by omega⟩]
  simp only [ob_some, ite01_r, ite01_e]
  by_cases g : 0 ≤ a ∧ a ≤ 6
  · simp only [if_pos g, if_neg (show ¬ a < 0 by omega), if_pos (show a < 7 by omega)]
    have f : ((a.toNat : Nat) : Int) = a := by omega
    have e1 := C_used_L h (d := a) (by omega) (by omega) (T 9).toNat qF 0 (by omega) (by unfold qF; omega)
    have e1' : C_used_L16 qF a 0 0 S = some (sLong T lev Y a (sN T), S) := e1
    have e2 := M_used_L21s h (d := a.toNat) (by omega) 48 qF (48 * a.toNat) (by omega) (by unfold qF; omega) (by omega)
    have f2 : ((48 * a.toNat : Nat) : Int) = 48 * a := by omega
    rw [Int.sub_self, used_eq h.1.1 h.2.1 (by omega), f2, f] at e2
    have lb := sLong_b h.1.1 h.2.1 (d := a) (by omega) (n := sN T) (by unfold sN; omega)
    rw [e1', e2]
    simp only [ob_some, e15, e72]
    rw [Jm_max_s ⟨by omega, by omega⟩ ⟨by omega, by omega⟩]
    simp (disch := omega) only [ob_some, qk_r, qk_nz, Int.max_eq_right (show (1 : Int) ≤ T 0 by omega)]
    rw [Int.mul_comm _ 100, Int.mul_comm _ 48]
    exact ⟨_, rfl, rfl⟩
  · simp only [if_neg g]
    by_cases g2 : a < 0
    · simp only [if_pos g2]
      exact ⟨_, rfl, rfl⟩
    · simp only [if_neg g2, if_neg (show ¬ a < 7 by omega)]
      exact ⟨_, rfl, rfl⟩
/-- meet(one, other) -/
theorem M_meet_L (h : iA S T lev Y) {s u : Nat} (hs : (s : Int) < T 9) (hu : (u : Int) < T 9) : ∀ (j n i : Nat), i + j = 336 → j < n → M_meet_L28 n (s : Int) (u : Int) (sm (fun t => if (0 < Y.2.2 s ∧ Y.2.1 s ≤ t ∧ (t : Int) < sLeave T lev s (Y.2.1 s) (Y.2.2 s)) ∧ (0 < Y.2.2 u ∧ Y.2.1 u ≤ t ∧ (t : Int) < sLeave T lev u (Y.2.1 u) (Y.2.2 u)) then 1 else 0) i) (i : Int) S = some (sm (fun t => if (0 < Y.2.2 s ∧ Y.2.1 s ≤ t ∧ (t : Int) < sLeave T lev s (Y.2.1 s) (Y.2.2 s)) ∧ (0 < Y.2.2 u ∧ Y.2.1 u ≤ t ∧ (t : Int) < sLeave T lev u (Y.2.1 u) (Y.2.2 u)) then 1 else 0) 336, S)
  | 0, n + 1, i, e, _ => by
    rw [M_meet_L28]
    simp (disch := omega) only [qk_r, if_pos (show (336 : Int) ≤ (i : Int) by omega)]
    rw [show i = 336 by omega]
  | j + 1, n + 1, i, e, hn => by
    rw [M_meet_L28]
    simp (disch := omega) only [qk_r, if_neg (show ¬ (336 : Int) ≤ (i : Int) by omega), M_isLying_s h (s := s) (t := i) hs (by omega), M_isLying_s h (s := u) (t := i) hu (by omega), ob_some, ite01_r, ite01_e]
    have ih := M_meet_L h hs hu j n (i + 1) (by omega) (by omega)
    rw [sm] at ih
    by_cases g1 : 0 < Y.2.2 s ∧ Y.2.1 s ≤ i ∧ (i : Int) < sLeave T lev s (Y.2.1 s) (Y.2.2 s)
    · by_cases g2 : 0 < Y.2.2 u ∧ Y.2.1 u ≤ i ∧ (i : Int) < sLeave T lev u (Y.2.1 u) (Y.2.2 u)
      · rw [if_pos ⟨g1, g2⟩] at ih
        simp only [if_pos g1, if_pos g2, ob_some]
        exact ih
      · rw [if_neg (fun q => g2 q.2), Int.add_zero] at ih
        simp only [if_pos g1, if_neg g2, ob_some]
        exact ih
    · rw [if_neg (fun q => g1 q.1), Int.add_zero] at ih
      simp only [if_neg g1, ob_some]
      exact ih
theorem meet_eq (hT : bT T) (hB : bY T lev Y) {s u : Nat} (hs : (s : Int) < T 9) (hu : (u : Int) < T 9) (g : 0 < Y.2.2 s) : sm (fun t => if (0 < Y.2.2 s ∧ Y.2.1 s ≤ t ∧ (t : Int) < sLeave T lev s (Y.2.1 s) (Y.2.2 s)) ∧ (0 < Y.2.2 u ∧ Y.2.1 u ≤ t ∧ (t : Int) < sLeave T lev u (Y.2.1 u) (Y.2.2 u)) then 1 else 0) 336 = sSlots T lev Y u (Y.2.1 s) (sLeave T lev s (Y.2.1 s) (Y.2.2 s)) := by
  have o := bY_one hT hB hs g
  unfold sSlots
  by_cases g2 : 0 < Y.2.2 u
  · have o2 := bY_one hT hB hu g2
    rw [if_pos g2]
    rw [sm_cong (g := fun t => if (max (Y.2.1 s) (Y.2.1 u)).toNat ≤ t ∧ t < (max (Y.2.1 s) (Y.2.1 u)).toNat + (min (sLeave T lev s (Y.2.1 s) (Y.2.2 s)) (sLeave T lev u (Y.2.1 u) (Y.2.2 u)) - max (Y.2.1 s) (Y.2.1 u)).toNat then 1 else 0) (fun t ht => by
      by_cases q : (max (Y.2.1 s) (Y.2.1 u)).toNat ≤ t ∧ t < (max (Y.2.1 s) (Y.2.1 u)).toNat + (min (sLeave T lev s (Y.2.1 s) (Y.2.2 s)) (sLeave T lev u (Y.2.1 u) (Y.2.2 u)) - max (Y.2.1 s) (Y.2.1 u)).toNat
      · rw [if_pos q, if_pos ⟨⟨g, by omega, by omega⟩, g2, by omega, by omega⟩]
      · rw [if_neg q, if_neg (fun z => q ⟨by omega, by omega⟩)]), sm_row, Int.one_mul]
    omega
  · rw [if_neg g2, sm_cong (g := fun _ => 0) (fun t ht => by rw [if_neg (fun q => g2 q.2.1)]), sm_zero]
theorem p_meet (h : iA S T lev Y) {a b : Int} (ha : qR a) (hb : qR b) : ∃ r, C_meet a b S = some (r, S) ∧ M_meet a b S = some (r, S) := by
  obtain ⟨hI, hB, hc, hm⟩ := id h
  obtain ⟨m1, m2⟩ := id ha
  obtain ⟨n1, n2⟩ := id hb
  have b9 := bT_n hI.1
  simp (disch := omega) only [C_meet, M_meet, C_isShip_s hI ha, M_isShip_s hI ha, C_isShip_s hI hb, M_isShip_s hI hb, ob_some, ite01_r, ite01_e, qk_r]
  by_cases g : 0 ≤ a ∧ a < T 9
  · by_cases g2 : 0 ≤ b ∧ b < T 9
    · simp only [if_pos g, if_pos g2]
      by_cases g3 : a = b
      · simp only [if_pos g3]
        exact ⟨_, rfl, rfl⟩
      · simp only [if_neg g3]
        have f1 : ((a.toNat : Nat) : Int) = a := by omega
        have f2 : ((b.toNat : Nat) : Int) = b := by omega
        have e2 := M_meet_L h (s := a.toNat) (u := b.toNat) (by omega) (by omega) 336 qF 0 (by omega) (by unfold qF; omega)
        rw [f1, f2] at e2
        have e2' : M_meet_L28 qF a b 0 0 S = _ := e2
        rw [e2']
        have eh := Stays_has_s hB hc hI.1 (s := a.toNat) (by omega)
        rw [f1] at eh
        simp only [eh, ob_some, ite01_r, ite01_e]
        by_cases gk : 0 < Y.2.2 a.toNat
        · have o := bY_one hI.1 hB (s := a.toNat) (by omega) gk
          obtain ⟨-, -, d3, -, d5⟩ := hc.2.1 a.toNat (by omega) gk
          have es := Stays_slotsIn_s h (s := b.toNat) (by omega) (a := Y.2.1 a.toNat) (b := sLeave T lev a.toNat (Y.2.1 a.toNat) (Y.2.2 a.toNat)) (by omega) (by omega)
          rw [f2] at es
          simp (disch := omega) only [if_pos gk, qk_ix, d3, d5, es, ob_some]
          rw [meet_eq hI.1 hB (by omega) (by omega) gk]
          exact ⟨_, rfl, rfl⟩
        · simp only [if_neg gk]
          rw [sm_cong (g := fun _ => 0) (fun t ht => by rw [if_neg (fun q => gk q.1.1)]), sm_zero]
          exact ⟨_, rfl, rfl⟩
    · simp only [if_pos g, if_neg g2]
      exact ⟨_, rfl, rfl⟩
  · simp only [if_neg g]
    exact ⟨_, rfl, rfl⟩
end PU
