/-! saved stays: rows of the class, rows of the reference -/
/-- a row holds the stays Y -/
def gR (f : Nat → Int) (Y : qY) : Prop := ∀ s : Nat, s < 14 → f (3 * s + 2) = Y.2.2 s ∧ (0 < Y.2.2 s → f (3 * s) = Y.1 s ∧ f (3 * s + 1) = Y.2.1 s) ∧ (-1000000 ≤ f (3 * s) ∧ f (3 * s) ≤ 1000000) ∧ (-1000000 ≤ f (3 * s + 1) ∧ f (3 * s + 1) ≤ 1000000)
abbrev mR (S : qSto) (r : Nat) : Nat → Int := fun i => S 85 (42 * r + i)
theorem gR_cong {f g : Nat → Int} {Y : qY} (h : gR f Y) (e : ∀ i, i < 42 → g i = f i) : gR g Y := fun s hs => by
  rw [e _ (by omega), e _ (by omega), e _ (by omega)]
  exact h s hs
theorem gR_E {f : Nat → Int} {Y Y' : qY} (h : gR f Y) (e : yE Y Y') : gR f Y' := fun s hs => by
  obtain ⟨a, b, c⟩ := h s hs
  rw [← e.1 s]
  refine ⟨a, fun hk => ?_, c⟩
  rw [← (e.2 s hk).1, ← (e.2 s hk).2]
  exact b hk
section PSV
variable {T lev : Nat → Int} {Y : qY}
theorem save_14_L : ∀ (j n i : Nat) (S : qSto), i + j = 14 → j < n → ∃ S', Stays_save_14_L2 n (i : Int) S = some S' ∧ fO 14 S S' ∧ (∀ u, u < 3 * i → S' 14 u = S 14 u) ∧ ∀ s : Nat, i ≤ s → s < 14 → S' 14 (3 * s) = S 37 s ∧ S' 14 (3 * s + 1) = S 39 s ∧ S' 14 (3 * s + 2) = S 40 s
  | 0, n + 1, i, S, h, _ => by
    rw [Stays_save_14_L2]
    simp (disch := omega) only [qk_r, if_pos (show (14 : Int) ≤ (i : Int) by omega)]
    exact ⟨S, rfl, fun c _ => rfl, fun _ _ => rfl, fun s a b => by omega⟩
  | j + 1, n + 1, i, S, h, hn => by
    have e0 : ((i : Int) * 3).toNat = 3 * i := by omega
    have e1 : ((i : Int) * 3 + 1).toNat = 3 * i + 1 := by omega
    have e2 : ((i : Int) * 3 + 2).toNat = 3 * i + 2 := by omega
    rw [Stays_save_14_L2]
    simp (disch := omega) only [qk_r, qk_ix, if_neg (show ¬ (14 : Int) ≤ (i : Int) by omega), Int.toNat_natCast, e0, e1, e2]
    have f1 : (qup S 14 (3 * i) (S 37 i)) 39 i = S 39 i := by rw [qup_off (by omega)]
    have f2 : (qup (qup S 14 (3 * i) (S 37 i)) 14 (3 * i + 1) (S 39 i)) 40 i = S 40 i := by rw [qup_off (by omega), qup_off (by omega)]
    rw [f1, f2]
    obtain ⟨S', t1, t2, t3, t4⟩ := save_14_L j n (i + 1) (qup (qup (qup S 14 (3 * i) (S 37 i)) 14 (3 * i + 1) (S 39 i)) 14 (3 * i + 2) (S 40 i)) (by omega) (by omega)
    refine ⟨S', t1, fun c' hc => ?_, fun u hu => ?_, fun s a b => ?_⟩
    · rw [t2 c' hc, qup_off hc, qup_off hc, qup_off hc]
    · rw [t3 u (by omega), qup_on, if_neg (by omega), qup_on, if_neg (by omega), qup_on, if_neg (by omega)]
    · by_cases q : s = i
      · subst q
        rw [t3 _ (by omega), t3 _ (by omega), t3 _ (by omega)]
        refine ⟨?_, ?_, ?_⟩
        · rw [qup_on, if_neg (by omega), qup_on, if_neg (by omega), qup_on, if_pos rfl]
        · rw [qup_on, if_neg (by omega), qup_on, if_pos rfl]
        · rw [qup_on, if_pos rfl]
      · have z := t4 s (by omega) b
        rw [qup_off (show (37 : Nat) ≠ 14 by omega), qup_off (show (37 : Nat) ≠ 14 by omega), qup_off (show (37 : Nat) ≠ 14 by omega), qup_off (show (39 : Nat) ≠ 14 by omega), qup_off (show (39 : Nat) ≠ 14 by omega), qup_off (show (39 : Nat) ≠ 14 by omega), qup_off (show (40 : Nat) ≠ 14 by omega), qup_off (show (40 : Nat) ≠ 14 by omega), qup_off (show (40 : Nat) ≠ 14 by omega)] at z
        exact z
theorem save_x_L {x : Nat} (hx : qAr x 42 = true) (ha : x ≠ 37 ∧ x ≠ 39 ∧ x ≠ 40) : ∀ (j n i : Nat) (S : qSto), i + j = 14 → j < n → ∃ S', Stays_save_x_L2 n x (i : Int) S = some S' ∧ fO x S S' ∧ (∀ u, u < 3 * i → S' x u = S x u) ∧ ∀ s : Nat, i ≤ s → s < 14 → S' x (3 * s) = S 37 s ∧ S' x (3 * s + 1) = S 39 s ∧ S' x (3 * s + 2) = S 40 s
  | 0, n + 1, i, S, h, _ => by
    rw [Stays_save_x_L2]
    simp (disch := omega) only [qk_r, if_pos (show (14 : Int) ≤ (i : Int) by omega)]
    exact ⟨S, rfl, fun c _ => rfl, fun _ _ => rfl, fun s a b => by omega⟩
  | j + 1, n + 1, i, S, h, hn => by
    have e0 : ((i : Int) * 3).toNat = 3 * i := by omega
    have e1 : ((i : Int) * 3 + 1).toNat = 3 * i + 1 := by omega
    have e2 : ((i : Int) * 3 + 2).toNat = 3 * i + 2 := by omega
    rw [Stays_save_x_L2]
    simp (disch := omega) only [qk_of hx, qk_r, qk_ix, if_neg (show ¬ (14 : Int) ≤ (i : Int) by omega), Int.toNat_natCast, e0, e1, e2]
    have f1 : (qup S x (3 * i) (S 37 i)) 39 i = S 39 i := by rw [qup_off (by omega)]
    have f2 : (qup (qup S x (3 * i) (S 37 i)) x (3 * i + 1) (S 39 i)) 40 i = S 40 i := by rw [qup_off (by omega), qup_off (by omega)]
    rw [f1, f2]
    obtain ⟨S', t1, t2, t3, t4⟩ := save_x_L hx ha j n (i + 1) (qup (qup (qup S x (3 * i) (S 37 i)) x (3 * i + 1) (S 39 i)) x (3 * i + 2) (S 40 i)) (by omega) (by omega)
    refine ⟨S', t1, fun c' hc => ?_, fun u hu => ?_, fun s a b => ?_⟩
    · rw [t2 c' hc, qup_off hc, qup_off hc, qup_off hc]
    · rw [t3 u (by omega), qup_on, if_neg (by omega), qup_on, if_neg (by omega), qup_on, if_neg (by omega)]
    · by_cases q : s = i
      · subst q
        rw [t3 _ (by omega), t3 _ (by omega), t3 _ (by omega)]
        refine ⟨?_, ?_, ?_⟩
        · rw [qup_on, if_neg (by omega), qup_on, if_neg (by omega), qup_on, if_pos rfl]
        · rw [qup_on, if_neg (by omega), qup_on, if_pos rfl]
        · rw [qup_on, if_pos rfl]
      · have z := t4 s (by omega) b
        rw [qup_off (show (37 : Nat) ≠ x by omega), qup_off (show (37 : Nat) ≠ x by omega), qup_off (show (37 : Nat) ≠ x by omega), qup_off (show (39 : Nat) ≠ x by omega), qup_off (show (39 : Nat) ≠ x by omega), qup_off (show (39 : Nat) ≠ x by omega), qup_off (show (40 : Nat) ≠ x by omega), qup_off (show (40 : Nat) ≠ x by omega), qup_off (show (40 : Nat) ≠ x by omega)] at z
        exact z
theorem save_14_s {S : qSto} (hB : bY T lev Y) (hT : bT T) (hc : cY S T lev Y) : ∃ S', Stays_save_14 S = some S' ∧ fO 14 S S' ∧ gR (S' 14) Y := by
  obtain ⟨S', t1, t2, t3, t4⟩ := save_14_L 14 qF 0 S (by omega) (by unfold qF; omega)
  have t1' : Stays_save_14_L2 qF 0 S = _ := t1
  refine ⟨S', by rw [Stays_save_14, t1']; rfl, t2, fun s hs => ?_⟩
  obtain ⟨z1, z2, z3⟩ := t4 s (by omega) hs
  have b9 := bT_n hT
  obtain ⟨c1, c2, c3, g37, g38, g39, g41, g42⟩ := hc
  rw [z1, z2, z3]
  refine ⟨c1 s hs, fun hk => ?_, g37 s hs, g39 s hs⟩
  have hs' : (s : Int) < T 9 := by
    rcases Int.lt_or_le (s : Int) (T 9) with q | q
    · exact q
    · have := (hB.1 s).2 q
      omega
  have := c2 s hs' hk
  exact ⟨this.1, this.2.2.1⟩
theorem save_x_s {S : qSto} {x : Nat} (hx : qAr x 42 = true) (ha : x ≠ 37 ∧ x ≠ 39 ∧ x ≠ 40) (hB : bY T lev Y) (hT : bT T) (hc : cY S T lev Y) : ∃ S', Stays_save_x x S = some S' ∧ fO x S S' ∧ gR (S' x) Y := by
  obtain ⟨S', t1, t2, t3, t4⟩ := save_x_L hx ha 14 qF 0 S (by omega) (by unfold qF; omega)
  have t1' : Stays_save_x_L2 qF x 0 S = _ := t1
  refine ⟨S', by rw [Stays_save_x, t1']; rfl, t2, fun s hs => ?_⟩
  obtain ⟨z1, z2, z3⟩ := t4 s (by omega) hs
  have b9 := bT_n hT
  obtain ⟨c1, c2, c3, g37, g38, g39, g41, g42⟩ := hc
  rw [z1, z2, z3]
  refine ⟨c1 s hs, fun hk => ?_, g37 s hs, g39 s hs⟩
  have hs' : (s : Int) < T 9 := by
    rcases Int.lt_or_le (s : Int) (T 9) with q | q
    · exact q
    · have := (hB.1 s).2 q
      omega
  have := c2 s hs' hk
  exact ⟨this.1, this.2.2.1⟩
/-- the reference puts its stays aside -/
theorem puts_L {r : Nat} (hr : r < 18) : ∀ (j n i : Nat) (S : qSto), i + j = 14 → j < n → ∃ S', M_puts_L7 n (42 * (r : Int)) (i : Int) S = some S' ∧ fO 85 S S' ∧ (∀ u, ¬ (42 * r + 3 * i ≤ u ∧ u < 42 * r + 42) → S' 85 u = S 85 u) ∧ ∀ s : Nat, i ≤ s → s < 14 → S' 85 (42 * r + 3 * s) = S 78 s ∧ S' 85 (42 * r + (3 * s + 1)) = S 79 s ∧ S' 85 (42 * r + (3 * s + 2)) = S 80 s
  | 0, n + 1, i, S, h, _ => by
    rw [M_puts_L7]
    simp (disch := omega) only [qk_r, if_pos (show (14 : Int) ≤ (i : Int) by omega)]
    exact ⟨S, rfl, fun c _ => rfl, fun _ _ => rfl, fun s a b => by omega⟩
  | j + 1, n + 1, i, S, h, hn => by
    have e0 : (42 * (r : Int) + 3 * (i : Int)).toNat = 42 * r + 3 * i := by omega
    have e1 : (42 * (r : Int) + 3 * (i : Int) + 1).toNat = 42 * r + (3 * i + 1) := by omega
    have e2 : (42 * (r : Int) + 3 * (i : Int) + 2).toNat = 42 * r + (3 * i + 2) := by omega
    rw [M_puts_L7]
    simp (disch := omega) only [qk_r, qk_ix, if_neg (show ¬ (14 : Int) ≤ (i : Int) by omega), Int.toNat_natCast, e0, e1, e2]
    have f1 : (qup S 85 (42 * r + 3 * i) (S 78 i)) 79 i = S 79 i := by rw [qup_off (by omega)]
    have f2 : (qup (qup S 85 (42 * r + 3 * i) (S 78 i)) 85 (42 * r + (3 * i + 1)) (S 79 i)) 80 i = S 80 i := by rw [qup_off (by omega), qup_off (by omega)]
    rw [f1, f2]
    obtain ⟨S', t1, t2, t3, t4⟩ := puts_L hr j n (i + 1) (qup (qup (qup S 85 (42 * r + 3 * i) (S 78 i)) 85 (42 * r + (3 * i + 1)) (S 79 i)) 85 (42 * r + (3 * i + 2)) (S 80 i)) (by omega) (by omega)
    refine ⟨S', t1, fun c' hc => ?_, fun u hu => ?_, fun s a b => ?_⟩
    · rw [t2 c' hc, qup_off hc, qup_off hc, qup_off hc]
    · rw [t3 u (by omega), qup_on, if_neg (by omega), qup_on, if_neg (by omega), qup_on, if_neg (by omega)]
    · by_cases q : s = i
      · subst q
        rw [t3 _ (by omega), t3 _ (by omega), t3 _ (by omega)]
        refine ⟨?_, ?_, ?_⟩
        · rw [qup_on, if_neg (by omega), qup_on, if_neg (by omega), qup_on, if_pos rfl]
        · rw [qup_on, if_neg (by omega), qup_on, if_pos rfl]
        · rw [qup_on, if_pos rfl]
      · have z := t4 s (by omega) b
        rw [qup_off (show (78 : Nat) ≠ 85 by omega), qup_off (show (78 : Nat) ≠ 85 by omega), qup_off (show (78 : Nat) ≠ 85 by omega), qup_off (show (79 : Nat) ≠ 85 by omega), qup_off (show (79 : Nat) ≠ 85 by omega), qup_off (show (79 : Nat) ≠ 85 by omega), qup_off (show (80 : Nat) ≠ 85 by omega), qup_off (show (80 : Nat) ≠ 85 by omega), qup_off (show (80 : Nat) ≠ 85 by omega)] at z
        exact z
theorem puts_s {S : qSto} {r : Nat} (hr : r < 18) (hB : bY T lev Y) (hT : bT T) (hm : mY S T lev Y) : ∃ S', M_puts (r : Int) S = some S' ∧ fO 85 S S' ∧ gR (mR S' r) Y ∧ ∀ q, q ≠ r → ∀ i, i < 42 → mR S' q i = mR S q i := by
  obtain ⟨S', t1, t2, t3, t4⟩ := puts_L hr 14 qF 0 S (by omega) (by unfold qF; omega)
  have t1' : M_puts_L7 qF (42 * (r : Int)) 0 S = _ := t1
  refine ⟨S', by rw [M_puts, t1']; rfl, t2, fun s hs => ?_, fun q hq i hi => t3 _ (by omega)⟩
  obtain ⟨z1, z2, z3⟩ := t4 s (by omega) hs
  have b9 := bT_n hT
  obtain ⟨c1, c2, g78, g79, g81, g82⟩ := hm
  show S' 85 (42 * r + (3 * s + 2)) = _ ∧ (_ → S' 85 (42 * r + 3 * s) = _ ∧ S' 85 (42 * r + (3 * s + 1)) = _) ∧ (_ ≤ S' 85 (42 * r + 3 * s) ∧ S' 85 (42 * r + 3 * s) ≤ _) ∧ (_ ≤ S' 85 (42 * r + (3 * s + 1)) ∧ S' 85 (42 * r + (3 * s + 1)) ≤ _)
  rw [z1, z2, z3]
  refine ⟨c1 s hs, fun hk => ?_, g78 s hs, g79 s hs⟩
  have hs' : (s : Int) < T 9 := by
    rcases Int.lt_or_le (s : Int) (T 9) with q | q
    · exact q
    · have := (hB.1 s).2 q
      omega
  have := c2 s hs' hk
  exact ⟨this.1, this.2.1⟩
/-- a row of the reference is copied -/
theorem copies_L {a b : Nat} (ha : a < 18) (hb : b < 18) (hab : a ≠ b) : ∀ (j n i : Nat) (S : qSto), i + j = 42 → j < n → ∃ S', M_copies_L2 n (a : Int) (b : Int) (i : Int) S = some S' ∧ fO 85 S S' ∧ (∀ u, ¬ (42 * b + i ≤ u ∧ u < 42 * b + 42) → S' 85 u = S 85 u) ∧ ∀ s : Nat, i ≤ s → s < 42 → S' 85 (42 * b + s) = S 85 (42 * a + s)
  | 0, n + 1, i, S, h, _ => by
    rw [M_copies_L2]
    simp (disch := omega) only [qk_r, if_pos (show (42 : Int) ≤ (i : Int) by omega)]
    exact ⟨S, rfl, fun c _ => rfl, fun _ _ => rfl, fun s a b => by omega⟩
  | j + 1, n + 1, i, S, h, hn => by
    have e0 : (42 * (a : Int) + (i : Int)).toNat = 42 * a + i := by omega
    have e1 : (42 * (b : Int) + (i : Int)).toNat = 42 * b + i := by omega
    rw [M_copies_L2]
    simp (disch := omega) only [qk_r, qk_ix, if_neg (show ¬ (42 : Int) ≤ (i : Int) by omega), e0, e1]
    obtain ⟨S', t1, t2, t3, t4⟩ := copies_L ha hb hab j n (i + 1) (qup S 85 (42 * b + i) (S 85 (42 * a + i))) (by omega) (by omega)
    refine ⟨S', t1, fun c' hc => ?_, fun u hu => ?_, fun s p q => ?_⟩
    · rw [t2 c' hc, qup_off hc]
    · rw [t3 u (by omega), qup_on, if_neg (by omega)]
    · by_cases z : s = i
      · subst z
        rw [t3 _ (by omega), qup_on, if_pos rfl]
      · rw [t4 s (by omega) q, qup_on, if_neg (by omega)]
theorem copies_s {S : qSto} {a b : Nat} (ha : a < 18) (hb : b < 18) (hab : a ≠ b) : ∃ S', M_copies (a : Int) (b : Int) S = some S' ∧ fO 85 S S' ∧ (∀ i, i < 42 → mR S' b i = mR S a i) ∧ ∀ q, q ≠ b → ∀ i, i < 42 → mR S' q i = mR S q i := by
  obtain ⟨S', t1, t2, t3, t4⟩ := copies_L ha hb hab 42 qF 0 S (by omega) (by unfold qF; omega)
  have t1' : M_copies_L2 qF (a : Int) (b : Int) 0 S = _ := t1
  exact ⟨S', by rw [M_copies, t1']; rfl, t2, fun i hi => t4 i (by omega) hi, fun q hq i hi => t3 _ (by omega)⟩
/-- all rows move down by one -/
theorem shifts_L : ∀ (j n i : Nat) (S : qSto), i + j = 12 → 1 ≤ i → j < n → ∃ S', M_keeps_L11 n (i : Int) S = some S' ∧ fO 85 S S' ∧ (∀ q, i - 1 ≤ q → q < 11 → ∀ u, u < 42 → mR S' q u = mR S (q + 1) u) ∧ ∀ q, q < i - 1 ∨ 11 ≤ q → ∀ u, u < 42 → mR S' q u = mR S q u
  | 0, n + 1, i, S, h, _, _ => by
    rw [M_keeps_L11]
    simp (disch := omega) only [qk_r, if_pos (show (12 : Int) ≤ (i : Int) by omega)]
    exact ⟨S, rfl, fun c _ => rfl, fun q a b => by omega, fun _ _ _ _ => rfl⟩
  | j + 1, n + 1, i, S, h, h1, hn => by
    rw [M_keeps_L11]
    obtain ⟨S1, c1, c2, c3, c4⟩ := copies_s (S := S) (a := i) (b := i - 1) (by omega) (by omega) (by omega)
    have e : (((i - 1 : Nat)) : Int) = (i : Int) - 1 := by omega
    rw [e] at c1
    simp (disch := omega) only [qk_r, if_neg (show ¬ (12 : Int) ≤ (i : Int) by omega), c1, ob_some]
    obtain ⟨S', t1, t2, t3, t4⟩ := shifts_L j n (i + 1) S1 (by omega) (by omega) (by omega)
    refine ⟨S', t1, fun c' hc => (t2 c' hc).trans (c2 c' hc), fun q a b u hu => ?_, fun q a u hu => ?_⟩
    · by_cases z : q = i - 1
      · rw [t4 q (by omega) u hu, z, c3 u hu, show i - 1 + 1 = i by omega]
      · rw [t3 q (by omega) b u hu, c4 _ (by omega) u hu]
    · rw [t4 q (by omega) u hu, c4 q (by omega) u hu]
/-- the reference keeps row 16 as its latest act -/
theorem keeps_s {S : qSto} {m : Nat} (hm : m ≤ 12) (e : S 70 31 = m) : ∃ S', M_keeps S = some S' ∧ (∀ c, c ≠ 85 → c ≠ 70 → S' c = S c) ∧ (∀ i, i ≠ 31 → S' 70 i = S 70 i) ∧ S' 70 31 = (if m = 12 then 12 else (m : Int) + 1) ∧ (∀ q, 12 ≤ q → ∀ u, u < 42 → mR S' q u = mR S q u) ∧ (m < 12 → (∀ q, q < m → ∀ u, u < 42 → mR S' q u = mR S q u) ∧ ∀ u, u < 42 → mR S' m u = mR S 16 u) ∧ (m = 12 → (∀ q, q < 11 → ∀ u, u < 42 → mR S' q u = mR S (q + 1) u) ∧ ∀ u, u < 42 → mR S' 11 u = mR S 16 u) := by
  by_cases g : m = 12
  · obtain ⟨S1, t1, t2, t3, t4⟩ := shifts_L 11 qF 1 S (by omega) (by omega) (by unfold qF; omega)
    have t1' : M_keeps_L11 qF 1 S = _ := t1
    obtain ⟨S2, u1, u2, u3, u4⟩ := copies_s (S := qup S1 70 31 11) (a := 16) (b := 11) (by omega) (by omega) (by omega)
    have u1' : M_copies 16 11 (qup S1 70 31 11) = _ := u1
    have e3 : (qup S1 70 31 11) 70 31 = 11 := by rw [qup_on, if_pos rfl]
    have e4 : S2 70 31 = 11 := by rw [u2 70 (by omega), e3]
    have hr : ∀ q u, mR (qup S1 70 31 11) q u = mR S1 q u := fun q u => by
      show (qup S1 70 31 11) 85 _ = S1 85 _
      rw [qup_off (by omega)]
    have hr2 : ∀ q u, mR (qup S2 70 31 (S2 70 31 + 1)) q u = mR S2 q u := fun q u => by
      show (qup S2 70 31 (S2 70 31 + 1)) 85 _ = S2 85 _
      rw [qup_off (by omega)]
    refine ⟨qup S2 70 31 (S2 70 31 + 1), ?_, fun c h1 h2 => ?_, fun i hi => ?_, ?_, fun q hq u hu => ?_, fun h => by omega, fun _ => ⟨fun q hq u hu => ?_, fun u hu => ?_⟩⟩
    · rw [M_keeps, e, qk_r (by omega) (by omega), if_pos (by omega), t1']
      simp only [ob_some, e3]
      rw [u1']
      rfl
    · rw [qup_off h2, u2 c h1, qup_off h2, t2 c h1]
    · rw [qup_on, if_neg hi, u2 70 (by omega), qup_on, if_neg hi, t2 70 (by omega)]
    · rw [qup_on, if_pos rfl, e4, if_pos g]
      omega
    · rw [hr2, u4 q (by omega) u hu, hr, t4 q (by omega) u hu]
    · rw [hr2, u4 q (by omega) u hu, hr, t3 q (by omega) hq u hu]
    · rw [hr2, u3 u hu, hr, t4 16 (by omega) u hu]
  · obtain ⟨S2, u1, u2, u3, u4⟩ := copies_s (S := S) (a := 16) (b := m) (by omega) (by omega) (by omega)
    have u1' : M_copies 16 (m : Int) S = _ := u1
    have e4 : S2 70 31 = m := by rw [u2 70 (by omega), e]
    have hr2 : ∀ q u, mR (qup S2 70 31 (S2 70 31 + 1)) q u = mR S2 q u := fun q u => by
      show (qup S2 70 31 (S2 70 31 + 1)) 85 _ = S2 85 _
      rw [qup_off (by omega)]
    refine ⟨qup S2 70 31 (S2 70 31 + 1), ?_, fun c h1 h2 => ?_, fun i hi => ?_, ?_, fun q hq u hu => ?_, fun _ => ⟨fun q hq u hu => ?_, fun u hu => ?_⟩, fun h => by omega⟩
    · rw [M_keeps, e, qk_r (by omega) (by omega), if_neg (by omega)]
      simp only [ob_some, e]
      rw [u1']
      rfl
    · rw [qup_off h2, u2 c h1]
    · rw [qup_on, if_neg hi, u2 70 (by omega)]
    · rw [qup_on, if_pos rfl, e4, if_neg g]
    · rw [hr2, u4 q (by omega) u hu]
    · rw [hr2, u4 q (by omega) u hu]
    · rw [hr2, u3 u hu]
/-- the class keeps its row 14 as its latest act -/
theorem qrf51 {i : Nat} (h : i < 12) : qrf 51 i = 52 + i ∧ qAr (52 + i) 42 = true := by
  have : ∀ i : Fin 12, qrf 51 i.val = 52 + i.val ∧ qAr (52 + i.val) 42 = true := by decide +kernel
  exact this ⟨i, h⟩
theorem qrf64 {i : Nat} (h : i < 4) : qrf 64 i = 65 + i ∧ qAr (65 + i) 42 = true := by
  have : ∀ i : Fin 4, qrf 64 i.val = 65 + i.val ∧ qAr (65 + i.val) 42 = true := by decide +kernel
  exact this ⟨i, h⟩
theorem keepAct_s {S : qSto} {o m : Nat} (ho : o < 12) (hm : m ≤ 12) (e1 : S 12 1 = o) (e2 : S 12 2 = m) : ∃ S', C_keepAct S = some S' ∧ (∀ c, c ≠ 52 + (o + m) % 12 → c ≠ 12 → c ≠ 11 → S' c = S c) ∧ (∀ i, i ≠ 3 → S' 11 i = S 11 i) ∧ S' 11 3 = 0 ∧ (∀ i, i ≠ 1 → i ≠ 2 → S' 12 i = S 12 i) ∧ S' 12 1 = ((if m = 12 then (o + 1) % 12 else o : Nat) : Int) ∧ S' 12 2 = ((if m = 12 then 12 else m + 1 : Nat) : Int) ∧ ∀ i, i < 42 → S' (52 + (o + m) % 12) i = S 14 i := by
  have hp : (o + m) % 12 < 12 := Nat.mod_lt _ (by omega)
  obtain ⟨z1, z2⟩ := qrf51 hp
  have f1 : (Int.tmod ((o : Int) + (m : Int)) 12).toNat = (o + m) % 12 := by
    rw [Int.tmod_eq_emod_of_nonneg (by omega)]
    omega
  have f2 : 0 ≤ Int.tmod ((o : Int) + (m : Int)) 12 ∧ Int.tmod ((o : Int) + (m : Int)) 12 < 12 := by
    rw [Int.tmod_eq_emod_of_nonneg (by omega)]
    omega
  have n1 : (12 : Nat) ≠ 52 + (o + m) % 12 := by omega
  have hk : History_keep_14 S = some (if m = 12 then qup (qua S (52 + (o + m) % 12) (qcpy S 14 (52 + (o + m) % 12) 0 0 42)) 12 1 (((o + 1) % 12 : Nat) : Int) else qup (qua S (52 + (o + m) % 12) (qcpy S 14 (52 + (o + m) % 12) 0 0 42)) 12 2 ((m : Int) + 1)) := by
    simp (disch := omega) only [History_keep_14, e1, e2, qk_r, f1, z1, qk_of z2, qua_off 12 n1]
    rw [qk_ix f2.1 (by have := f2.2; omega)]
    by_cases g : m = 12
    · rw [if_pos g, if_pos (by omega)]
      congr 2
    · rw [if_neg g, if_neg (by omega)]
  refine ⟨_, by rw [C_keepAct, hk]; rfl, fun c h1 h2 h3 => ?_, fun i hi => ?_, ?_, fun i h1 h2 => ?_, ?_, ?_, fun i hi => ?_⟩
  · rw [qup_off h3]
    split
    · rw [qup_off h2, qua_off c h1]
    · rw [qup_off h2, qua_off c h1]
  · rw [qup_on, if_neg hi]
    split
    · rw [qup_off (by omega), qua_off 11 (by omega)]
    · rw [qup_off (by omega), qua_off 11 (by omega)]
  · rw [qup_on, if_pos rfl]
  · rw [qup_off (by omega)]
    split
    · rw [qup_on, if_neg h1, qua_off 12 n1]
    · rw [qup_on, if_neg h2, qua_off 12 n1]
  · rw [qup_off (by omega)]
    split
    · rw [qup_on, if_pos rfl]
    · rw [qup_on, if_neg (by omega), qua_off 12 n1, e1]
  · rw [qup_off (by omega)]
    split
    · rw [qup_on, if_neg (by omega), qua_off 12 n1, e2]
      omega
    · rw [qup_on, if_pos rfl]
      omega
  · rw [qup_off (by omega)]
    have : qcpy S 14 (52 + (o + m) % 12) 0 0 42 i = S 14 i := by
      unfold qcpy
      rw [if_pos (by omega)]
      congr 1
      omega
    split
    · rw [qup_off (by omega), qua_on, this]
    · rw [qup_off (by omega), qua_on, this]
end PSV
