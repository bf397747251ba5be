/-! PURE PART. What is told: T is the reference's own row of it (cell 72); the class' cells say the same. -/
theorem qk_ix {α : Type} {i : Int} {n : Nat} {x : Option α} (h1 : 0 ≤ i) (h2 : i < (n : Int)) : qk (qIx i n) x = x := qk_of (qIx_of h1 h2)
theorem qk_r {α : Type} {a : Int} {x : Option α} (h1 : -2147483648 ≤ a) (h2 : a ≤ 2147483647) : qk (qRb a) x = x := qk_of (qRb_of h1 h2)
theorem qk_rl {α : Type} {a : Int} {x : Option α} (h1 : -9223372036854775808 ≤ a) (h2 : a ≤ 9223372036854775807) : qk (qRLb a) x = x := qk_of (qRLb_of h1 h2)
theorem qk_nz {α : Type} {a : Int} {x : Option α} (h : a ≠ 0) : qk (qNz a) x = x := qk_of (qNz_of h)
theorem qk_z {α : Type} {a : Int} {x : Option α} (h : a = 0 ∨ a = 1) : qk (qZb a) x = x := qk_of (qZb_of h)
theorem qk_b {α : Type} {a : Int} {x : Option α} (h1 : -128 ≤ a) (h2 : a ≤ 127) : qk (qBb a) x = x := qk_of (qBb_of h1 h2)
theorem ob_some {α β : Type} {a : α} {f : α → Option β} : Option.bind (some a) f = f a := rfl
theorem qup_off {S : qSto} {c i a : Nat} {v : Int} (h : a ≠ c) : qup S c i v a = S a := qua_off a h
theorem qup_on {S : qSto} {c i j : Nat} {v : Int} : qup S c i v c j = if j = i then v else S c j := by rw [qup, qua_on]
/-- a range check that the reference makes -/
theorem M_in_s {S : qSto} {v lo hi : Int} (h1 : qRL v) (h2 : qRL lo) (h3 : qRL hi) : M_in v lo hi S = some (if lo ≤ v ∧ v ≤ hi then 1 else 0, S) := by
  obtain ⟨a1, a2⟩ := h1
  obtain ⟨b1, b2⟩ := h2
  obtain ⟨c1, c2⟩ := h3
  simp (disch := omega) only [M_in, qk_rl]
  by_cases g1 : v < lo
  · rw [if_pos g1, if_neg (by omega)]
  · rw [if_neg g1]
    by_cases g2 : hi < v
    · rw [if_pos g2, if_neg (by omega)]
    · rw [if_neg g2, if_pos (by omega)]
theorem Jm_min_s {S : qSto} {a b : Int} (h1 : qR a) (h2 : qR b) : Jm_min a b S = some (min a b, S) := by
  obtain ⟨a1, a2⟩ := h1
  obtain ⟨b1, b2⟩ := h2
  simp (disch := omega) only [Jm_min, qk_r, ob_some]
  split <;> simp <;> omega
theorem Jm_max_s {S : qSto} {a b : Int} (h1 : qR a) (h2 : qR b) : Jm_max a b S = some (max a b, S) := by
  obtain ⟨a1, a2⟩ := h1
  obtain ⟨b1, b2⟩ := h2
  simp (disch := omega) only [Jm_max, qk_r, ob_some]
  split <;> simp <;> omega
/-- bounds of what is told -/
def bT (T : Nat → Int) : Prop :=
  (50 ≤ T 0 ∧ T 0 ≤ 999) ∧ (0 ≤ T 1 ∧ T 1 ≤ 50) ∧ (0 ≤ T 2 ∧ T 2 ≤ 30) ∧ (0 ≤ T 3 ∧ T 3 ≤ 300) ∧ (1 ≤ T 4 ∧ T 4 ≤ 99) ∧ (0 ≤ T 5 ∧ T 5 ≤ 10) ∧
  (0 ≤ T 6 ∧ T 6 ≤ 8) ∧ (0 ≤ T 7 ∧ T 7 ≤ 8) ∧ (0 ≤ T 8 ∧ T 8 ≤ 30) ∧ (0 ≤ T 9 ∧ T 9 ≤ 14) ∧
  (∀ k : Nat, (k : Int) < T 6 → (0 ≤ T (11 + k) ∧ T (11 + k) ≤ 999) ∧ (0 ≤ T (19 + k) ∧ T (19 + k) ≤ 300) ∧ ∀ j : Nat, j < k → T (11 + j) ≠ T (11 + k)) ∧
  (∀ k : Nat, (k : Int) < T 7 → 0 ≤ T (27 + k) ∧ T (27 + k) ≤ T (35 + k) ∧ T (35 + k) ≤ 999) ∧
  (∀ k : Nat, (k : Int) < T 8 → (0 ≤ T (43 + k) ∧ T (43 + k) ≤ 335) ∧ (0 ≤ T (73 + k) ∧ T (73 + k) ≤ 99)) ∧
  (∀ k : Nat, k < 21 → -1 ≤ T (103 + k) ∧ T (103 + k) ≤ 9) ∧
  (∀ s : Nat, (s : Int) < T 9 → (1 ≤ T (124 + 9 * s) ∧ T (124 + 9 * s) ≤ 400) ∧ (0 ≤ T (124 + 9 * s + 1) ∧ T (124 + 9 * s + 1) ≤ 300) ∧ (0 ≤ T (124 + 9 * s + 2) ∧ T (124 + 9 * s + 2) ≤ 300) ∧ (0 ≤ T (124 + 9 * s + 3) ∧ T (124 + 9 * s + 3) ≤ 9999) ∧ (0 ≤ T (124 + 9 * s + 4) ∧ T (124 + 9 * s + 4) ≤ 335) ∧ (0 ≤ T (124 + 9 * s + 5) ∧ T (124 + 9 * s + 5) ≤ 999) ∧ (0 ≤ T (124 + 9 * s + 6) ∧ T (124 + 9 * s + 6) ≤ 3) ∧ (1 ≤ T (124 + 9 * s + 7) ∧ T (124 + 9 * s + 7) ≤ T (124 + 9 * s + 8) ∧ T (124 + 9 * s + 8) ≤ 8))
/-- the class' cells of what is told say what T says -/
def rT (S : qSto) (T : Nat → Int) : Prop :=
  (∀ i : Nat, i < 6 → S 15 i = T i) ∧ S 2 2 = T 6 ∧ S 2 5 = T 7 ∧ S 2 8 = T 8 ∧ S 2 12 = T 9 ∧
  (∀ k : Nat, (k : Int) < T 6 → S 16 k = T (11 + k) ∧ S 17 k = T (19 + k)) ∧
  (∀ k : Nat, (k : Int) < T 7 → S 18 k = T (27 + k) ∧ S 19 k = T (35 + k)) ∧
  (∀ k : Nat, (k : Int) < T 8 → S 20 k = T (43 + k) ∧ S 21 k = T (73 + k)) ∧
  (∀ k : Nat, k < 21 → S 22 k = T (103 + k)) ∧
  (∀ s : Nat, (s : Int) < T 9 → ∀ w : Nat, w < 9 → S 23 (9 * s + w) = T (124 + 9 * s + w))
/-- the depth of a metre: the section with the greatest metre not above it, section by section -/
def sDep (T : Nat → Int) (m : Int) : Nat → Int × Int
  | 0 => (-1, 100)
  | i + 1 => if T (11 + i) ≤ m ∧ (sDep T m i).1 < T (11 + i) then (T (11 + i), T (19 + i)) else sDep T m i
def sDepth (T : Nat → Int) (m : Int) : Int := (sDep T m (T 6).toNat).2
/-- what is told, both sides, and what both reckon once of it -/
def iT (S : qSto) (T : Nat → Int) (lev : Nat → Int) : Prop :=
  bT T ∧ rT S T ∧ (∀ k : Nat, S 72 k = T k) ∧ (∀ t : Nat, t < 336 → S 36 t = lev t ∧ S 77 t = lev t ∧ 0 ≤ lev t ∧ lev t ≤ 99) ∧ (∀ m : Nat, m < 1000 → S 76 m = sDepth T m)
/-! the words of the document, over T -/
def sGangs (T : Nat → Int) (n : Nat) : Int := if T (103 + n) = -1 then T 7 else T (103 + n)
def sOpen (T : Nat → Int) (lev : Nat → Int) (water : Int) (t : Nat) : Prop := water + T 2 ≤ T 3 + lev t
section PT
variable {S : qSto} {T lev : Nat → Int}
theorem Told_gangsIn_s (h : iT S T lev) {n : Nat} (hn : n < 21) : Told_gangsIn (n : Int) S = some (sGangs T n, S) := by
  obtain ⟨hb, hr, -, -, -⟩ := h
  have e1 := hr.2.2.2.2.2.2.2.2.1 n hn
  have b1 := hb.2.2.2.2.2.2.2.2.2.2.2.2.2.1 n hn
  have e2 := hr.2.2.1
  simp (disch := omega) only [Told_gangsIn, qk_ix, qk_r, Int.toNat_natCast, e1, e2]
  unfold sGangs
  split <;> rfl
theorem M_gangsBy_s (h : iT S T lev) {n : Nat} (hn : n < 21) : M_gangsBy (n : Int) S = some (sGangs T n, S) := by
  obtain ⟨hb, hr, h72, -, -⟩ := h
  have b1 := hb.2.2.2.2.2.2.2.2.2.2.2.2.2.1 n hn
  have e1 := h72 (103 + n)
  have e2 := h72 7
  have e3 : ((103 : Int) + (n : Int)).toNat = 103 + n := by omega
  simp (disch := omega) only [M_gangsBy, qk_ix, qk_r, e3, e1, e2]
  unfold sGangs
  split <;> rfl
theorem Waters_isOpen_s (h : iT S T lev) {w : Int} {t : Nat} (ht : t < 336) (hw1 : -2147483000 ≤ w) (hw2 : w ≤ 2147483000) : Waters_isOpen w (t : Int) S = some (if T 3 + lev t < w + T 2 then 0 else 1, S) := by
  obtain ⟨hb, hr, -, hl, -⟩ := h
  obtain ⟨l1, l2, l3, l4⟩ := hl t ht
  have e1 := hr.1 3 (by omega)
  have e2 := hr.1 2 (by omega)
  have b2 := hb.2.2.1
  have b3 := hb.2.2.2.1
  simp (disch := omega) only [Waters_isOpen, qk_ix, qk_r, Int.toNat_natCast, e1, e2, l1]
  split <;> rfl
theorem M_isOpen_s (h : iT S T lev) {w : Int} {t : Nat} (ht : t < 336) (hw1 : -2147483000 ≤ w) (hw2 : w ≤ 2147483000) : M_isOpen w (t : Int) S = some (if T 3 + lev t < w + T 2 then 0 else 1, S) := by
  obtain ⟨hb, hr, h72, hl, -⟩ := h
  obtain ⟨l1, l2, l3, l4⟩ := hl t ht
  have e1 := h72 3
  have e2 := h72 2
  have b2 := hb.2.2.1
  have b3 := hb.2.2.2.1
  simp (disch := omega) only [M_isOpen, qk_ix, qk_r, Int.toNat_natCast, e1, e2, l2]
  split <;> rfl
end PT
