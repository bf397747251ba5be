/-! the least depth of a row of metres -/
theorem sLeastN_spec (T : Nat → Int) : ∀ (j m : Nat) (a : Int), sLeastN T j m a ≤ a ∧ (∀ u : Nat, m ≤ u → u < m + j → sLeastN T j m a ≤ sDepth T u) ∧ (sLeastN T j m a = a ∨ ∃ u : Nat, m ≤ u ∧ u < m + j ∧ sLeastN T j m a = sDepth T u)
  | 0, m, a => ⟨Int.le_refl a, fun u h1 h2 => absurd h1 (by omega), Or.inl rfl⟩
  | j + 1, m, a => by
    obtain ⟨h1, h2, h3⟩ := sLeastN_spec T j (m + 1) (min a (sDepth T m))
    rw [sLeastN]
    refine ⟨by omega, fun u a1 a2 => ?_, ?_⟩
    · rcases Nat.lt_or_ge m u with q | q
      · exact h2 u (by omega) (by omega)
      · have : u = m := by omega
        rw [this]
        omega
    · rcases h3 with h3 | ⟨u, q1, q2, q3⟩
      · rcases Int.le_total a (sDepth T m) with g | g
        · rw [Int.min_eq_left g] at h3
          exact Or.inl (by rw [Int.min_eq_left g]; exact h3)
        · rw [Int.min_eq_right g] at h3
          exact Or.inr ⟨m, Nat.le_refl m, by omega, by rw [Int.min_eq_right g]; exact h3⟩
      · exact Or.inr ⟨u, by omega, by omega, q3⟩
theorem sLeast_spec (T : Nat → Int) {a b : Nat} (h : a ≤ b) : (∀ u : Nat, a ≤ u → u ≤ b → sLeast T a b ≤ sDepth T u) ∧ ∃ u : Nat, a ≤ u ∧ u ≤ b ∧ sLeast T a b = sDepth T u := by
  obtain ⟨h1, h2, h3⟩ := sLeastN_spec T (b - a) (a + 1) (sDepth T a)
  unfold sLeast
  refine ⟨fun u q1 q2 => ?_, ?_⟩
  · rcases Nat.lt_or_ge a u with g | g
    · exact h2 u (by omega) (by omega)
    · have : u = a := by omega
      rw [this]
      exact h1
  · rcases h3 with h3 | ⟨u, q1, q2, q3⟩
    · exact ⟨a, Nat.le_refl a, h, h3⟩
    · exact ⟨u, by omega, by omega, q3⟩
def sSh (T : Nat → Int) (a b c : Int) : Nat → Int
  | 0 => c
  | i + 1 => if a < T (11 + i) ∧ T (11 + i) ≤ b then min (sSh T a b c i) (T (19 + i)) else sSh T a b c i
theorem sSh_spec (T : Nat → Int) (a b c : Int) : ∀ i : Nat, sSh T a b c i ≤ c ∧ (∀ k : Nat, k < i → a < T (11 + k) → T (11 + k) ≤ b → sSh T a b c i ≤ T (19 + k)) ∧ (sSh T a b c i = c ∨ ∃ k : Nat, k < i ∧ a < T (11 + k) ∧ T (11 + k) ≤ b ∧ sSh T a b c i = T (19 + k))
  | 0 => ⟨Int.le_refl c, fun k h => absurd h (by omega), Or.inl rfl⟩
  | i + 1 => by
    obtain ⟨h1, h2, h3⟩ := sSh_spec T a b c i
    rw [sSh]
    by_cases g : a < T (11 + i) ∧ T (11 + i) ≤ b
    · rw [if_pos g]
      refine ⟨by omega, fun k hk q1 q2 => ?_, ?_⟩
      · rcases Nat.lt_or_ge k i with q | q
        · have := h2 k q q1 q2
          omega
        · have : k = i := by omega
          rw [this]
          omega
      · rcases Int.le_total (sSh T a b c i) (T (19 + i)) with q | q
        · rw [Int.min_eq_left q]
          rcases h3 with h3 | ⟨k, k1, k2, k3, k4⟩
          · exact Or.inl h3
          · exact Or.inr ⟨k, by omega, k2, k3, k4⟩
        · rw [Int.min_eq_right q]
          exact Or.inr ⟨i, by omega, g.1, g.2, rfl⟩
    · rw [if_neg g]
      refine ⟨h1, fun k hk q1 q2 => ?_, ?_⟩
      · rcases Nat.lt_or_ge k i with q | q
        · exact h2 k q q1 q2
        · have : k = i := by omega
          rw [this] at q1 q2
          exact absurd ⟨q1, q2⟩ g
      · rcases h3 with h3 | ⟨k, k1, k2, k3, k4⟩
        · exact Or.inl h3
        · exact Or.inr ⟨k, by omega, k2, k3, k4⟩
/-- two sections at one metre are one -/
theorem bT_sec {T : Nat → Int} (h : bT T) {i k : Nat} (hi : (i : Int) < T 6) (hk : (k : Int) < T 6) (e : T (11 + i) = T (11 + k)) : i = k := by
  rcases Nat.lt_trichotomy i k with q | q | q
  · exact absurd e ((h.2.2.2.2.2.2.2.2.2.2.1 k hk).2.2 i q)
  · exact q
  · exact absurd e.symm ((h.2.2.2.2.2.2.2.2.2.2.1 i hi).2.2 k q)
theorem sDepth_cases {T : Nat → Int} (h : bT T) (m : Int) : ((∀ k : Nat, (k : Int) < T 6 → ¬ T (11 + k) ≤ m) ∧ sDepth T m = 100) ∨ ∃ k : Nat, (k : Int) < T 6 ∧ T (11 + k) ≤ m ∧ sDepth T m = T (19 + k) ∧ ∀ j : Nat, (j : Int) < T 6 → T (11 + j) ≤ m → T (11 + j) ≤ T (11 + k) := by
  have b6 := h.2.2.2.2.2.2.1
  unfold sDepth
  rcases sDep_spec h m (T 6).toNat (by omega) with ⟨h1, h2⟩ | ⟨k, h1, h2, h3, h4⟩
  · exact Or.inl ⟨fun k hk => h1 k (by omega), by rw [h2]⟩
  · exact Or.inr ⟨k, by omega, h2, by rw [h3], fun j hj => h4 j (by omega)⟩
theorem sSh_least {T : Nat → Int} (h : bT T) {a b : Nat} (hab : a ≤ b) : sSh T a b (sDepth T a) (T 6).toNat = sLeast T a b := by
  have b6 := h.2.2.2.2.2.2.1
  obtain ⟨p1, p2, p3⟩ := sSh_spec T a b (sDepth T a) (T 6).toNat
  obtain ⟨q1, u, q2, q3, q4⟩ := sLeast_spec T hab
  apply Int.le_antisymm
  · rw [q4]
    rcases sDepth_cases h (u : Int) with ⟨c1, c2⟩ | ⟨k, c1, c2, c3, c4⟩
    · rcases sDepth_cases h (a : Int) with ⟨d1, d2⟩ | ⟨k', d1, d2, d3, d4⟩
      · rw [c2, ← d2]
        exact p1
      · exact absurd (show T (11 + k') ≤ (u : Int) by omega) (c1 k' d1)
    · rw [c3]
      rcases Int.lt_or_le (a : Int) (T (11 + k)) with g | g
      · exact p2 k (by omega) g (by omega)
      · rcases sDepth_cases h (a : Int) with ⟨d1, d2⟩ | ⟨k', d1, d2, d3, d4⟩
        · exact absurd g (d1 k c1)
        · have e1 := d4 k c1 g
          have e2 := c4 k' d1 (by omega)
          have e3 := bT_sec h c1 d1 (by omega)
          rw [e3, ← d3]
          exact p1
  · rcases p3 with p3 | ⟨k, k1, k2, k3, k4⟩
    · rw [p3]
      exact q1 a (Nat.le_refl a) hab
    · rw [k4]
      have hk : (k : Int) < T 6 := by omega
      have e0 : ((T (11 + k)).toNat : Int) = T (11 + k) := by omega
      have e1 := q1 (T (11 + k)).toNat (by omega) (by omega)
      rw [e0] at e1
      rcases sDepth_cases h (T (11 + k)) with ⟨d1, d2⟩ | ⟨k', d1, d2, d3, d4⟩
      · exact absurd (Int.le_refl _) (d1 k hk)
      · have e2 := d4 k hk (Int.le_refl _)
        have e3 := bT_sec h hk d1 (by omega)
        rw [e3, ← d3]
        exact e1
section PH
variable {S : qSto} {T lev : Nat → Int}
theorem Told_shallowest_L (h : iT S T lev) {a b c : Int} (ha : qR a) (hb : qR b) (hc : 0 ≤ c ∧ c ≤ 300) : ∀ (j n i : Nat), (i : Int) + j = T 6 → j < n → Told_shallowest_L9 n a b (sSh T a b c i) (i : Int) S = some (sSh T a b c (T 6).toNat, S)
  | 0, n + 1, i, e, _ => by
    have b6 := h.1.2.2.2.2.2.2.1
    have e2 := h.2.1.2.1
    rw [Told_shallowest_L9]
    simp (disch := omega) only [qk_r, e2]
    rw [if_pos (by omega), show (T 6).toNat = i by omega]
  | j + 1, n + 1, i, e, hn => by
    obtain ⟨a1, a2⟩ := id ha
    obtain ⟨b1, b2⟩ := id hb
    have b6 := h.1.2.2.2.2.2.2.1
    have e2 := h.2.1.2.1
    obtain ⟨f1, f2⟩ := h.2.1.2.2.2.2.2.1 i (by omega)
    have hx := h.1.2.2.2.2.2.2.2.2.2.2.1 i (by omega)
    have hs : 0 ≤ sSh T a b c i ∧ sSh T a b c i ≤ 300 := by
      obtain ⟨p1, p2, p3⟩ := sSh_spec T a b c i
      rcases p3 with p3 | ⟨k, k1, k2, k3, k4⟩
      · omega
      · have hy := h.1.2.2.2.2.2.2.2.2.2.2.1 k (by omega)
        omega
    rw [Told_shallowest_L9]
    simp (disch := omega) only [qk_r, qk_ix, Int.toNat_natCast, e2, f1, f2, if_neg (show ¬ T 6 ≤ (i : Int) by omega)]
    have ih := Told_shallowest_L h ha hb hc j n (i + 1) (by omega) (by omega)
    rw [sSh] at ih
    by_cases g1 : T (11 + i) ≤ a
    · simp only [if_pos g1, ob_some]
      rw [if_neg (show ¬ (a < T (11 + i) ∧ T (11 + i) ≤ b) by omega)] at ih
      exact ih
    · simp only [if_neg g1]
      by_cases g2 : b < T (11 + i)
      · simp only [if_pos g2, ob_some]
        rw [if_neg (show ¬ (a < T (11 + i) ∧ T (11 + i) ≤ b) by omega)] at ih
        exact ih
      · simp only [if_neg g2, ob_some]
        rw [if_pos (show (a < T (11 + i) ∧ T (11 + i) ≤ b) by omega)] at ih
        rw [Jm_min_s ⟨by omega, by omega⟩ ⟨by omega, by omega⟩]
        exact ih
theorem Told_shallowest_s (h : iT S T lev) {a b : Nat} (hab : a ≤ b) (hb : b < 1000) : Told_shallowest (a : Int) (b : Int) S = some (sLeast T a b, S) := by
  have b6 := h.1.2.2.2.2.2.2.1
  have ra : qR (a : Int) := ⟨by omega, by omega⟩
  have rb : qR (b : Int) := ⟨by omega, by omega⟩
  have hd := sDepth_b h.1 (a : Int)
  have e := Told_shallowest_L h ra rb hd (T 6).toNat qF 0 (by omega) (by unfold qF; omega)
  have e' : Told_shallowest_L9 qF (a : Int) (b : Int) (sDepth T (a : Int)) 0 S = some (sSh T a b (sDepth T (a : Int)) (T 6).toNat, S) := e
  rw [Told_shallowest, Told_depthOf_s h ra]
  simp only [ob_some, e', sSh_least h.1 hab]
theorem M_leastDepth_L (h : iT S T lev) {b : Nat} (hb : b < 1000) : ∀ (j n m : Nat) (a : Int), m + j = b + 1 → j < n → 0 ≤ a → a ≤ 300 → M_leastDepth_L12 n (b : Int) a (m : Int) S = some (sLeastN T j m a, S)
  | 0, n + 1, m, a, e, _, _, _ => by
    rw [M_leastDepth_L12]
    simp (disch := omega) only [qk_r]
    rw [if_pos (by omega)]
    rfl
  | j + 1, n + 1, m, a, e, hn, h1, h2 => by
    have e2 := h.2.2.2.2 m (by omega)
    have hd := sDepth_b h.1 (m : Int)
    rw [M_leastDepth_L12]
    simp (disch := omega) only [qk_r, qk_ix, Int.toNat_natCast, e2, if_neg (show ¬ (b : Int) < (m : Int) by omega)]
    rw [sLeastN]
    by_cases g : a ≤ sDepth T m
    · simp only [if_pos g, ob_some, Int.min_eq_left g]
      exact M_leastDepth_L h hb j n (m + 1) a (by omega) (by omega) h1 h2
    · simp only [if_neg g, ob_some, Int.min_eq_right (show sDepth T m ≤ a by omega)]
      exact M_leastDepth_L h hb j n (m + 1) _ (by omega) (by omega) hd.1 hd.2
theorem M_leastDepth_s (h : iT S T lev) {a b : Nat} (hab : a ≤ b) (hb : b < 1000) : M_leastDepth (a : Int) (b : Int) S = some (sLeast T a b, S) := by
  have e2 := h.2.2.2.2 a (by omega)
  have hd := sDepth_b h.1 (a : Int)
  have e := M_leastDepth_L h hb (b - a) qF (a + 1) (sDepth T a) (by omega) (by unfold qF; omega) hd.1 hd.2
  have e' : M_leastDepth_L12 qF (b : Int) (sDepth T a) ((a : Int) + 1) S = _ := e
  simp (disch := omega) only [M_leastDepth, qk_ix, Int.toNat_natCast, e2, e', ob_some]
  rfl
/-- shallow(from, to) -/
theorem p_shallow (h : iT S T lev) {a b : Int} (ha : qR a) (hb : qR b) : ∃ r, C_shallow a b S = some (r, S) ∧ M_shallow a b S = some (r, S) := by
  obtain ⟨a1, a2⟩ := id ha
  obtain ⟨b1, b2⟩ := id hb
  have b0 := h.1.1
  simp (disch := omega) only [C_shallow, M_shallow, C_isMetre_s h ha, M_isMetre_s h ha, C_isMetre_s h hb, M_isMetre_s h hb, ob_some, ite01_r, ite01_e, qk_r]
  by_cases g : 0 ≤ a ∧ a < T 0
  · by_cases g2 : 0 ≤ b ∧ b < T 0
    · by_cases g3 : a ≤ b
      · have f1 : ((a.toNat : Nat) : Int) = a := by omega
        have f2 : ((b.toNat : Nat) : Int) = b := by omega
        have e1 := Told_shallowest_s h (a := a.toNat) (b := b.toNat) (by omega) (by omega)
        have e2 := M_leastDepth_s h (a := a.toNat) (b := b.toNat) (by omega) (by omega)
        rw [f1, f2] at e1 e2
        simp only [if_pos g, if_pos g2, if_pos g3, e1, e2, ob_some]
        exact ⟨_, rfl, rfl⟩
      · simp only [if_pos g, if_pos g2, if_neg g3]
        exact ⟨_, rfl, rfl⟩
    · simp only [if_pos g, if_neg g2]
      exact ⟨_, rfl, rfl⟩
  · simp only [if_neg g]
    exact ⟨_, rfl, rfl⟩
end PH
