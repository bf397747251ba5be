/-! contracts, moves, work, leaving, depth -/
def sCon (T : Nat → Int) (s w : Nat) : Int := T (124 + 9 * s + w)
def sMoves (T : Nat → Int) (k : Int) : Int := max k (((k * T 4) * (100 - T 5 * (k - 1))).tdiv 100)
def sWork (T : Nat → Int) (s : Nat) (k : Int) : Int := max 1 ((sCon T s 3 + sMoves T k - 1).tdiv (sMoves T k))
def sLeave (T lev : Nat → Int) (s : Nat) (t k : Int) : Int := sNext T lev (sCon T s 2) (t + sWork T s k).toNat
def sNeed (T : Nat → Int) (s : Nat) : Int := max (sCon T s 1) (sCon T s 2) + T 2
/-- the lowest of a and the levels of j slots from t on -/
def sLowN (lev : Nat → Int) : Nat → Nat → Int → Int
  | 0, _, a => a
  | j + 1, t, a => sLowN lev j (t + 1) (min a (lev t))
def sLow (lev : Nat → Int) (t e : Nat) : Int := sLowN lev (e - t) t (lev t)
/-- the least depth of a and of j metres from m on -/
def sLeastN (T : Nat → Int) : Nat → Nat → Int → Int
  | 0, _, a => a
  | j + 1, m, a => sLeastN T j (m + 1) (min a (sDepth T m))
def sLeast (T : Nat → Int) (a b : Nat) : Int := sLeastN T (b - a) (a + 1) (sDepth T a)
theorem bT_con {T : Nat → Int} (h : bT T) {s : Nat} (hs : (s : Int) < T 9) : (1 ≤ sCon T s 0 ∧ sCon T s 0 ≤ 400) ∧ (0 ≤ sCon T s 1 ∧ sCon T s 1 ≤ 300) ∧ (0 ≤ sCon T s 2 ∧ sCon T s 2 ≤ 300) ∧ (0 ≤ sCon T s 3 ∧ sCon T s 3 ≤ 9999) ∧ (0 ≤ sCon T s 4 ∧ sCon T s 4 ≤ 335) ∧ (0 ≤ sCon T s 5 ∧ sCon T s 5 ≤ 999) ∧ (0 ≤ sCon T s 6 ∧ sCon T s 6 ≤ 3) ∧ (1 ≤ sCon T s 7 ∧ sCon T s 7 ≤ sCon T s 8 ∧ sCon T s 8 ≤ 8) := h.2.2.2.2.2.2.2.2.2.2.2.2.2.2 s hs
theorem bT_n {T : Nat → Int} (h : bT T) : 0 ≤ T 9 ∧ T 9 ≤ 14 := h.2.2.2.2.2.2.2.2.2.1
theorem sMoves_b {T : Nat → Int} (h : bT T) {k : Int} (h1 : 1 ≤ k) (h2 : k ≤ 8) : (0 ≤ (k * T 4) * (100 - T 5 * (k - 1)) ∧ (k * T 4) * (100 - T 5 * (k - 1)) ≤ 79200) ∧ 1 ≤ sMoves T k ∧ sMoves T k ≤ 792 := by
  have b4 := h.2.2.2.2.1
  have b5 := h.2.2.2.2.2.1
  have p1 := bnd_mul (a := k) (b := T 4) (A := 8) (B := 99) (by omega) h2 (by omega) (by omega)
  have p2 := bnd_mul (a := T 5) (b := k - 1) (A := 10) (B := 7) (by omega) (by omega) (by omega) (by omega)
  have p3 := bnd_mul (a := k * T 4) (b := 100 - T 5 * (k - 1)) (A := 792) (B := 100) (by omega) (by omega) (by omega) (by omega)
  refine ⟨⟨p3.1, by omega⟩, ?_⟩
  unfold sMoves
  rw [Int.tdiv_eq_ediv_of_nonneg p3.1]
  have q1 : (k * T 4 * (100 - T 5 * (k - 1))) / 100 ≤ 792 := by omega
  have q2 : 0 ≤ (k * T 4 * (100 - T 5 * (k - 1))) / 100 := by omega
  omega
theorem sWork_b {T : Nat → Int} (h : bT T) {s : Nat} (hs : (s : Int) < T 9) {k : Int} (h1 : 1 ≤ k) (h2 : k ≤ 8) : 1 ≤ sWork T s k ∧ sWork T s k ≤ 10800 := by
  obtain ⟨-, m1, m2⟩ := sMoves_b h h1 h2
  have c := (bT_con h hs).2.2.2.1
  unfold sWork
  rw [Int.tdiv_eq_ediv_of_nonneg (by omega)]
  have q1 : (sCon T s 3 + sMoves T k - 1) / sMoves T k ≤ sCon T s 3 + sMoves T k - 1 := Int.ediv_le_self _ (by omega)
  omega
section PD
variable {S : qSto} {T lev : Nat → Int}
theorem Told_contractOf_s (h : iT S T lev) {s : Nat} (hs : (s : Int) < T 9) {w : Nat} (hw : w < 9) : Told_contractOf (s : Int) (w : Int) S = some (sCon T s w, S) := by
  obtain ⟨hb, hr, -, -, -⟩ := h
  have b := bT_n hb
  have e := hr.2.2.2.2.2.2.2.2.2 s hs w hw
  have f : ((s : Int) * 9 + (w : Int)).toNat = 9 * s + w := by omega
  simp (disch := omega) only [Told_contractOf, qk_ix, f, e]
  rfl
theorem M_of_s (h : iT S T lev) {s : Nat} (hs : (s : Int) < T 9) {w : Nat} (hw : w < 9) : M_of (s : Int) (w : Int) S = some (sCon T s w, S) := by
  obtain ⟨hb, hr, h72, -, -⟩ := h
  have b := bT_n hb
  have f : (124 + 9 * (s : Int) + (w : Int)).toNat = 124 + 9 * s + w := by omega
  simp (disch := omega) only [M_of, qk_ix, f, h72]
  rfl
theorem Told_movesWith_s (h : iT S T lev) {k : Int} (h1 : 1 ≤ k) (h2 : k ≤ 8) : Told_movesWith k S = some (sMoves T k, S) := by
  obtain ⟨hb, hr, -, -, -⟩ := h
  obtain ⟨⟨p1, p2⟩, q1, q2⟩ := sMoves_b hb h1 h2
  have e4 := hr.1 4 (by omega)
  have e5 := hr.1 5 (by omega)
  have g : (k * T 4 * (100 - T 5 * (k - 1))).tdiv 100 = (k * T 4 * (100 - T 5 * (k - 1))) / 100 := Int.tdiv_eq_ediv_of_nonneg p1
  simp (disch := omega) only [Told_movesWith, e4, e5, qk_r]
  rw [Jm_max_s ⟨by omega, by omega⟩ ⟨by omega, by omega⟩]
  rfl
theorem M_movesBy_s (h : iT S T lev) {k : Int} (h1 : 1 ≤ k) (h2 : k ≤ 8) : M_movesBy k S = some (sMoves T k, S) := by
  obtain ⟨hb, hr, h72, -, -⟩ := h
  obtain ⟨⟨p1, p2⟩, q1, q2⟩ := sMoves_b hb h1 h2
  have g : (k * T 4 * (100 - T 5 * (k - 1))).tdiv 100 = (k * T 4 * (100 - T 5 * (k - 1))) / 100 := Int.tdiv_eq_ediv_of_nonneg p1
  simp (disch := omega) only [M_movesBy, h72, qk_r]
  unfold sMoves
  split
  · next c => rw [Int.max_eq_right c]
  · next c => rw [Int.max_eq_left (by omega)]
/-- moves(k) -/
theorem p_moves (h : iT S T lev) {a : Int} (ha : qR a) : ∃ r, C_moves a S = some (r, S) ∧ M_moves a S = some (r, S) := by
  obtain ⟨m1, m2⟩ := id ha
  simp (disch := omega) only [C_moves, M_moves, C_isCraneNumber_s ha, ob_some, ite01_r, ite01_e, qk_r]
  rw [M_in_s ⟨by omega, by omega⟩ ⟨by omega, by omega⟩ ⟨by omega, by omega⟩]
  simp only [ob_some, ite01_r, ite01_e]
  by_cases g : 1 ≤ a ∧ a ≤ 8
  · simp only [if_pos g, Told_movesWith_s h g.1 g.2, M_movesBy_s h g.1 g.2, ob_some]
    exact ⟨_, rfl, rfl⟩
  · simp only [if_neg g]
    exact ⟨_, rfl, rfl⟩
theorem Told_workWith_s (h : iT S T lev) {s : Nat} (hs : (s : Int) < T 9) {k : Int} (h1 : 1 ≤ k) (h2 : k ≤ 8) : Told_workWith (s : Int) k S = some (sWork T s k, S) := by
  obtain ⟨-, m1, m2⟩ := sMoves_b h.1 h1 h2
  have c := (bT_con h.1 hs).2.2.2.1
  have e3 := Told_contractOf_s h hs (w := 3) (by omega)
  have e3' : Told_contractOf (s : Int) 3 S = some (sCon T s 3, S) := e3
  have hm : max 1 (sMoves T k) = sMoves T k := by omega
  have g : (sCon T s 3 + sMoves T k - 1).tdiv (sMoves T k) = (sCon T s 3 + sMoves T k - 1) / sMoves T k := Int.tdiv_eq_ediv_of_nonneg (by omega)
  have q1 : (sCon T s 3 + sMoves T k - 1) / sMoves T k ≤ sCon T s 3 + sMoves T k - 1 := Int.ediv_le_self _ (by omega)
  have q0 : 0 ≤ (sCon T s 3 + sMoves T k - 1) / sMoves T k := Int.ediv_nonneg (by omega) (by omega)
  simp only [Told_workWith, Told_movesWith_s h h1 h2, ob_some, Jm_max_s (S := S) (a := 1) (b := sMoves T k) ⟨by omega, by omega⟩ ⟨by omega, by omega⟩, hm, e3']
  simp (disch := omega) only [qk_r, qk_nz]
  rw [Jm_max_s ⟨by omega, by omega⟩ ⟨by omega, by omega⟩]
  rfl
theorem M_workBy_s (h : iT S T lev) {s : Nat} (hs : (s : Int) < T 9) {k : Int} (h1 : 1 ≤ k) (h2 : k ≤ 8) : M_workBy (s : Int) k S = some (sWork T s k, S) := by
  obtain ⟨-, m1, m2⟩ := sMoves_b h.1 h1 h2
  have c := (bT_con h.1 hs).2.2.2.1
  have e3 := M_of_s h hs (w := 3) (by omega)
  have e3' : M_of (s : Int) 3 S = some (sCon T s 3, S) := e3
  have g : (sCon T s 3 + sMoves T k - 1).tdiv (sMoves T k) = (sCon T s 3 + sMoves T k - 1) / sMoves T k := Int.tdiv_eq_ediv_of_nonneg (by omega)
  have q1 : (sCon T s 3 + sMoves T k - 1) / sMoves T k ≤ sCon T s 3 + sMoves T k - 1 := Int.ediv_le_self _ (by omega)
  have q0 : 0 ≤ (sCon T s 3 + sMoves T k - 1) / sMoves T k := Int.ediv_nonneg (by omega) (by omega)
  simp only [M_workBy, M_movesBy_s h h1 h2, ob_some, e3']
  simp (disch := omega) only [qk_r, qk_nz]
  unfold sWork
  split
  · next c => rw [Int.max_eq_right c]
  · next c => rw [Int.max_eq_left (by omega)]
theorem M_leaveBy_s (h : iT S T lev) {s : Nat} (hs : (s : Int) < T 9) {t k : Int} (h1 : 1 ≤ k) (h2 : k ≤ 8) (h3 : 0 ≤ t) (h4 : t ≤ 335) : M_leaveBy (s : Int) t k S = some (sLeave T lev s t k, S) := by
  have c := (bT_con h.1 hs).2.2.1
  have w := sWork_b h.1 hs h1 h2
  have e2 : M_of (s : Int) 2 S = some (sCon T s 2, S) := M_of_s h hs (w := 2) (by omega)
  simp only [M_leaveBy, e2, ob_some, M_workBy_s h hs h1 h2]
  rw [M_nextOpen_s h (by omega) (by omega) (by omega) (by omega)]
  rfl
theorem Told_waterNeededBy_s (h : iT S T lev) {s : Nat} (hs : (s : Int) < T 9) : Told_waterNeededBy (s : Int) S = some (sNeed T s, S) := by
  have c := bT_con h.1 hs
  have e1 : Told_contractOf (s : Int) 1 S = some (sCon T s 1, S) := Told_contractOf_s h hs (w := 1) (by omega)
  have e2 : Told_contractOf (s : Int) 2 S = some (sCon T s 2, S) := Told_contractOf_s h hs (w := 2) (by omega)
  have f := h.2.1.1 2 (by omega)
  simp only [Told_waterNeededBy, e1, e2, ob_some]
  rw [Jm_max_s ⟨by omega, by omega⟩ ⟨by omega, by omega⟩]
  simp only [ob_some, f, sNeed, Int.add_comm]
theorem M_needOf_s (h : iT S T lev) {s : Nat} (hs : (s : Int) < T 9) : M_needOf (s : Int) S = some (sNeed T s, S) := by
  have c := bT_con h.1 hs
  have e1 : M_of (s : Int) 1 S = some (sCon T s 1, S) := M_of_s h hs (w := 1) (by omega)
  have e2 : M_of (s : Int) 2 S = some (sCon T s 2, S) := M_of_s h hs (w := 2) (by omega)
  have f := h.2.2.1 2
  simp only [M_needOf, e1, e2, ob_some]
  simp (disch := omega) only [qk_r]
  unfold sNeed
  by_cases g : sCon T s 1 ≤ sCon T s 2
  · simp only [if_pos g, ob_some, f, Int.max_eq_right g]
  · simp only [if_neg g, ob_some, f, Int.max_eq_left (show sCon T s 2 ≤ sCon T s 1 by omega)]
theorem sLowN_b (lev : Nat → Int) (hl : ∀ t, t < 336 → 0 ≤ lev t ∧ lev t ≤ 99) : ∀ (j t : Nat) (a : Int), t + j ≤ 336 → 0 ≤ a → a ≤ 99 → 0 ≤ sLowN lev j t a ∧ sLowN lev j t a ≤ a
  | 0, _, a, _, h1, h2 => ⟨h1, Int.le_refl a⟩
  | j + 1, t, a, e, h1, h2 => by
    have := hl t (by omega)
    have ih := sLowN_b lev hl j (t + 1) (min a (lev t)) (by omega) (by omega) (by omega)
    rw [sLowN]
    omega
theorem Waters_lowest_L (h : iT S T lev) {z : Nat} (hz : z ≤ 336) : ∀ (j n t : Nat) (a : Int), t + j = z → j < n → 0 ≤ a → a ≤ 99 → Waters_lowest_L10 n (z : Int) a (t : Int) S = some (sLowN lev j t a, S)
  | 0, n + 1, t, a, e, _, _, _ => by
    rw [Waters_lowest_L10]
    simp (disch := omega) only [qk_r]
    rw [if_pos (by omega)]
    rfl
  | j + 1, n + 1, t, a, e, hn, ha, hb => by
    obtain ⟨l1, l2, l3, l4⟩ := h.2.2.2.1 t (by omega)
    rw [Waters_lowest_L10]
    simp (disch := omega) only [qk_r, qk_ix, Int.toNat_natCast, l1, if_neg (show ¬ (z : Int) ≤ (t : Int) by omega)]
    rw [Jm_min_s ⟨by omega, by omega⟩ ⟨by omega, by omega⟩]
    simp only [ob_some]
    exact Waters_lowest_L h hz j n (t + 1) _ (by omega) (by omega) (by omega) (by omega)
theorem Waters_lowest_s (h : iT S T lev) {t e : Nat} (ht : t < 336) (he : t ≤ e) (he2 : e ≤ 336) : Waters_lowest (t : Int) (e : Int) S = some (sLow lev t e, S) := by
  obtain ⟨l1, l2, l3, l4⟩ := h.2.2.2.1 t ht
  simp (disch := omega) only [Waters_lowest, qk_ix, Int.toNat_natCast, l1]
  rw [Waters_lowest_L h he2 (e - t) qF t (lev t) (by omega) (by unfold qF; omega) l3 l4]
  rfl
/-! depth -/
theorem sDep_spec {T : Nat → Int} (h : bT T) (m : Int) : ∀ i : Nat, (i : Int) ≤ T 6 → ((∀ k : Nat, k < i → ¬ T (11 + k) ≤ m) ∧ sDep T m i = (-1, 100)) ∨ ∃ k : Nat, k < i ∧ T (11 + k) ≤ m ∧ sDep T m i = (T (11 + k), T (19 + k)) ∧ ∀ j : Nat, j < i → T (11 + j) ≤ m → T (11 + j) ≤ T (11 + k)
  | 0, _ => Or.inl ⟨fun k hk => absurd hk (by omega), rfl⟩
  | i + 1, hi => by
    have hx := h.2.2.2.2.2.2.2.2.2.2.1 i (by omega)
    rw [sDep]
    rcases sDep_spec h m i (by omega) with ⟨h1, h2⟩ | ⟨k, h1, h2, h3, h4⟩
    · rw [h2]
      by_cases g : T (11 + i) ≤ m
      · refine Or.inr ⟨i, by omega, g, if_pos ⟨g, by show (-1 : Int) < _; omega⟩, fun j hj hm => ?_⟩
        rcases Nat.lt_or_ge j i with q | q
        · exact absurd hm (h1 j q)
        · have : j = i := by omega
          rw [this]
          exact Int.le_refl _
      · refine Or.inl ⟨fun k hk => ?_, if_neg (fun q => g q.1)⟩
        rcases Nat.lt_or_ge k i with q | q
        · exact h1 k q
        · have : k = i := by omega
          rw [this]
          exact g
    · rw [h3]
      by_cases g : T (11 + i) ≤ m ∧ T (11 + k) < T (11 + i)
      · refine Or.inr ⟨i, by omega, g.1, if_pos g, fun j hj hm => ?_⟩
        rcases Nat.lt_or_ge j i with q | q
        · have := h4 j q hm
          omega
        · have : j = i := by omega
          rw [this]
          exact Int.le_refl _
      · refine Or.inr ⟨k, by omega, h2, if_neg g, fun j hj hm => ?_⟩
        rcases Nat.lt_or_ge j i with q | q
        · exact h4 j q hm
        · have : j = i := by omega
          rw [this] at hm ⊢
          omega
theorem sDep_b {T : Nat → Int} (h : bT T) (m : Int) {i : Nat} (hi : (i : Int) ≤ T 6) : (-1 ≤ (sDep T m i).1 ∧ (sDep T m i).1 ≤ 999) ∧ 0 ≤ (sDep T m i).2 ∧ (sDep T m i).2 ≤ 300 := by
  rcases sDep_spec h m i hi with ⟨-, h2⟩ | ⟨k, h1, h2, h3, h4⟩
  · rw [h2]
    decide
  · rw [h3]
    have hx := h.2.2.2.2.2.2.2.2.2.2.1 k (by omega)
    exact ⟨⟨by show (-1 : Int) ≤ T (11 + k); omega, hx.1.2⟩, hx.2.1⟩
theorem sDepth_b {T : Nat → Int} (h : bT T) (m : Int) : 0 ≤ sDepth T m ∧ sDepth T m ≤ 300 := by
  have b6 := h.2.2.2.2.2.2.1
  exact (sDep_b h m (i := (T 6).toNat) (by omega)).2
theorem Told_depthOf_L (h : iT S T lev) {m : Int} (hm : qR m) : ∀ (j n i : Nat), (i : Int) + j = T 6 → j < n → Told_depthOf_L8 n m (sDep T m i).1 (sDep T m i).2 (i : Int) S = some (sDepth T m, S)
  | 0, n + 1, i, e, _ => by
    have b6 := h.1.2.2.2.2.2.2.1
    have e2 := h.2.1.2.1
    rw [Told_depthOf_L8]
    simp (disch := omega) only [qk_r, e2]
    rw [if_pos (by omega)]
    unfold sDepth
    rw [show (T 6).toNat = i by omega]
  | j + 1, n + 1, i, e, hn => by
    obtain ⟨m1, m2⟩ := id hm
    have b6 := h.1.2.2.2.2.2.2.1
    have e2 := h.2.1.2.1
    obtain ⟨f1, f2⟩ := h.2.1.2.2.2.2.2.1 i (by omega)
    have hx := h.1.2.2.2.2.2.2.2.2.2.2.1 i (by omega)
    have hd := sDep_b h.1 m (i := i) (by omega)
    rw [Told_depthOf_L8]
    simp (disch := omega) only [qk_r, qk_ix, Int.toNat_natCast, e2, f1, f2, if_neg (show ¬ T 6 ≤ (i : Int) by omega)]
    have ih := Told_depthOf_L h hm j n (i + 1) (by omega) (by omega)
    rw [sDep] at ih
    by_cases g1 : m < T (11 + i)
    · simp only [if_pos g1, ob_some]
      rw [if_neg (show ¬ (T (11 + i) ≤ m ∧ (sDep T m i).1 < T (11 + i)) by omega)] at ih
      exact ih
    · simp only [if_neg g1]
      by_cases g2 : T (11 + i) ≤ (sDep T m i).1
      · simp only [if_pos g2, ob_some]
        rw [if_neg (show ¬ (T (11 + i) ≤ m ∧ (sDep T m i).1 < T (11 + i)) by omega)] at ih
        exact ih
      · simp only [if_neg g2, ob_some]
        rw [if_pos (show (T (11 + i) ≤ m ∧ (sDep T m i).1 < T (11 + i)) by omega)] at ih
        exact ih
theorem Told_depthOf_s (h : iT S T lev) {m : Int} (hm : qR m) : Told_depthOf m S = some (sDepth T m, S) := by
  have b6 := h.1.2.2.2.2.2.2.1
  have e := Told_depthOf_L h hm (T 6).toNat qF 0 (by omega) (by unfold qF; omega)
  have e' : Told_depthOf_L8 qF m (-1) 100 0 S = some (sDepth T m, S) := e
  rw [Told_depthOf, e']
  rfl
/-- depth(metre) -/
theorem p_depth (h : iT S T lev) {a : Int} (ha : qR a) : ∃ r, C_depth a S = some (r, S) ∧ M_depth a S = some (r, S) := by
  have b0 := h.1.1
  simp only [C_depth, M_depth, C_isMetre_s h ha, M_isMetre_s h ha, ob_some, ite01_r, ite01_e]
  by_cases g : 0 ≤ a ∧ a < T 0
  · have e := h.2.2.2.2 a.toNat (by omega)
    have f : ((a.toNat : Nat) : Int) = a := by omega
    rw [f] at e
    simp (disch := omega) only [if_pos g, Told_depthOf_s h ha, ob_some, qk_ix, e]
    exact ⟨_, rfl, rfl⟩
  · simp only [if_neg g]
    exact ⟨_, rfl, rfl⟩
end PD
