/-! saved stays are taken again -/
section PTA
variable {T lev : Nat → Int} {Y : qY}
theorem fill40_L {v : Int} : ∀ (j n i : Nat) (S : qSto), i + j = 14 → j < n → (∀ k, k < i → S 40 k = v) → ∃ S', Ja_fill_40_L5 n v (i : Int) S = some S' ∧ fO 40 S S' ∧ ∀ k, k < 14 → S' 40 k = v
  | 0, n + 1, i, S, e, _, h => by
    rw [Ja_fill_40_L5]
    simp (disch := omega) only [qk_r, if_pos (show (14 : Int) ≤ (i : Int) by omega)]
    exact ⟨S, rfl, fun c _ => rfl, fun k hk => h k (by omega)⟩
  | j + 1, n + 1, i, S, e, hn, h => by
    rw [Ja_fill_40_L5]
    simp (disch := omega) only [qk_r, qk_ix, if_neg (show ¬ (14 : Int) ≤ (i : Int) by omega), Int.toNat_natCast]
    obtain ⟨S', t1, t2, t3⟩ := fill40_L j n (i + 1) (qup S 40 i v) (by omega) (by omega) (fun k hk => by
      rw [qup_on]
      split
      · rfl
      · exact h k (by omega))
    exact ⟨S', t1, fun c hc => (t2 c hc).trans (qup_off hc), t3⟩
theorem fill40_s {v : Int} {S : qSto} : ∃ S', Ja_fill_40 v S = some S' ∧ fO 40 S S' ∧ ∀ k, k < 14 → S' 40 k = v := by
  obtain ⟨S', t1, t2, t3⟩ := fill40_L (v := v) 14 qF 0 S (by omega) (by unfold qF; omega) (fun k hk => absurd hk (by omega))
  have t1' : Ja_fill_40_L5 qF v 0 S = some S' := t1
  refine ⟨S', ?_, t2, t3⟩
  rw [Ja_fill_40, t1']
  rfl
theorem fill43_L {v : Int} : ∀ (j n i : Nat) (S : qSto), i + j = 336 → j < n → (∀ k, k < i → S 43 k = v) → ∃ S', Ja_fill_43_L5 n v (i : Int) S = some S' ∧ fO 43 S S' ∧ ∀ k, k < 336 → S' 43 k = v
  | 0, n + 1, i, S, e, _, h => by
    rw [Ja_fill_43_L5]
    simp (disch := omega) only [qk_r, if_pos (show (336 : Int) ≤ (i : Int) by omega)]
    exact ⟨S, rfl, fun c _ => rfl, fun k hk => h k (by omega)⟩
  | j + 1, n + 1, i, S, e, hn, h => by
    rw [Ja_fill_43_L5]
    simp (disch := omega) only [qk_r, qk_ix, if_neg (show ¬ (336 : Int) ≤ (i : Int) by omega), Int.toNat_natCast]
    obtain ⟨S', t1, t2, t3⟩ := fill43_L j n (i + 1) (qup S 43 i v) (by omega) (by omega) (fun k hk => by
      rw [qup_on]
      split
      · rfl
      · exact h k (by omega))
    exact ⟨S', t1, fun c hc => (t2 c hc).trans (qup_off hc), t3⟩
theorem fill43_s {v : Int} {S : qSto} : ∃ S', Ja_fill_43 v S = some S' ∧ fO 43 S S' ∧ ∀ k, k < 336 → S' 43 k = v := by
  obtain ⟨S', t1, t2, t3⟩ := fill43_L (v := v) 336 qF 0 S (by omega) (by unfold qF; omega) (fun k hk => absurd hk (by omega))
  have t1' : Ja_fill_43_L5 qF v 0 S = some S' := t1
  refine ⟨S', ?_, t2, t3⟩
  rw [Ja_fill_43, t1']
  rfl
theorem clear_s {S : qSto} {Y0 : qY} (hc : cY S T lev Y0) : ∃ S', Stays_clear S = some S' ∧ (∀ Y' : qY, (∀ s, Y'.2.2 s = 0) → cY S' T lev Y') ∧ ∀ c, c ≠ 40 → c ≠ 43 → S' c = S c := by
  obtain ⟨S1, t1, t2, t3⟩ := fill40_s (v := 0) (S := S)
  obtain ⟨S2, u1, u2, u3⟩ := fill43_s (v := 0) (S := S1)
  refine ⟨S2, ?_, fun Y' h0 => ?_, fun c h1 h2 => (u2 c h2).trans (t2 c h1)⟩
  · rw [Stays_clear, t1]
    simp only [ob_some]
    rw [u1]
    rfl
  · obtain ⟨c1, c2, c3, g37, g38, g39, g41, g42⟩ := hc
    refine ⟨fun s hs => ?_, fun s hs hk => ?_, fun t ht => ?_, ?_, ?_, ?_, ?_, ?_⟩
    · rw [u2 40 (by omega), t3 s hs, h0]
    · have := h0 s
      omega
    · rw [u3 t ht]
      unfold sBusy
      rw [sm_cong (g := fun _ => 0) (fun s _ => by
        have := h0 s
        rw [if_neg (by omega)])]
      exact (sm_zero _).symm
    · exact gB_off g37 ((u2 37 (by omega)).trans (t2 37 (by omega)))
    · exact gB_off g38 ((u2 38 (by omega)).trans (t2 38 (by omega)))
    · exact gB_off g39 ((u2 39 (by omega)).trans (t2 39 (by omega)))
    · exact gB_off g41 ((u2 41 (by omega)).trans (t2 41 (by omega)))
    · exact gB_off g42 ((u2 42 (by omega)).trans (t2 42 (by omega)))
/-- the first i stays alone -/
def yT (Y : qY) (i : Nat) : qY := (Y.1, Y.2.1, fun s => if s < i then Y.2.2 s else 0)
theorem yT_0 (Y : qY) (i : Nat) : (yT Y i).2.2 i = 0 := if_neg (by omega)
theorem yT_put {i : Nat} : yP (yT Y i) i (Y.1 i) (Y.2.1 i) (Y.2.2 i) = yT Y (i + 1) := by
  unfold yT
  refine Prod.ext (funext fun s => ?_) (Prod.ext (funext fun s => ?_) (funext fun s => ?_))
  · show (if s = i then Y.1 i else Y.1 s) = Y.1 s
    split
    · next h => rw [h]
    · rfl
  · show (if s = i then Y.2.1 i else Y.2.1 s) = Y.2.1 s
    split
    · next h => rw [h]
    · rfl
  · show (if s = i then Y.2.2 i else if s < i then Y.2.2 s else 0) = if s < i + 1 then Y.2.2 s else 0
    by_cases q : s = i
    · rw [if_pos q, if_pos (by omega), q]
    · rw [if_neg q]
      by_cases z : s < i
      · rw [if_pos z, if_pos (by omega)]
      · rw [if_neg z, if_neg (by omega)]
theorem yT_skip {i : Nat} (h : Y.2.2 i = 0) : yE (yT Y i) (yT Y (i + 1)) := by
  refine ⟨fun s => ?_, fun s _ => ⟨rfl, rfl⟩⟩
  show (if s < i then Y.2.2 s else 0) = if s < i + 1 then Y.2.2 s else 0
  by_cases q : s = i
  · rw [if_neg (by omega), if_pos (by omega), q, h]
  · by_cases z : s < i
    · rw [if_pos z, if_pos (by omega)]
    · rw [if_neg z, if_neg (by omega)]
theorem yT_end (hB : bY T lev Y) {i : Nat} (h : (i : Int) = T 9) : yE (yT Y i) Y := by
  refine ⟨fun s => ?_, fun s _ => ⟨rfl, rfl⟩⟩
  show (if s < i then Y.2.2 s else 0) = Y.2.2 s
  by_cases z : s < i
  · rw [if_pos z]
  · rw [if_neg z, (hB.1 s).2 (by omega)]
theorem load_14_L (hT : bT T) (hB : bY T lev Y) : ∀ (j n i : Nat) (S : qSto), (i : Int) + j = T 9 → j < n → iT S T lev → cY S T lev (yT Y i) → gR (S 14) Y → ∃ S', Stays_load_14_L6 n (i : Int) S = some S' ∧ cY S' T lev Y ∧ ∀ c, ¬ (37 ≤ c ∧ c ≤ 43) → S' c = S c
  | 0, n + 1, i, S, h, _, hI, hc, hg => by
    have b9 := bT_n hT
    have e12 : S 2 12 = T 9 := hI.2.1.2.2.2.2.1
    rw [Stays_load_14_L6]
    simp (disch := omega) only [qk_r, e12, if_pos (show T 9 ≤ (i : Int) by omega)]
    exact ⟨S, rfl, cY_cong (yT_end hB (by omega)) hc, fun c _ => rfl⟩
  | j + 1, n + 1, i, S, h, hn, hI, hc, hg => by
    have b9 := bT_n hT
    have e12 : S 2 12 = T 9 := hI.2.1.2.2.2.2.1
    have hs : (i : Int) < T 9 := by omega
    have e0 : ((i : Int) * 3).toNat = 3 * i := by omega
    have e1 : ((i : Int) * 3 + 1).toNat = 3 * i + 1 := by omega
    have e2 : ((i : Int) * 3 + 2).toNat = 3 * i + 2 := by omega
    obtain ⟨g1, g2, g3, g4⟩ := hg i (by omega)
    have kb : 0 ≤ Y.2.2 i ∧ Y.2.2 i ≤ 8 := by
      have p0 := (hB.1 i).1
      by_cases q : 0 < Y.2.2 i
      · have := bY_one hT hB hs q
        omega
      · omega
    rw [Stays_load_14_L6]
    simp (disch := omega) only [qk_r, qk_ix, e12, if_neg (show ¬ T 9 ≤ (i : Int) by omega), e0, e1, e2, g1]
    by_cases q : Y.2.2 i ≤ 0
    · rw [if_pos q]
      simp only [ob_some]
      have hc' : cY S T lev (yT Y (i + 1)) := cY_cong (yT_skip (by omega)) hc
      obtain ⟨S', t1, t2, t3⟩ := load_14_L hT hB j n (i + 1) S (by omega) (by omega) hI hc' hg
      exact ⟨S', t1, t2, t3⟩
    · have hk : 0 < Y.2.2 i := by omega
      obtain ⟨x1, x2⟩ := g2 hk
      obtain ⟨S1, u1, u2, u3⟩ := Stays_lay_w hI hc hs (yT_0 Y i) (bY_ok hB hs hk)
      rw [if_neg q, x1, x2, u1]
      simp only [ob_some]
      have hc' : cY S1 T lev (yT Y (i + 1)) := by
        rw [yT_put] at u2
        exact u2
      obtain ⟨S', t1, t2, t3⟩ := load_14_L hT hB j n (i + 1) S1 (by omega) (by omega) (iT_off hI (fun c hc => u3 c (by omega))) hc' (by rw [u3 14 (by omega)]; exact hg)
      exact ⟨S', t1, t2, fun c hc => (t3 c hc).trans (u3 c hc)⟩
theorem load_14_s {S : qSto} {Y0 : qY} (hI : iT S T lev) (hB : bY T lev Y) (hc : cY S T lev Y0) (hg : gR (S 14) Y) : ∃ S', Stays_load_14 S = some S' ∧ cY S' T lev Y ∧ ∀ c, ¬ (37 ≤ c ∧ c ≤ 43) → S' c = S c := by
  have b9 := bT_n hI.1
  obtain ⟨S1, u1, u2, u3⟩ := clear_s hc
  obtain ⟨S', t1, t2, t3⟩ := load_14_L hI.1 hB (sN T) qF 0 S1 (by unfold sN; omega) (by unfold qF sN; omega) (iT_off hI (fun c hc => u3 c (by omega) (by omega))) (u2 _ (fun s => show (if s < 0 then Y.2.2 s else 0) = 0 from if_neg (Nat.not_lt_zero s))) (by rw [u3 14 (by omega) (by omega)]; exact hg)
  have t1' : Stays_load_14_L6 qF 0 S1 = _ := t1
  refine ⟨S', ?_, t2, fun c hc => (t3 c hc).trans (u3 c (by omega) (by omega))⟩
  rw [Stays_load_14, u1]
  simp only [ob_some]
  rw [t1']
  rfl
theorem load_x_L (hT : bT T) (hB : bY T lev Y) {x : Nat} (hx : qAr x 42 = true) (ha : x ≠ 2 ∧ x ≠ 40 ∧ x ≠ 43 ∧ ¬ (37 ≤ x ∧ x ≤ 43)) : ∀ (j n i : Nat) (S : qSto), (i : Int) + j = T 9 → j < n → iT S T lev → cY S T lev (yT Y i) → gR (S x) Y → ∃ S', Stays_load_x_L6 n x (i : Int) S = some S' ∧ cY S' T lev Y ∧ ∀ c, ¬ (37 ≤ c ∧ c ≤ 43) → S' c = S c
  | 0, n + 1, i, S, h, _, hI, hc, hg => by
    have b9 := bT_n hT
    have e12 : S 2 12 = T 9 := hI.2.1.2.2.2.2.1
    rw [Stays_load_x_L6]
    simp (disch := omega) only [qk_r, e12, if_pos (show T 9 ≤ (i : Int) by omega)]
    exact ⟨S, rfl, cY_cong (yT_end hB (by omega)) hc, fun c _ => rfl⟩
  | j + 1, n + 1, i, S, h, hn, hI, hc, hg => by
    have b9 := bT_n hT
    have e12 : S 2 12 = T 9 := hI.2.1.2.2.2.2.1
    have hs : (i : Int) < T 9 := by omega
    have e0 : ((i : Int) * 3).toNat = 3 * i := by omega
    have e1 : ((i : Int) * 3 + 1).toNat = 3 * i + 1 := by omega
    have e2 : ((i : Int) * 3 + 2).toNat = 3 * i + 2 := by omega
    obtain ⟨g1, g2, g3, g4⟩ := hg i (by omega)
    have kb : 0 ≤ Y.2.2 i ∧ Y.2.2 i ≤ 8 := by
      have p0 := (hB.1 i).1
      by_cases q : 0 < Y.2.2 i
      · have := bY_one hT hB hs q
        omega
      · omega
    rw [Stays_load_x_L6]
    simp (disch := omega) only [qk_of hx, qk_r, qk_ix, e12, if_neg (show ¬ T 9 ≤ (i : Int) by omega), e0, e1, e2, g1]
    by_cases q : Y.2.2 i ≤ 0
    · rw [if_pos q]
      simp only [ob_some]
      have hc' : cY S T lev (yT Y (i + 1)) := cY_cong (yT_skip (by omega)) hc
      obtain ⟨S', t1, t2, t3⟩ := load_x_L hT hB hx ha j n (i + 1) S (by omega) (by omega) hI hc' hg
      exact ⟨S', t1, t2, t3⟩
    · have hk : 0 < Y.2.2 i := by omega
      obtain ⟨x1, x2⟩ := g2 hk
      obtain ⟨S1, u1, u2, u3⟩ := Stays_lay_w hI hc hs (yT_0 Y i) (bY_ok hB hs hk)
      rw [if_neg q, x1, x2, u1]
      simp only [ob_some]
      have hc' : cY S1 T lev (yT Y (i + 1)) := by
        rw [yT_put] at u2
        exact u2
      obtain ⟨S', t1, t2, t3⟩ := load_x_L hT hB hx ha j n (i + 1) S1 (by omega) (by omega) (iT_off hI (fun c hc => u3 c (by omega))) hc' (by rw [u3 x (by omega)]; exact hg)
      exact ⟨S', t1, t2, fun c hc => (t3 c hc).trans (u3 c hc)⟩
theorem load_x_s {S : qSto} {x : Nat} (hx : qAr x 42 = true) (ha : x ≠ 2 ∧ x ≠ 40 ∧ x ≠ 43 ∧ ¬ (37 ≤ x ∧ x ≤ 43)) {Y0 : qY} (hI : iT S T lev) (hB : bY T lev Y) (hc : cY S T lev Y0) (hg : gR (S x) Y) : ∃ S', Stays_load_x x S = some S' ∧ cY S' T lev Y ∧ ∀ c, ¬ (37 ≤ c ∧ c ≤ 43) → S' c = S c := by
  have b9 := bT_n hI.1
  obtain ⟨S1, u1, u2, u3⟩ := clear_s hc
  obtain ⟨S', t1, t2, t3⟩ := load_x_L hI.1 hB hx ha (sN T) qF 0 S1 (by unfold sN; omega) (by unfold qF sN; omega) (iT_off hI (fun c hc => u3 c (by omega) (by omega))) (u2 _ (fun s => show (if s < 0 then Y.2.2 s else 0) = 0 from if_neg (Nat.not_lt_zero s))) (by rw [u3 x (by omega) (by omega)]; exact hg)
  have t1' : Stays_load_x_L6 qF x 0 S1 = _ := t1
  refine ⟨S', ?_, t2, fun c hc => (t3 c hc).trans (u3 c (by omega) (by omega))⟩
  rw [Stays_load_x, u1]
  simp only [ob_some]
  rw [t1']
  rfl
/-- the reference takes a row -/
def yM (Y0 Y : qY) (i : Nat) : qY := (fun s => if s < i then Y.1 s else Y0.1 s, fun s => if s < i then Y.2.1 s else Y0.2.1 s, fun s => if s < i then Y.2.2 s else Y0.2.2 s)
theorem yM_put {Y0 : qY} {i : Nat} {x t k : Int} (hk : Y.2.2 i = k) (h : 0 < k → Y.1 i = x ∧ Y.2.1 i = t) : yE (yP (yM Y0 Y i) i x t k) (yM Y0 Y (i + 1)) := by
  refine ⟨fun s => ?_, fun s hs => ?_⟩
  · show (if s = i then k else if s < i then Y.2.2 s else Y0.2.2 s) = if s < i + 1 then Y.2.2 s else Y0.2.2 s
    by_cases q : s = i
    · rw [if_pos q, if_pos (by omega), q, hk]
    · rw [if_neg q]
      by_cases z : s < i
      · rw [if_pos z, if_pos (by omega)]
      · rw [if_neg z, if_neg (by omega)]
  · show (if s = i then x else if s < i then Y.1 s else Y0.1 s) = (if s < i + 1 then Y.1 s else Y0.1 s) ∧ (if s = i then t else if s < i then Y.2.1 s else Y0.2.1 s) = if s < i + 1 then Y.2.1 s else Y0.2.1 s
    by_cases q : s = i
    · have e : (yP (yM Y0 Y i) i x t k).2.2 s = k := if_pos q
      rw [e] at hs
      obtain ⟨e1, e2⟩ := h hs
      rw [if_pos q, if_pos (by omega), if_pos q, if_pos (by omega), q]
      exact ⟨e1.symm, e2.symm⟩
    · rw [if_neg q, if_neg q]
      by_cases z : s < i
      · rw [if_pos z, if_pos (by omega), if_pos z, if_pos (by omega)]
        exact ⟨rfl, rfl⟩
      · rw [if_neg z, if_neg (by omega), if_neg z, if_neg (by omega)]
        exact ⟨rfl, rfl⟩
theorem yM_end {Y0 : qY} (hB : bY T lev Y) (hB0 : bY T lev Y0) {i : Nat} (h : (i : Int) = T 9) : yE (yM Y0 Y i) Y := by
  refine ⟨fun s => ?_, fun s hs => ?_⟩
  · show (if s < i then Y.2.2 s else Y0.2.2 s) = Y.2.2 s
    by_cases z : s < i
    · rw [if_pos z]
    · rw [if_neg z, (hB.1 s).2 (by omega), (hB0.1 s).2 (by omega)]
  · show (if s < i then Y.1 s else Y0.1 s) = Y.1 s ∧ (if s < i then Y.2.1 s else Y0.2.1 s) = Y.2.1 s
    by_cases z : s < i
    · rw [if_pos z, if_pos z]
      exact ⟨rfl, rfl⟩
    · have e : (yM Y0 Y i).2.2 s = Y0.2.2 s := if_neg z
      rw [e, (hB0.1 s).2 (by omega)] at hs
      omega
theorem takesM_L (hT : bT T) {Y0 : qY} (hB0 : bY T lev Y0) (hB : bY T lev Y) {r : Nat} (hr : r < 18) : ∀ (j n i : Nat) (S : qSto), (i : Int) + j = T 9 → j < n → iT S T lev → mY S T lev (yM Y0 Y i) → gR (mR S r) Y → ∃ S', M_takes_L7 n (42 * (r : Int)) (i : Int) S = some S' ∧ mY S' T lev Y ∧ ∀ c, ¬ (78 ≤ c ∧ c ≤ 82) → S' c = S c
  | 0, n + 1, i, S, h, _, hI, hm, hg => by
    have b9 := bT_n hT
    have e12 : S 72 9 = T 9 := hI.2.2.1 9
    rw [M_takes_L7]
    simp (disch := omega) only [qk_r, e12, if_pos (show T 9 ≤ (i : Int) by omega)]
    exact ⟨S, rfl, mY_cong (yM_end hB hB0 (by omega)) hm, fun c _ => rfl⟩
  | j + 1, n + 1, i, S, h, hn, hI, hm, hg => by
    have b9 := bT_n hT
    have e12 : S 72 9 = T 9 := hI.2.2.1 9
    have hs : (i : Int) < T 9 := by omega
    have e0 : (42 * (r : Int) + 3 * (i : Int)).toNat = 42 * r + 3 * i := by omega
    have e1 : (42 * (r : Int) + 3 * (i : Int) + 1).toNat = 42 * r + (3 * i + 1) := by omega
    have e2 : (42 * (r : Int) + 3 * (i : Int) + 2).toNat = 42 * r + (3 * i + 2) := by omega
    obtain ⟨g1, g2, g3, g4⟩ := hg i (by omega)
    have p0 := (hB.1 i).1
    have hok : (S 85 (42 * r + (3 * i + 2)) = 0 ∧ (-1000000 ≤ S 85 (42 * r + 3 * i) ∧ S 85 (42 * r + 3 * i) ≤ 1000000) ∧ (-1000000 ≤ S 85 (42 * r + (3 * i + 1)) ∧ S 85 (42 * r + (3 * i + 1)) ≤ 1000000)) ∨ okW T lev i (S 85 (42 * r + 3 * i)) (S 85 (42 * r + (3 * i + 1))) (S 85 (42 * r + (3 * i + 2))) := by
      by_cases q : 0 < Y.2.2 i
      · right
        obtain ⟨x1, x2⟩ := g2 q
        have x1' : S 85 (42 * r + 3 * i) = Y.1 i := x1
        have x2' : S 85 (42 * r + (3 * i + 1)) = Y.2.1 i := x2
        have x3' : S 85 (42 * r + (3 * i + 2)) = Y.2.2 i := g1
        rw [x1', x2', x3']
        exact bY_ok hB hs q
      · left
        have x3' : S 85 (42 * r + (3 * i + 2)) = Y.2.2 i := g1
        exact ⟨by omega, g3, g4⟩
    obtain ⟨S1, u1, u2, u3⟩ := M_lay_w hI hm hs hok
    rw [M_takes_L7]
    simp (disch := omega) only [qk_r, qk_ix, e12, if_neg (show ¬ T 9 ≤ (i : Int) by omega), e0, e1, e2]
    rw [u1]
    simp only [ob_some]
    have hm' : mY S1 T lev (yM Y0 Y (i + 1)) := mY_cong (yM_put g1.symm (fun hk => by
      have hk' : 0 < Y.2.2 i := by
        have x3' : S 85 (42 * r + (3 * i + 2)) = Y.2.2 i := g1
        omega
      obtain ⟨x1, x2⟩ := g2 hk'
      exact ⟨x1.symm, x2.symm⟩)) u2
    obtain ⟨S', t1, t2, t3⟩ := takesM_L hT hB0 hB hr j n (i + 1) S1 (by omega) (by omega) (iT_off hI (fun c hc => u3 c (by omega))) hm' (gR_cong hg (fun q _ => by show S1 85 _ = S 85 _; rw [u3 85 (by omega)]))
    exact ⟨S', t1, t2, fun c hc => (t3 c hc).trans (u3 c hc)⟩
theorem takes_s {S : qSto} {Y0 : qY} (hI : iT S T lev) (hB0 : bY T lev Y0) (hB : bY T lev Y) {r : Nat} (hr : r < 18) (hm : mY S T lev Y0) (hg : gR (mR S r) Y) : ∃ S', M_takes (r : Int) S = some S' ∧ mY S' T lev Y ∧ ∀ c, ¬ (78 ≤ c ∧ c ≤ 82) → S' c = S c := by
  have b9 := bT_n hI.1
  have e : yE Y0 (yM Y0 Y 0) := ⟨fun s => (show (if s < 0 then Y.2.2 s else Y0.2.2 s) = Y0.2.2 s from if_neg (Nat.not_lt_zero s)).symm, fun s _ => ⟨(show (if s < 0 then Y.1 s else Y0.1 s) = Y0.1 s from if_neg (Nat.not_lt_zero s)).symm, (show (if s < 0 then Y.2.1 s else Y0.2.1 s) = Y0.2.1 s from if_neg (Nat.not_lt_zero s)).symm⟩⟩
  obtain ⟨S', t1, t2, t3⟩ := takesM_L hI.1 hB0 hB hr (sN T) qF 0 S (by unfold sN; omega) (by unfold qF sN; omega) hI (mY_cong e hm) hg
  have t1' : M_takes_L7 qF (42 * (r : Int)) 0 S = _ := t1
  exact ⟨S', by rw [M_takes, t1']; rfl, t2, t3⟩
end PTA
