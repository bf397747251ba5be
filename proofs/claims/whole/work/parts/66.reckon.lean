/-! levels and depths for all hours and metres -/
section PWB
variable {T : Nat → Int}
theorem ixor_r {a b : Int} : qR (qb_ixor a b) := by
  have h1 := Int32.le_toInt (Int32.ofInt a ^^^ Int32.ofInt b)
  have h2 := Int32.toInt_lt (Int32.ofInt a ^^^ Int32.ofInt b)
  exact ⟨h1, by unfold qb_ixor; omega⟩
def fdL (x d : Int) : Int := if x.tdiv d * d ≤ x then x.tdiv d else x.tdiv d - 1
theorem fdL_s {x d : Int} (hd : 0 < d) : fdL x d * d ≤ x ∧ x < (fdL x d + 1) * d := by
  obtain ⟨h1, h2, -, -⟩ := fdiv_s (x := x) hd
  unfold fdL
  by_cases g : x.tdiv d * d ≤ x
  · rw [if_pos g]
    exact h1 g
  · rw [if_neg g]
    exact h2 g
theorem floorDiv_s {S : qSto} {x d : Int} (hd : 0 < d ∧ d ≤ 335) (hx : -33165 ≤ x ∧ x ≤ 33165) : Jm_floorDiv x d S = some (fdL x d, S) := by
  obtain ⟨-, -, h3, h4⟩ := fdiv_s (x := x) hd.1
  have ir := ixor_r (a := x) (b := d)
  have is := ixor_s (a := x) (b := d) ⟨by omega, by omega⟩ ⟨by omega, by omega⟩
  rw [Jm_floorDiv, qk_r (by omega) (by omega), qk_r (by omega) (by omega), qk_nz (by omega), qk_r ir.1 ir.2]
  unfold fdL
  by_cases g : 0 ≤ x
  · rw [if_pos (is.mpr (by omega)), if_pos (h3.mpr (Or.inl g))]
  · rw [if_neg (fun q => by have := is.mp q; omega), qk_r (by omega) (by omega), qk_r (by omega) (by omega)]
    by_cases w : x.tdiv d * d = x
    · rw [if_pos w, if_pos (h3.mpr (Or.inr w))]
    · rw [if_neg w, if_neg (fun q => by
        rcases h3.mp q with z | z
        · exact g z
        · exact w z)]
/-- between two levels -/
theorem lev_mid {h1 h2 u d : Int} (a1 : 0 ≤ h1 ∧ h1 ≤ 99) (a2 : 0 ≤ h2 ∧ h2 ≤ 99) (hu : 0 ≤ u) (hud : u < d) : 0 ≤ h1 + fdL ((h2 - h1) * u) d ∧ h1 + fdL ((h2 - h1) * u) d ≤ 99 := by
  obtain ⟨b1, b2⟩ := fdL_s (x := (h2 - h1) * u) (d := d) (by omega)
  generalize fdL ((h2 - h1) * u) d = q at b1 b2
  by_cases g : h1 ≤ h2
  · have c1 : 0 ≤ (h2 - h1) * u := Int.mul_nonneg (by omega) hu
    have c2 : (h2 - h1) * u ≤ (h2 - h1) * d := Int.mul_le_mul_of_nonneg_left (by omega) (by omega)
    have d1 : 0 < q + 1 := by
      by_cases w : 0 < q + 1
      · exact w
      · have := Int.mul_le_mul_of_nonneg_right (show q + 1 ≤ 0 by omega) (show 0 ≤ d by omega)
        rw [Int.zero_mul] at this
        omega
    have d2 : q ≤ h2 - h1 := by
      by_cases w : q ≤ h2 - h1
      · exact w
      · have := Int.mul_lt_mul_of_pos_right (show h2 - h1 < q by omega) (show 0 < d by omega)
        omega
    omega
  · have c1 : (h2 - h1) * u ≤ 0 := by
      have := Int.mul_le_mul_of_nonneg_right (show h2 - h1 ≤ 0 by omega) hu
      rw [Int.zero_mul] at this
      exact this
    have c2 : (h2 - h1) * d ≤ (h2 - h1) * u := Int.mul_le_mul_of_nonpos_left (by omega) (by omega)
    have d1 : q ≤ 0 := by
      by_cases w : q ≤ 0
      · exact w
      · have := Int.mul_lt_mul_of_pos_right (show 0 < q by omega) (show 0 < d by omega)
        rw [Int.zero_mul] at this
        omega
    have d2 : h2 - h1 < q + 1 := by
      by_cases w : h2 - h1 < q + 1
      · exact w
      · have := Int.mul_le_mul_of_nonneg_right (show q + 1 ≤ h2 - h1 by omega) (show 0 ≤ d by omega)
        omega
    omega
theorem prod_b {p u : Int} (hp : -99 ≤ p ∧ p ≤ 99) (hu : 0 ≤ u ∧ u ≤ 335) : -33165 ≤ p * u ∧ p * u ≤ 33165 := by
  have a := Int.mul_le_mul_of_nonneg_right hp.2 hu.1
  have b := Int.mul_le_mul_of_nonneg_right hp.1 hu.1
  omega
def cWat (S : qSto) (T : Nat → Int) : Prop := S 2 8 = T 8 ∧ ∀ k : Nat, (k : Int) < T 8 → S 20 k = T (43 + k) ∧ S 21 k = T (73 + k)
theorem level_s (hT : bT T) {t : Nat} (ht : t < 336) : ∃ v : Int, (0 ≤ v ∧ v ≤ 99) ∧ (∀ S, cWat S T → Waters_levelAt (t : Int) S = some (v, S)) ∧ ∀ S, (∀ k : Nat, S 72 k = T k) → M_levelBy (t : Int) S = some (v, S) := by
  have b8 : 0 ≤ T 8 ∧ T 8 ≤ 30 := hT.2.2.2.2.2.2.2.2.1
  have bt : ∀ k : Nat, (k : Int) < T 8 → (0 ≤ T (43 + k) ∧ T (43 + k) ≤ 335) ∧ (0 ≤ T (73 + k) ∧ T (73 + k) ≤ 99) := hT.2.2.2.2.2.2.2.2.2.2.2.2.1
  obtain ⟨c, hc⟩ : ∃ c : Nat, T 8 = c := ⟨(T 8).toNat, by omega⟩
  have hr : ∀ k : Nat, k < c → 0 ≤ T (43 + k) ∧ T (43 + k) ≤ 335 := fun k h => (bt k (by omega)).1
  have L1 : ∀ S, cWat S T → Waters_levelAt_L7 qF (t : Int) (-1) (-1) 0 S = some ((wL T t c).1, (wL T t c).2, S) := fun S h => cLev_L (by rw [h.1, hc]) (by omega) (fun k hk => (h.2 k (by omega)).1) hr ht c qF 0 (by omega) (by unfold qF; omega)
  have L2 : ∀ S, (∀ k : Nat, S 72 k = T k) → M_levelBy_L7 qF (t : Int) (-1) (-1) 0 S = some ((wL T t c).1, (wL T t c).2, S) := fun S h => mLev_L hc h (by omega) hr ht c qF 0 (by omega) (by unfold qF; omega)
  obtain ⟨b1, b2⟩ := wL_b (T := T) (t := t) c
  obtain ⟨p, hp⟩ : ∃ p, p = (wL T t c).1 := ⟨_, rfl⟩
  obtain ⟨q, hq⟩ : ∃ q, q = (wL T t c).2 := ⟨_, rfl⟩
  rw [← hp, ← hq] at L1 L2
  rw [← hp] at b1
  rw [← hq] at b2
  rcases b1 with g1 | ⟨x1, x2, x3⟩
  · rcases b2 with g2 | ⟨y1, y2, y3⟩
    · refine ⟨0, by omega, fun S h => ?_, fun S h => ?_⟩
      · rw [Waters_levelAt, L1 S h]
        simp only [ob_sn]
        rw [qk_r (by omega) (by omega), if_pos g1, qk_r (by omega) (by omega), if_pos g2]
      · rw [M_levelBy, L2 S h]
        simp only [ob_sn]
        rw [qk_r (by omega) (by omega), if_pos g1, qk_r (by omega) (by omega), if_pos g2]
    · have vb := bt q.toNat (by omega)
      have iy : ((73 : Int) + q).toNat = 73 + q.toNat := by omega
      refine ⟨T (73 + q.toNat), vb.2, fun S h => ?_, fun S h => ?_⟩
      · rw [Waters_levelAt, L1 S h]
        simp only [ob_sn]
        rw [qk_r (by omega) (by omega), if_pos g1, qk_r (by omega) (by omega), if_neg (by omega), qk_ix (by omega) (by omega), (h.2 q.toNat (by omega)).2]
      · rw [M_levelBy, L2 S h]
        simp only [ob_sn]
        rw [qk_r (by omega) (by omega), if_pos g1, qk_r (by omega) (by omega), if_neg (by omega), qk_ix (by omega) (by omega), iy, h]
  · have vp := bt p.toNat (by omega)
    have ip : ((73 : Int) + p).toNat = 73 + p.toNat := by omega
    have ip4 : ((43 : Int) + p).toNat = 43 + p.toNat := by omega
    rcases b2 with g2 | ⟨y1, y2, y3⟩
    · refine ⟨T (73 + p.toNat), vp.2, fun S h => ?_, fun S h => ?_⟩
      · rw [Waters_levelAt, L1 S h]
        simp only [ob_sn]
        rw [qk_r (by omega) (by omega), if_neg (by omega), qk_r (by omega) (by omega), if_pos g2, qk_ix (by omega) (by omega), (h.2 p.toNat (by omega)).2]
      · rw [M_levelBy, L2 S h]
        simp only [ob_sn]
        rw [qk_r (by omega) (by omega), if_neg (by omega), qk_ix (by omega) (by omega), qk_r (by omega) (by omega), if_pos g2, ip, h]
    · have vq := bt q.toNat (by omega)
      have iq : ((73 : Int) + q).toNat = 73 + q.toNat := by omega
      have iq4 : ((43 : Int) + q).toNat = 43 + q.toNat := by omega
      obtain ⟨d, hd⟩ : ∃ d, d = T (43 + q.toNat) - T (43 + p.toNat) := ⟨_, rfl⟩
      obtain ⟨x, hx⟩ : ∃ x, x = (T (73 + q.toNat) - T (73 + p.toNat)) * ((t : Int) - T (43 + p.toNat)) := ⟨_, rfl⟩
      have xb : -33165 ≤ x ∧ x ≤ 33165 := by rw [hx]; exact prod_b (by omega) (by omega)
      have db : 0 < d ∧ d ≤ 335 := by omega
      have mid := lev_mid (u := (t : Int) - T (43 + p.toNat)) (d := d) vp.2 vq.2 (by omega) (by omega)
      rw [← hx] at mid
      refine ⟨T (73 + p.toNat) + fdL x d, mid, fun S h => ?_, fun S h => ?_⟩
      · have s1 := h.2 p.toNat (by omega)
        have s2 := h.2 q.toNat (by omega)
        have mx : Jm_max 1 d S = some (d, S) := by
          rw [Jm_max, qk_r (by omega) (by omega), qk_r (by omega) (by omega)]
          by_cases w : 1 < d
          · rw [if_pos w]
          · rw [if_neg w, show d = 1 by omega]
        rw [Waters_levelAt, L1 S h]
        simp only [ob_sn]
        rw [qk_r (by omega) (by omega), if_neg (by omega), qk_r (by omega) (by omega), if_neg (by omega), Waters_between, qk_ix (by omega) (by omega), qk_ix (by omega) (by omega), s1.1, s2.1, ← hd, mx]
        simp only [ob_sn]
        rw [qk_ix (by omega) (by omega), qk_ix (by omega) (by omega), qk_ix (by omega) (by omega), qk_ix (by omega) (by omega), s1.1, s1.2, s2.2, ← hx, floorDiv_s db xb]
        rfl
      · obtain ⟨-, -, -, h4⟩ := fdiv_s (x := x) db.1
        rw [M_levelBy, L2 S h]
        simp only [ob_sn]
        rw [qk_r (by omega) (by omega), if_neg (by omega), qk_ix (by omega) (by omega), qk_r (by omega) (by omega), if_neg (by omega), qk_ix (by omega) (by omega), qk_ix (by omega) (by omega), qk_ix (by omega) (by omega), qk_ix (by omega) (by omega), ip, ip4, iq, iq4]
        simp only [h]
        rw [← hd, ← hx, qk_r (by omega) (by omega), qk_r (by omega) (by omega), qk_nz (by omega), qk_r (by omega) (by omega), qk_r (by omega) (by omega)]
        unfold fdL
        by_cases w : x.tdiv d * d ≤ x
        · rw [if_pos w, if_pos w]
        · rw [if_neg w, if_neg w]
theorem levels (hT : bT T) : ∃ lev : Nat → Int, ∀ t : Nat, t < 336 → (0 ≤ lev t ∧ lev t ≤ 99) ∧ (∀ S, cWat S T → Waters_levelAt (t : Int) S = some (lev t, S)) ∧ ∀ S, (∀ k : Nat, S 72 k = T k) → M_levelBy (t : Int) S = some (lev t, S) := by
  refine ⟨fun t => if h : t < 336 then Classical.choose (level_s hT h) else 0, fun t ht => ?_⟩
  have z := Classical.choose_spec (level_s hT ht)
  simp only [dif_pos ht]
  exact z
theorem waters_L {lev : Nat → Int} (hl : ∀ t : Nat, t < 336 → ∀ S, cWat S T → Waters_levelAt (t : Int) S = some (lev t, S)) : ∀ (r f i : Nat) (S : qSto), i + r = 336 → r < f → cWat S T → ∃ S', Waters_reckon_L2 f (i : Int) S = some S' ∧ (∀ c, c ≠ 36 → S' c = S c) ∧ ∀ u, S' 36 u = if i ≤ u ∧ u < 336 then lev u else S 36 u
  | 0, f + 1, i, S, e, _, _ => by
    rw [Waters_reckon_L2, qk_r (by omega) (by omega), if_pos (by omega)]
    exact ⟨S, rfl, fun _ _ => rfl, fun u => by rw [if_neg (by omega)]⟩
  | r + 1, f + 1, i, S, e, hf, h => by
    rw [Waters_reckon_L2, qk_r (by omega) (by omega), if_neg (by omega), hl i (by omega) S h]
    simp only [ob_sn]
    rw [qk_ix (by omega) (by omega), Int.toNat_natCast]
    obtain ⟨S', t1, t2, t3⟩ := waters_L hl r f (i + 1) (qup S 36 i (lev i)) (by omega) (by omega) (by unfold cWat; rw [qup_off (by omega), qup_off (by omega), qup_off (by omega)]; exact h)
    refine ⟨S', t1, fun c hc => (t2 c hc).trans (qup_off hc), fun u => ?_⟩
    rw [t3, qup_on]
    by_cases g : u = i
    · rw [if_neg (by omega), if_pos g, if_pos (by omega), g]
    · by_cases w : i + 1 ≤ u ∧ u < 336
      · rw [if_pos w, if_pos (by omega)]
      · rw [if_neg w, if_neg g, if_neg (by omega)]
theorem waters_s {lev : Nat → Int} (hl : ∀ t : Nat, t < 336 → ∀ S, cWat S T → Waters_levelAt (t : Int) S = some (lev t, S)) {S : qSto} (h : cWat S T) : ∃ S', Waters_reckon S = some S' ∧ (∀ c, c ≠ 36 → S' c = S c) ∧ ∀ u, u < 336 → S' 36 u = lev u := by
  obtain ⟨S', t1, t2, t3⟩ := waters_L hl 336 qF 0 S (by omega) (by unfold qF; omega) h
  have t1' : Waters_reckon_L2 qF 0 S = some S' := t1
  refine ⟨S', ?_, t2, fun u hu => by rw [t3, if_pos (by omega)]⟩
  rw [Waters_reckon, t1']
  rfl
/-! the reference's tables -/
theorem st2_L : ∀ (r f i : Nat) (S : qSto), i + r = 250 → r < f → ∃ S', M_stands_L2 f (i : Int) S = some S' ∧ (∀ c, c ≠ 72 → S' c = S c) ∧ ∀ u, S' 72 u = if i ≤ u ∧ u < 250 then S 71 u else S 72 u
  | 0, f + 1, i, S, e, _ => by
    rw [M_stands_L2, qk_r (by omega) (by omega), if_pos (by omega)]
    exact ⟨S, rfl, fun _ _ => rfl, fun u => by rw [if_neg (by omega)]⟩
  | r + 1, f + 1, i, S, e, hf => by
    rw [M_stands_L2, qk_r (by omega) (by omega), if_neg (by omega), qk_ix (by omega) (by omega), qk_ix (by omega) (by omega), Int.toNat_natCast]
    obtain ⟨S', t1, t2, t3⟩ := st2_L r f (i + 1) (qup S 72 i (S 71 i)) (by omega) (by omega)
    refine ⟨S', t1, fun c hc => (t2 c hc).trans (qup_off hc), fun u => ?_⟩
    rw [t3, qup_on, qup_off (by omega)]
    by_cases g : u = i
    · rw [if_neg (by omega), if_pos g, if_pos (by omega), g]
    · by_cases w : i + 1 ≤ u ∧ u < 250
      · rw [if_pos w, if_pos (by omega)]
      · rw [if_neg w, if_neg g, if_neg (by omega)]
theorem st29_L : ∀ (r f i : Nat) (S : qSto), i + r = 14 → r < f → ∃ S', M_stands_L29 f (i : Int) S = some S' ∧ (∀ c, c ≠ 74 → S' c = S c) ∧ ∀ u, S' 74 u = if i ≤ u ∧ u < 14 then S 73 u else S 74 u
  | 0, f + 1, i, S, e, _ => by
    rw [M_stands_L29, qk_r (by omega) (by omega), if_pos (by omega)]
    exact ⟨S, rfl, fun _ _ => rfl, fun u => by rw [if_neg (by omega)]⟩
  | r + 1, f + 1, i, S, e, hf => by
    rw [M_stands_L29, qk_r (by omega) (by omega), if_neg (by omega), qk_ix (by omega) (by omega), qk_ix (by omega) (by omega), Int.toNat_natCast]
    obtain ⟨S', t1, t2, t3⟩ := st29_L r f (i + 1) (qup S 74 i (S 73 i)) (by omega) (by omega)
    refine ⟨S', t1, fun c hc => (t2 c hc).trans (qup_off hc), fun u => ?_⟩
    rw [t3, qup_on, qup_off (by omega)]
    by_cases g : u = i
    · rw [if_neg (by omega), if_pos g, if_pos (by omega), g]
    · by_cases w : i + 1 ≤ u ∧ u < 14
      · rw [if_pos w, if_pos (by omega)]
      · rw [if_neg w, if_neg g, if_neg (by omega)]
theorem dep_L {S : qSto} (h72 : ∀ k : Nat, S 72 k = T k) {c : Nat} (h6 : T 6 = c) (hc : c ≤ 8) (hr : ∀ k : Nat, k < c → (0 ≤ T (11 + k) ∧ T (11 + k) ≤ 999) ∧ (0 ≤ T (19 + k) ∧ T (19 + k) ≤ 300)) {m : Nat} (hm : m < 1000) : ∀ (r f i : Nat), i + r = c → r < f → -1 ≤ (sDep T m i).1 ∧ (sDep T m i).1 ≤ 999 → M_depthBy_L8 f (m : Int) (sDep T m i).1 (sDep T m i).2 (i : Int) S = some ((sDep T m c).2, S)
  | 0, f + 1, i, e, _, _ => by
    have ei : i = c := by omega
    rw [M_depthBy_L8, h72, h6, qk_r (by omega) (by omega), qk_r (by omega) (by omega), if_pos (by omega), ei]
  | r + 1, f + 1, i, e, hf, hb => by
    have ri := hr i (by omega)
    have ix : ((11 : Int) + (i : Int)).toNat = 11 + i := by omega
    have iy : ((19 : Int) + (i : Int)).toNat = 19 + i := by omega
    have es : sDep T m (i + 1) = if T (11 + i) ≤ (m : Int) ∧ (sDep T m i).1 < T (11 + i) then (T (11 + i), T (19 + i)) else sDep T m i := rfl
    rw [M_depthBy_L8, h72 6, h6, qk_r (by omega) (by omega), qk_r (by omega) (by omega), if_neg (by omega), qk_ix (by omega) (by omega), ix, h72 (11 + i), qk_r (by omega) (by omega), qk_r (by omega) (by omega)]
    by_cases g1 : (m : Int) < T (11 + i)
    · rw [if_neg (by omega)] at es
      have ih := dep_L h72 h6 hc hr hm r f (i + 1) (by omega) (by omega) (by rw [es]; exact hb)
      rw [es] at ih
      rw [if_pos g1]
      simp only [ob_sn]
      exact ih
    · rw [if_neg g1, qk_r (by omega) (by omega), qk_r (by omega) (by omega)]
      by_cases g2 : (sDep T m i).1 < T (11 + i)
      · rw [if_pos (by omega)] at es
        have ih := dep_L h72 h6 hc hr hm r f (i + 1) (by omega) (by omega) (by rw [es]; exact ⟨by show -1 ≤ T (11 + i); omega, by show T (11 + i) ≤ 999; omega⟩)
        rw [es] at ih
        rw [if_pos g2, qk_ix (by omega) (by omega), iy, h72]
        simp only [ob_sn]
        exact ih
      · rw [if_neg (by omega)] at es
        have ih := dep_L h72 h6 hc hr hm r f (i + 1) (by omega) (by omega) (by rw [es]; exact hb)
        rw [es] at ih
        rw [if_neg g2]
        simp only [ob_sn]
        exact ih
theorem depthBy_s (hT : bT T) {S : qSto} (h72 : ∀ k : Nat, S 72 k = T k) {m : Nat} (hm : m < 1000) : M_depthBy (m : Int) S = some (sDepth T m, S) := by
  have b6 : 0 ≤ T 6 ∧ T 6 ≤ 8 := hT.2.2.2.2.2.2.1
  have bs := hT.2.2.2.2.2.2.2.2.2.2.1
  obtain ⟨c, hc⟩ : ∃ c : Nat, T 6 = c := ⟨(T 6).toNat, by omega⟩
  have z := dep_L h72 hc (by omega) (fun k hk => ⟨(bs k (by omega)).1, (bs k (by omega)).2.1⟩) hm c qF 0 (by omega) (by unfold qF; omega) ⟨by show (-1 : Int) ≤ -1; omega, by show (-1 : Int) ≤ 999; omega⟩
  have z' : M_depthBy_L8 qF (m : Int) (-1) 100 0 S = some ((sDep T m c).2, S) := z
  rw [M_depthBy, z']
  unfold sDepth
  rw [hc, Int.toNat_natCast]
  rfl
theorem st55_L (hT : bT T) : ∀ (r f i : Nat) (S : qSto), i + r = 1000 → r < f → (∀ k : Nat, S 72 k = T k) → ∃ S', M_stands_L55 f (i : Int) S = some S' ∧ (∀ c, c ≠ 76 → S' c = S c) ∧ ∀ u, S' 76 u = if i ≤ u ∧ u < 1000 then sDepth T u else S 76 u
  | 0, f + 1, i, S, e, _, _ => by
    rw [M_stands_L55, qk_r (by omega) (by omega), if_pos (by omega)]
    exact ⟨S, rfl, fun _ _ => rfl, fun u => by rw [if_neg (by omega)]⟩
  | r + 1, f + 1, i, S, e, hf, h => by
    rw [M_stands_L55, qk_r (by omega) (by omega), if_neg (by omega), depthBy_s hT h (by omega)]
    simp only [ob_sn]
    rw [qk_ix (by omega) (by omega), Int.toNat_natCast]
    obtain ⟨S', t1, t2, t3⟩ := st55_L hT r f (i + 1) (qup S 76 i (sDepth T i)) (by omega) (by omega) (by rw [qup_off (by omega)]; exact h)
    refine ⟨S', t1, fun c hc => (t2 c hc).trans (qup_off hc), fun u => ?_⟩
    rw [t3, qup_on]
    by_cases g : u = i
    · rw [if_neg (by omega), if_pos g, if_pos (by omega), g]
    · by_cases w : i + 1 ≤ u ∧ u < 1000
      · rw [if_pos w, if_pos (by omega)]
      · rw [if_neg w, if_neg g, if_neg (by omega)]
theorem st81_L {lev : Nat → Int} (hl : ∀ t : Nat, t < 336 → ∀ S, (∀ k : Nat, S 72 k = T k) → M_levelBy (t : Int) S = some (lev t, S)) : ∀ (r f i : Nat) (S : qSto), i + r = 336 → r < f → (∀ k : Nat, S 72 k = T k) → ∃ S', M_stands_L81 f (i : Int) S = some S' ∧ (∀ c, c ≠ 77 → S' c = S c) ∧ ∀ u, S' 77 u = if i ≤ u ∧ u < 336 then lev u else S 77 u
  | 0, f + 1, i, S, e, _, _ => by
    rw [M_stands_L81, qk_r (by omega) (by omega), if_pos (by omega)]
    exact ⟨S, rfl, fun _ _ => rfl, fun u => by rw [if_neg (by omega)]⟩
  | r + 1, f + 1, i, S, e, hf, h => by
    rw [M_stands_L81, qk_r (by omega) (by omega), if_neg (by omega), hl i (by omega) S h]
    simp only [ob_sn]
    rw [qk_ix (by omega) (by omega), Int.toNat_natCast]
    obtain ⟨S', t1, t2, t3⟩ := st81_L hl r f (i + 1) (qup S 77 i (lev i)) (by omega) (by omega) (by rw [qup_off (by omega)]; exact h)
    refine ⟨S', t1, fun c hc => (t2 c hc).trans (qup_off hc), fun u => ?_⟩
    rw [t3, qup_on]
    by_cases g : u = i
    · rw [if_neg (by omega), if_pos g, if_pos (by omega), g]
    · by_cases w : i + 1 ≤ u ∧ u < 336
      · rw [if_pos w, if_pos (by omega)]
      · rw [if_neg w, if_neg g, if_neg (by omega)]
theorem st107_L : ∀ (r f i : Nat) (S : qSto), i + r = 14 → r < f → ∃ S', M_stands_L107 f (i : Int) S = some S' ∧ (∀ c, c ≠ 80 → S' c = S c) ∧ ∀ u, S' 80 u = if i ≤ u ∧ u < 14 then 0 else S 80 u
  | 0, f + 1, i, S, e, _ => by
    rw [M_stands_L107, qk_r (by omega) (by omega), if_pos (by omega)]
    exact ⟨S, rfl, fun _ _ => rfl, fun u => by rw [if_neg (by omega)]⟩
  | r + 1, f + 1, i, S, e, hf => by
    rw [M_stands_L107, qk_r (by omega) (by omega), if_neg (by omega), qk_ix (by omega) (by omega), Int.toNat_natCast]
    obtain ⟨S', t1, t2, t3⟩ := st107_L r f (i + 1) (qup S 80 i 0) (by omega) (by omega)
    refine ⟨S', t1, fun c hc => (t2 c hc).trans (qup_off hc), fun u => ?_⟩
    rw [t3, qup_on]
    by_cases g : u = i
    · rw [if_neg (by omega), if_pos g, if_pos (by omega)]
    · by_cases w : i + 1 ≤ u ∧ u < 14
      · rw [if_pos w, if_pos (by omega)]
      · rw [if_neg w, if_neg g, if_neg (by omega)]
theorem st133_L : ∀ (r f i : Nat) (S : qSto), i + r = 4 → r < f → ∃ S', M_stands_L133 f (i : Int) S = some S' ∧ (∀ c, c ≠ 86 → S' c = S c) ∧ ∀ u, S' 86 u = if i ≤ u ∧ u < 4 then 0 else S 86 u
  | 0, f + 1, i, S, e, _ => by
    rw [M_stands_L133, qk_r (by omega) (by omega), if_pos (by omega)]
    exact ⟨S, rfl, fun _ _ => rfl, fun u => by rw [if_neg (by omega)]⟩
  | r + 1, f + 1, i, S, e, hf => by
    rw [M_stands_L133, qk_r (by omega) (by omega), if_neg (by omega), qk_ix (by omega) (by omega), Int.toNat_natCast]
    obtain ⟨S', t1, t2, t3⟩ := st133_L r f (i + 1) (qup S 86 i 0) (by omega) (by omega)
    refine ⟨S', t1, fun c hc => (t2 c hc).trans (qup_off hc), fun u => ?_⟩
    rw [t3, qup_on]
    by_cases g : u = i
    · rw [if_neg (by omega), if_pos g, if_pos (by omega)]
    · by_cases w : i + 1 ≤ u ∧ u < 4
      · rw [if_pos w, if_pos (by omega)]
      · rw [if_neg w, if_neg g, if_neg (by omega)]
theorem stands_s {lev : Nat → Int} {S : qSto} (hT : bT T) (hd : ∀ k : Nat, T k = if k < 250 then S 71 k else S 72 k) (hl : ∀ t : Nat, t < 336 → ∀ S, (∀ k : Nat, S 72 k = T k) → M_levelBy (t : Int) S = some (lev t, S)) : ∃ S', M_stands S = some S' ∧ (∀ k : Nat, S' 72 k = T k) ∧ (∀ s, s < 14 → S' 74 s = S 73 s) ∧ (∀ m : Nat, m < 1000 → S' 76 m = sDepth T m) ∧ (∀ t, t < 336 → S' 77 t = lev t) ∧ (∀ s, s < 14 → S' 80 s = 0) ∧ (∀ q, q < 4 → S' 86 q = 0) ∧ S' 70 31 = 0 ∧ (∀ u, u ≠ 31 → S' 70 u = S 70 u) ∧ ∀ c, ¬ (c = 70 ∨ c = 72 ∨ c = 74 ∨ c = 76 ∨ c = 77 ∨ c = 80 ∨ c = 86) → S' c = S c := by
  obtain ⟨S1, a1, a2, a3⟩ := st2_L 250 qF 0 S (by omega) (by unfold qF; omega)
  have h1 : ∀ k : Nat, S1 72 k = T k := fun k => by
    rw [a3, hd]
    by_cases w : k < 250
    · rw [if_pos (by omega), if_pos w]
    · rw [if_neg (by omega), if_neg w]
  obtain ⟨S2, b1, b2, b3⟩ := st29_L 14 qF 0 S1 (by omega) (by unfold qF; omega)
  have h2 : ∀ k : Nat, S2 72 k = T k := fun k => by rw [b2 72 (by omega)]; exact h1 k
  obtain ⟨S3, c1, c2, c3⟩ := st55_L hT 1000 qF 0 S2 (by omega) (by unfold qF; omega) h2
  have h3 : ∀ k : Nat, S3 72 k = T k := fun k => by rw [c2 72 (by omega)]; exact h2 k
  obtain ⟨S4, d1, d2, d3⟩ := st81_L hl 336 qF 0 S3 (by omega) (by unfold qF; omega) h3
  obtain ⟨S5, e1, e2, e3⟩ := st107_L 14 qF 0 S4 (by omega) (by unfold qF; omega)
  obtain ⟨S6, f1, f2, f3⟩ := st133_L 4 qF 0 (qup S5 70 31 0) (by omega) (by unfold qF; omega)
  have a1' : M_stands_L2 qF 0 S = some S1 := a1
  have b1' : M_stands_L29 qF 0 S1 = some S2 := b1
  have c1' : M_stands_L55 qF 0 S2 = some S3 := c1
  have d1' : M_stands_L81 qF 0 S3 = some S4 := d1
  have e1' : M_stands_L107 qF 0 S4 = some S5 := e1
  have f1' : M_stands_L133 qF 0 (qup S5 70 31 0) = some S6 := f1
  refine ⟨S6, ?_, fun k => ?_, fun s hs => ?_, fun m hm => ?_, fun t ht => ?_, fun s hs => ?_, fun q hq => ?_, ?_, fun u hu => ?_, fun c hc => ?_⟩
  · rw [M_stands, a1']
    simp only [ob_sn]
    rw [b1']
    simp only [ob_sn]
    rw [c1']
    simp only [ob_sn]
    rw [d1']
    simp only [ob_sn]
    rw [e1']
    simp only [ob_sn]
    rw [f1']
    rfl
  · rw [f2 72 (by omega), qup_off (by omega), e2 72 (by omega), d2 72 (by omega)]
    exact h3 k
  · rw [f2 74 (by omega), qup_off (by omega), e2 74 (by omega), d2 74 (by omega), c2 74 (by omega), b3, if_pos (by omega), a2 73 (by omega)]
  · rw [f2 76 (by omega), qup_off (by omega), e2 76 (by omega), d2 76 (by omega), c3, if_pos (by omega)]
  · rw [f2 77 (by omega), qup_off (by omega), e2 77 (by omega), d3, if_pos (by omega)]
  · rw [f2 80 (by omega), qup_off (by omega), e3, if_pos (by omega)]
  · rw [f3, if_pos (by omega)]
  · rw [f2 70 (by omega), qup_on, if_pos rfl]
  · rw [f2 70 (by omega), qup_on, if_neg hu, e2 70 (by omega), d2 70 (by omega), c2 70 (by omega), b2 70 (by omega), a2 70 (by omega)]
  · rw [f2 c (by omega), qup_off (by omega), e2 c (by omega), d2 c (by omega), c2 c (by omega), b2 c (by omega), a2 c (by omega)]
end PWB
