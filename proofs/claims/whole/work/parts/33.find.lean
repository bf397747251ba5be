/-! the class looks for the earliest place -/
def isN (T lev : Nat → Int) (Y : qY) (s : Nat) (k : Int) : Prop := ∀ t x : Int, x % 10 = 0 → sLaw T lev Y s x t k ≠ 0
def isS (T lev : Nat → Int) (Y : qY) (s : Nat) (k t x : Int) : Prop := x % 10 = 0 ∧ sLaw T lev Y s x t k = 0 ∧ ∀ t' x' : Int, x' % 10 = 0 → sLaw T lev Y s x' t' k = 0 → t < t' ∨ (t = t' ∧ x ≤ x')
theorem isS_N {T lev : Nat → Int} {Y : qY} {s : Nat} {k t x : Int} (h : isS T lev Y s k t x) (n : isN T lev Y s k) : False := n t x h.1 h.2.1
theorem isS_u {T lev : Nat → Int} {Y : qY} {s : Nat} {k t x t' x' : Int} (h : isS T lev Y s k t x) (h' : isS T lev Y s k t' x') : t = t' ∧ x = x' := by
  have a := h.2.2 t' x' h'.1 h'.2.1
  have b := h'.2.2 t x h.1 h.2.1
  omega
/-- how many cranes reach -/
def sRc (T : Nat → Int) (x : Int) (s : Nat) (n : Nat) : Int := sm (fun c => if sReach T x s c then 1 else 0) n
theorem sRc_mono {T : Nat → Int} {x : Int} {s : Nat} {m : Nat} : ∀ n : Nat, sRc T x s m ≤ sRc T x s (m + n)
  | 0 => Int.le_refl _
  | n + 1 => by
    have ih := sRc_mono (T := T) (x := x) (s := s) (m := m) n
    have e : sRc T x s (m + (n + 1)) = sRc T x s (m + n) + (if sReach T x s (m + n) then 1 else 0) := rfl
    rw [e]
    have : (0 : Int) ≤ if sReach T x s (m + n) then 1 else 0 := by split <;> omega
    omega
theorem dOne_cnt {T : Nat → Int} {m x : Int} {s : Nat} : ∀ (j c : Nat) (w : Int), 0 ≤ w → w - (sRc T x s (c + j) - sRc T x s c) ≤ (dOne T m x s j c w).2
  | 0, c, w, _ => by
    rw [dOne, Nat.add_zero]
    show _ ≤ w
    omega
  | j + 1, c, w, h => by
    have e : sRc T x s (c + 1) = sRc T x s c + (if sReach T x s c then 1 else 0) := rfl
    have mo := sRc_mono (T := T) (x := x) (s := s) (m := c) (j + 1)
    by_cases g : w ≤ 0
    · rw [dOne_0 g]
      show _ ≤ w
      omega
    · by_cases q : (c : Int) ≠ m ∧ sReach T x s c
      · rw [dOne_y g q]
        have ih := dOne_cnt (T := T) (m := m) (x := x) (s := s) j (c + 1) (w - 1) (by omega)
        rw [if_pos q.2] at e
        rw [show c + 1 + j = c + (j + 1) by omega] at ih
        omega
      · rw [dOne_n g q]
        have ih := dOne_cnt (T := T) (m := m) (x := x) (s := s) j (c + 1) w h
        have : (0 : Int) ≤ if sReach T x s c then 1 else 0 := by split <;> omega
        rw [show c + 1 + j = c + (j + 1) by omega] at ih
        omega
theorem sRc_0 {T : Nat → Int} {x : Int} {s : Nat} (n : Nat) : 0 ≤ sRc T x s n := by
  have := sRc_mono (T := T) (x := x) (s := s) (m := 0) n
  rw [Nat.zero_add] at this
  exact this
theorem dGo_fail {T : Nat → Int} {m : Int} {Y : qY} (hk : ∀ s, 0 ≤ Y.2.2 s) {s : Nat} (hf : sRc T (Y.1 s) s (sC T) < Y.2.2 s) : ∀ (l : List Nat) (c : Nat), c ≤ sC T → s ∈ l → dGo T m Y l c = none
  | [], _, _, h => absurd h List.not_mem_nil
  | a :: l, c, hc, h => by
    rw [dGo]
    by_cases g : 0 < (dOne T m (Y.1 a) a (sC T - c) c (Y.2.2 a)).2
    · rw [if_pos g]
    · rw [if_neg g]
      have r := dOne_rng (T := T) (m := m) (x := Y.1 a) (s := a) (sC T - c) c (Y.2.2 a) (hk a)
      rcases List.mem_cons.mp h with q | q
      · subst q
        exfalso
        have z := dOne_cnt (T := T) (m := m) (x := Y.1 s) (s := s) (sC T - c) c (Y.2.2 s) (hk s)
        rw [show c + (sC T - c) = sC T by omega] at z
        have z0 := sRc_0 (T := T) (x := Y.1 s) (s := s) c
        omega
      · exact dGo_fail hk hf l _ (by omega) q
section PFD
variable {T lev : Nat → Int} {Y : qY}
/-- too few cranes reach: a law is broken -/
theorem few_9 (hT : bT T) (hb : bY T lev Y) {s : Nat} (hs : (s : Int) < T 9) {x t k : Int} (hok : okS T lev s x t k) (h : sRc T x s (sC T) < k) : L9 T Y s x t k := by
  have b := okS_b hT hs hok
  have b9 := bT_n hT
  have hbp : bY T lev (yP Y s x t k) := bY_put hT hb hs (Or.inr hok)
  have ft : ((t.toNat : Nat) : Int) = t := by omega
  have y1 : (yP Y s x t k).1 s = x := if_pos rfl
  have y2 : (yP Y s x t k).2.1 s = t := if_pos rfl
  have y3 : (yP Y s x t k).2.2 s = k := if_pos rfl
  refine ⟨t.toNat, by omega, ?_⟩
  rw [sDeal_go, sRow_wk]
  rw [dGo_fail (s := s) (fun s => (hbp.1 s).1) (by rw [y1, y3]; exact h) _ 0 (by omega) ((oL_mem _ _).mpr ⟨by unfold sN; omega, ?_⟩)]
  · simp
  · show 0 < (yP Y s x t k).2.2 s ∧ (yP Y s x t k).2.1 s ≤ (t.toNat : Int) ∧ ((t.toNat : Nat) : Int) < (yP Y s x t k).2.1 s + sWork T s ((yP Y s x t k).2.2 s)
    rw [y2, y3]
    omega
theorem few_law (hT : bT T) (hb : bY T lev Y) {s : Nat} (hs : (s : Int) < T 9) {x t k : Int} (h : sRc T x s (sC T) < k) : sLaw T lev Y s x t k ≠ 0 := fun q => by
  have z := sLaw_ok q
  exact z.2.2.2.2.2 (few_9 hT hb hs z.1 h)
theorem reaching_L {S : qSto} (hI : iT S T lev) {s : Nat} {x z : Int} (hx : qR x) (hz : qR z) (ez : z = x + sCon T s 0 - 1) : ∀ (j n i : Nat), i + j = sC T → j < n → Dealer_reaching_L5 n x z (sRc T x s i) (i : Int) S = some (sRc T x s (sC T), S)
  | 0, n + 1, i, e, _ => by
    have b7 := hI.1.2.2.2.2.2.2.2.1
    have e7 := hI.2.1.2.2.1
    have ei : T 7 ≤ (i : Int) := by unfold sC at e; omega
    have i8 : (i : Int) ≤ 8 := by unfold sC at e; omega
    rw [Dealer_reaching_L5]
    simp (disch := omega) only [qk_r, e7, if_pos ei]
    rw [show i = sC T by omega]
  | j + 1, n + 1, i, e, hn => by
    have b7 := hI.1.2.2.2.2.2.2.2.1
    have e7 := hI.2.1.2.2.1
    have ei : (i : Int) < T 7 := by unfold sC at e; omega
    have f1 : (((i + 1 : Nat)) : Int) = (i : Int) + 1 := by omega
    have ih := reaching_L hI hx hz ez j n (i + 1) (by omega) (by omega)
    have es : sRc T x s (i + 1) = sRc T x s i + (if sReach T x s i then 1 else 0) := rfl
    rw [f1, es] at ih
    rw [Dealer_reaching_L5]
    simp (disch := omega) only [qk_r, e7, if_neg (show ¬ T 7 ≤ (i : Int) by omega), Dealer_reaches_s hI ei hx hz ez, ob_some, ite01_r, ite01_e]
    by_cases g : sReach T x s i
    · rw [if_pos g] at ih ⊢
      exact ih
    · rw [if_neg g] at ih ⊢
      exact ih
theorem reaching_s {S : qSto} (hI : iT S T lev) {s : Nat} {x z : Int} (hx : qR x) (hz : qR z) (ez : z = x + sCon T s 0 - 1) : Dealer_reaching x z S = some (sRc T x s (sC T), S) := by
  have b7 := hI.1.2.2.2.2.2.2.2.1
  have e := reaching_L hI (s := s) hx hz ez (sC T) qF 0 (by omega) (by unfold qF sC; omega)
  have e' : Dealer_reaching_L5 qF x z 0 0 S = _ := e
  rw [Dealer_reaching, e']
  rfl
theorem sRc_b (hT : bT T) {x : Int} {s : Nat} : 0 ≤ sRc T x s (sC T) ∧ sRc T x s (sC T) ≤ 8 := by
  have b7 := hT.2.2.2.2.2.2.2.1
  have := sm_bnd (f := fun c => if sReach T x s c then 1 else 0) (c := 1) (n := sC T) (fun c _ => by
    skip
    split <;> omega)
  unfold sRc
  have e : ((sC T : Nat) : Int) ≤ 8 := by unfold sC; omega
  omega
/-- a place is worth a look -/
def sRd (T : Nat → Int) (s : Nat) (k : Int) (p : Nat) : Prop := ¬ (T 0 < 10 * (p : Int) + sCon T s 0) ∧ k ≤ sRc T (10 * p) s (sC T)
noncomputable def sBed (T : Nat → Int) (s : Nat) (k : Int) (p : Nat) : Int := cI (sRd T s k p) (sLeast T (10 * p) (10 * p + (sCon T s 0).toNat - 1)) (-1)
theorem survey_L {s : Nat} (hs : (s : Int) < T 9) {k : Int} (hk : qR k) : ∀ (j n i : Nat) (h : Int) (S : qSto), i + j = 100 → j < n → (h = 0 ∨ h = 1) → (h = 0 → ∀ p, p < i → ¬ sRd T s k p) → iT S T lev → (∀ p, p < i → S 46 p = sBed T s k p) → ∃ r S', Search_survey_L16 n (s : Int) k (sCon T s 0) h (i : Int) S = some (r, S') ∧ fO 46 S S' ∧ (r = 0 ∨ r = 1) ∧ (r = 0 → ∀ p, p < 100 → ¬ sRd T s k p) ∧ ∀ p, p < 100 → S' 46 p = sBed T s k p
  | 0, n + 1, i, h, S, e, _, hh, h0, hI, hg => by
    have : i = 100 := by omega
    subst this
    rw [Search_survey_L16]
    exact ⟨h, S, rfl, fun c _ => rfl, hh, h0, hg⟩
  | j + 1, n + 1, i, h, S, e, hn, hh, h0, hI, hg => by
    have b0 := hI.1.1
    have cn := bT_con hI.1 hs
    obtain ⟨k1, k2⟩ := id hk
    have f1 : (((i + 1 : Nat)) : Int) = (i : Int) + 1 := by omega
    have f10 : (i : Int) * 10 = 10 * (i : Int) := by omega
    have rc := sRc_b (T := T) hI.1 (x := 10 * (i : Int)) (s := s)
    rw [Search_survey_L16]
    simp (disch := omega) only [qk_r, qk_ix, if_neg (show ¬ (100 : Int) ≤ (i : Int) by omega), f10, Laws_fits_s hI hs (x := 10 * (i : Int)) ⟨by omega, by omega⟩, ob_some, ite01_m, ite01_n, Int.toNat_natCast]
    have fin : ¬ sRd T s k i → ∃ r S', Search_survey_L16 n (s : Int) k (sCon T s 0) h ((i : Int) + 1) (qup S 46 i (-1)) = some (r, S') ∧ fO 46 S S' ∧ (r = 0 ∨ r = 1) ∧ (r = 0 → ∀ p, p < 100 → ¬ sRd T s k p) ∧ ∀ p, p < 100 → S' 46 p = sBed T s k p := fun hr => by
      obtain ⟨r, S', t1, t2, t3, t4, t5⟩ := survey_L hs hk j n (i + 1) h (qup S 46 i (-1)) (by omega) (by omega) hh (fun q p hp => by
        rcases Nat.lt_or_ge p i with w | w
        · exact h0 q p w
        · have : p = i := by omega
          rw [this]
          exact hr) (iT_off hI (fun c hc => qup_off (by omega))) (fun p hp => by
        rw [qup_on]
        rcases Nat.lt_or_ge p i with w | w
        · rw [if_neg (by omega)]
          exact hg p w
        · have : p = i := by omega
          rw [if_pos this, this]
          unfold sBed
          rw [cI_f hr])
      rw [f1] at t1
      exact ⟨r, S', t1, fun c hc => (t2 c hc).trans (qup_off hc), t3, t4, t5⟩
    by_cases g : 10 * (i : Int) < 0 ∨ T 0 < 10 * (i : Int) + sCon T s 0
    · have hr : ¬ sRd T s k i := fun q => q.1 (by omega)
      obtain ⟨r, S', t1, t2⟩ := fin hr
      refine ⟨r, S', ?_, t2⟩
      rw [if_pos g]
      simp (disch := omega) only [ob_some, qk_r, reduceIte]
      rcases hh with q | q
      · subst q
        simp (disch := omega) only [ob_some, qk_r, reduceIte]
        exact t1
      · subst q
        rw [if_neg (show ¬ (1 : Int) = 0 by omega)]
        exact t1
    · rw [if_neg g, reaching_s hI (s := s) (x := 10 * (i : Int)) (z := 10 * (i : Int) + sCon T s 0 - 1) ⟨by omega, by omega⟩ ⟨by omega, by omega⟩ rfl]
      simp only [ob_some]
      rw [qk_r (by omega) (by omega)]
      by_cases g2 : sRc T (10 * (i : Int)) s (sC T) < k
      · have hr : ¬ sRd T s k i := fun q => by have := q.2; omega
        obtain ⟨r, S', t1, t2⟩ := fin hr
        refine ⟨r, S', ?_, t2⟩
        rw [if_pos g2]
        simp (disch := omega) only [ob_some, qk_r, reduceIte]
        rcases hh with q | q
        · subst q
          simp (disch := omega) only [ob_some, qk_r, reduceIte]
          exact t1
        · subst q
          rw [if_neg (show ¬ (1 : Int) = 0 by omega)]
          exact t1
      · have hr : sRd T s k i := ⟨by omega, by omega⟩
        have es := Told_shallowest_s hI (a := 10 * i) (b := 10 * i + (sCon T s 0).toNat - 1) (by omega) (by omega)
        have z1 : ((10 * i : Nat) : Int) = 10 * (i : Int) := by omega
        have z2 : ((10 * i + (sCon T s 0).toNat - 1 : Nat) : Int) = 10 * (i : Int) + sCon T s 0 - 1 := by omega
        rw [z1, z2] at es
        rw [if_neg g2]
        simp only [ob_some]
        rw [qk_r (by omega) (by omega), if_neg (show ¬ (1 : Int) = 0 by omega), es]
        simp only [ob_some]
        obtain ⟨r, S', t1, t2, t3, t4, t5⟩ := survey_L hs hk j n (i + 1) 1 (qup S 46 i (sLeast T (10 * i) (10 * i + (sCon T s 0).toNat - 1))) (by omega) (by omega) (Or.inr rfl) (fun q => absurd q (by omega)) (iT_off hI (fun c hc => qup_off (by omega))) (fun p hp => by
          rw [qup_on]
          rcases Nat.lt_or_ge p i with w | w
          · rw [if_neg (by omega)]
            exact hg p w
          · have : p = i := by omega
            rw [if_pos this, this]
            unfold sBed
            rw [cI_t hr])
        rw [f1] at t1
        refine ⟨r, S', ?_, fun c hc => (t2 c hc).trans (qup_off hc), t3, t4, t5⟩
        rcases hh with q | q
        · subst q
          rw [qk_r (by omega) (by omega), if_pos rfl, if_neg (show ¬ (1 : Int) = 0 by omega)]
          exact t1
        · subst q
          rw [qk_r (by omega) (by omega), if_neg (show ¬ (1 : Int) = 0 by omega)]
          exact t1
theorem survey_s {S : qSto} (hI : iT S T lev) {s : Nat} (hs : (s : Int) < T 9) {k : Int} (hk : qR k) : ∃ r S', Search_survey (s : Int) k S = some (r, S') ∧ fO 46 S S' ∧ (r = 0 ∨ r = 1) ∧ (r = 0 → ∀ p, p < 100 → ¬ sRd T s k p) ∧ ∀ p, p < 100 → S' 46 p = sBed T s k p := by
  have ec : Told_contractOf (s : Int) 0 S = some (sCon T s 0, S) := Told_contractOf_s hI hs (w := 0) (by omega)
  obtain ⟨r, S', t1, t2, t3, t4, t5⟩ := survey_L hs hk 100 qF 0 0 S (by omega) (by unfold qF; omega) (Or.inl rfl) (fun _ p hp => absurd hp (by omega)) hI (fun p hp => absurd hp (by omega))
  have t1' : Search_survey_L16 qF (s : Int) k (sCon T s 0) 0 0 S = some (r, S') := t1
  refine ⟨r, S', ?_, t2, t3, t4, t5⟩
  rw [Search_survey, ec]
  simp only [ob_some]
  rw [t1']
  simp only [ob_some]
  rw [qk_z t3]
/-- a place that isn't worth a look breaks a law -/
theorem nRd_law (hT : bT T) (hb : bY T lev Y) {s : Nat} (hs : (s : Int) < T 9) {t k : Int} {p : Nat} (h : ¬ sRd T s k p) : sLaw T lev Y s (10 * p) t k ≠ 0 := fun q => by
  have z := sLaw_ok q
  have z2 := z.1.2.1
  refine few_law hT hb hs (T := T) (lev := lev) (Y := Y) (x := 10 * (p : Int)) (t := t) (k := k) ?_ q
  have : ¬ (T 0 < 10 * (p : Int) + sCon T s 0) := by omega
  rcases Int.lt_or_le (sRc T (10 * (p : Int)) s (sC T)) k with w | w
  · exact w
  · exact absurd ⟨this, w⟩ h
theorem ten_far (hT : bT T) {s : Nat} (hs : (s : Int) < T 9) {x t k : Int} (h : ∀ p : Nat, p < 100 → sLaw T lev Y s (10 * p) t k ≠ 0) (hx : x % 10 = 0) : sLaw T lev Y s x t k ≠ 0 := fun q => by
  have z := (sLaw_ok q).1.2.1
  have b0 := hT.1
  have cn := bT_con hT hs
  have e : x = 10 * ((x / 10).toNat : Int) := by omega
  have := h (x / 10).toNat (by omega)
  rw [← e] at this
  exact this q
theorem firstMetre_L (hb : bY T lev Y) (hT : bT T) {s : Nat} (hs : (s : Int) < T 9) (h0 : Y.2.2 s = 0) {t k : Int} (hst : sTime T lev s t k = 0) (h8 : ¬ L8 T Y s t k) : ∀ (j n p : Nat) (S : qSto), 100 ≤ p + j → j < n → p ≤ 200 → iT S T lev → cY S T lev Y → S 8 4 = sWork T s k → S 8 5 = sLeave T lev s t k → (∀ p, p < 100 → S 46 p = sBed T s k p) → (∀ q : Nat, q < p → sLaw T lev Y s (10 * q) t k ≠ 0) → ∃ r, (∃ S', Search_firstMetre_L30 n (s : Int) t k (sLow lev t.toNat (sLeave T lev s t k).toNat) (sNeed T s) (p : Int) S = some r ∧ cY S' T lev Y ∧ fL S S' ∧ S' 8 = S 8 ∧ ((r = .inl S' ∧ ∀ q : Nat, q < 100 → sLaw T lev Y s (10 * q) t k ≠ 0) ∨ ∃ q : Nat, r = .inr (10 * (q : Int), S') ∧ q < 100 ∧ sLaw T lev Y s (10 * q) t k = 0 ∧ ∀ q' : Nat, q' < q → sLaw T lev Y s (10 * q') t k ≠ 0))
  | 0, n + 1, p, S, e, _, hp, hI, hc, e84, e85, hbed, hlow => by
    rw [Search_firstMetre_L30]
    simp (disch := omega) only [qk_r, if_pos (show (100 : Int) ≤ (p : Int) by omega)]
    exact ⟨_, S, rfl, hc, fL_rfl, rfl, Or.inl ⟨rfl, fun q hq => hlow q (by omega)⟩⟩
  | j + 1, n + 1, p, S, e, hn, hp, hI, hc, e84, e85, hbed, hlow => by
    have b0 := hT.1
    have b1 := hT.2.1
    have b2 := hT.2.2.1
    have cn := bT_con hT hs
    have st := sTime_ok hst
    have hw := sWork_b hT hs (k := k) (by omega) (by omega)
    have f1 : (((p + 1 : Nat)) : Int) = (p : Int) + 1 := by omega
    have f10 : (p : Int) * 10 = 10 * (p : Int) := by omega
    have hl := sNext_rng T lev (sCon T s 2) (t + sWork T s k).toNat
    have el : sNext T lev (sCon T s 2) (t + sWork T s k).toNat = sLeave T lev s t k := rfl
    rw [el] at hl
    have hl2 : t + sWork T s k ≤ sLeave T lev s t k ∧ sLeave T lev s t k ≤ 335 := by
      rcases hl with q | q
      · exact absurd q st.2.2.2
      · omega
    have r2 := sLow_b hI (t := t.toNat) (e := (sLeave T lev s t k).toNat) (by omega) (by omega)
    have r3 : 0 ≤ sNeed T s ∧ sNeed T s ≤ 330 := by unfold sNeed; omega
    rw [Search_firstMetre_L30, qk_r (by omega) (by omega)]
    by_cases gp : (100 : Int) ≤ (p : Int)
    · rw [if_pos gp]
      exact ⟨_, S, rfl, hc, fL_rfl, rfl, Or.inl ⟨rfl, fun q hq => hlow q (by omega)⟩⟩
    · have eb := hbed p (by omega)
      have next : sLaw T lev Y s (10 * p) t k ≠ 0 → ∀ S1, iT S1 T lev → cY S1 T lev Y → fL S S1 → S1 8 = S 8 → ∃ r, (∃ S', Search_firstMetre_L30 n (s : Int) t k (sLow lev t.toNat (sLeave T lev s t k).toNat) (sNeed T s) ((p : Int) + 1) S1 = some r ∧ cY S' T lev Y ∧ fL S S' ∧ S' 8 = S 8 ∧ ((r = .inl S' ∧ ∀ q : Nat, q < 100 → sLaw T lev Y s (10 * q) t k ≠ 0) ∨ ∃ q : Nat, r = .inr (10 * (q : Int), S') ∧ q < 100 ∧ sLaw T lev Y s (10 * q) t k = 0 ∧ ∀ q' : Nat, q' < q → sLaw T lev Y s (10 * q') t k ≠ 0)) := fun hne S1 hI1 hc1 hf1 h81 => by
        obtain ⟨r, S', t1, t2, t3, t4, t5⟩ := firstMetre_L hb hT hs h0 hst h8 j n (p + 1) S1 (by omega) (by omega) (by omega) hI1 hc1 (by rw [h81]; exact e84) (by rw [h81]; exact e85) (fun q hq => by rw [hf1.1 46 (by omega)]; exact hbed q hq) (fun q hq => by
          rcases Nat.lt_or_ge q p with w | w
          · exact hlow q w
          · have : q = p := by omega
            rw [this]
            exact hne)
        rw [f1] at t1
        exact ⟨r, S', t1, t2, fL_tr hf1 t3, t4.trans h81, t5⟩
      simp (disch := omega) only [if_neg gp, qk_ix, Int.toNat_natCast, eb, f10]
      by_cases gr : sRd T s k p
      · have ebp : sBed T s k p = sLeast T (10 * p) (10 * p + (sCon T s 0).toNat - 1) := by unfold sBed; rw [cI_t gr]
        have gr1 := gr.1
        have r1 := sLeast_b hI (a := 10 * p) (b := 10 * p + (sCon T s 0).toNat - 1) (by omega) (by omega)
        rw [ebp]
        have z1 : (10 * (p : Int)).toNat = 10 * p := by omega
        have z2 : (10 * (p : Int) + sCon T s 0 - 1).toNat = 10 * p + (sCon T s 0).toNat - 1 := by omega
        have hok : okS T lev s (10 * p) t k := ⟨st.2.1, ⟨by omega, by omega⟩, st.1, st.2.2.2⟩
        rw [qk_r (by omega) (by omega), if_neg (show ¬ sLeast T (10 * p) (10 * p + (sCon T s 0).toNat - 1) = -1 by omega), qk_r (by omega) (by omega), qk_r (by omega) (by omega)]
        by_cases g6 : sNeed T s ≤ sLeast T (10 * p) (10 * p + (sCon T s 0).toNat - 1) + sLow lev t.toNat (sLeave T lev s t k).toNat
        · rw [if_pos g6]
          have n6 : ¬ L6 T lev s (10 * p) t k := by
            unfold L6
            rw [z1, z2]
            omega
          obtain ⟨r, p1, p2⟩ := pastObstacle_s hI hb hc hs (x := 10 * (p : Int)) (t := t) (l := sLeave T lev s t k) (by omega) (by omega) (by omega) e85
          rw [p1]
          simp only [ob_some]
          rcases p2 with ⟨q1, q2⟩ | ⟨o, q1, q2, q3⟩
          · have n7 : ¬ L7 T lev Y s (10 * p) t k := fun ⟨o, o1, o2⟩ => q2 o o1 o2
            rw [q1, qk_r (by omega) (by omega), qk_r (by omega) (by omega), if_pos (Int.le_refl _), e84]
            obtain ⟨r9, S2, x1, x2, x3, x4, x5, x6⟩ := suffices_s hI hb hc hs h0 hok
            rw [x1]
            simp only [ob_some]
            rw [qk_r (by omega) (by omega)]
            by_cases g9 : r9 = 0
            · rw [if_pos g9]
              exact next (fun q => (sLaw_ok q).2.2.2.2.2 (x3.mp g9)) S2 (fC_iT hI (fL_C x5)) x4 x5 x6
            · rw [if_neg g9]
              refine ⟨_, S2, rfl, x4, x5, x6, Or.inr ⟨p, rfl, by omega, ?_, hlow⟩⟩
              exact sLaw_0 hok hst n6 n7 h8 (fun z => g9 (x3.mpr z))
          · have q4 := q3.2.2.2
            have oo := bY_one hT hb (s := o) (by unfold sN at q2; omega) q3.2.1
            have co := bT_con hT (s := o) (by unfold sN at q2; omega)
            unfold sLast at q1 q4
            rw [qk_r (by omega) (by omega), qk_r (by omega) (by omega), if_neg (show ¬ r ≤ 10 * (p : Int) by omega), qk_r (by omega) (by omega)]
            obtain ⟨p2, ep2⟩ : ∃ p2 : Nat, (p2 : Int) = Int.tdiv (r - 1) 10 + 1 := ⟨(Int.tdiv (r - 1) 10 + 1).toNat, by
              rw [Int.tdiv_eq_ediv_of_nonneg (by omega)]
              omega⟩
            have ep3 : (p2 : Int) = (r - 1) / 10 + 1 := by rw [ep2, Int.tdiv_eq_ediv_of_nonneg (by omega)]
            have l7 : ∀ q : Nat, p ≤ q → q < p2 → sLaw T lev Y s (10 * q) t k ≠ 0 := fun q w1 w2 z => by
              refine (sLaw_ok z).2.2.2.1 ⟨o, q2, q3.1, q3.2.1, q3.2.2.1, ?_, ?_⟩
              · unfold sLast
                omega
              · omega
            obtain ⟨r', S', t1, t2, t3, t4, t5⟩ := firstMetre_L hb hT hs h0 hst h8 j n p2 S (by omega) (by omega) (by omega) hI hc e84 e85 hbed (fun q hq => by
              rcases Nat.lt_or_ge q p with w | w
              · exact hlow q w
              · exact l7 q w hq)
            rw [ep2] at t1
            exact ⟨r', S', t1, t2, t3, t4, t5⟩
        · rw [if_neg g6]
          refine next (fun q => (sLaw_ok q).2.2.1 ?_) S hI hc fL_rfl rfl
          unfold L6
          rw [z1, z2]
          omega
      · have ebp : sBed T s k p = -1 := by unfold sBed; rw [cI_f gr]
        rw [ebp, qk_r (by omega) (by omega), if_pos rfl]
        exact next (nRd_law hT hb hs gr) S hI hc fL_rfl rfl
theorem firstMetre_s (hb : bY T lev Y) {S : qSto} (hI : iT S T lev) (hc : cY S T lev Y) {s : Nat} (hs : (s : Int) < T 9) (h0 : Y.2.2 s = 0) {t k : Int} (hst : sTime T lev s t k = 0) (h8 : ¬ L8 T Y s t k) (e84 : S 8 4 = sWork T s k) (e85 : S 8 5 = sLeave T lev s t k) (hbed : ∀ p, p < 100 → S 46 p = sBed T s k p) : ∃ r S', Search_firstMetre (s : Int) t k S = some (r, S') ∧ cY S' T lev Y ∧ fL S S' ∧ S' 8 = S 8 ∧ ((r = -1 ∧ ∀ x : Int, x % 10 = 0 → sLaw T lev Y s x t k ≠ 0) ∨ (0 ≤ r ∧ r ≤ 990 ∧ r % 10 = 0 ∧ sLaw T lev Y s r t k = 0 ∧ ∀ x : Int, x % 10 = 0 → sLaw T lev Y s x t k = 0 → r ≤ x)) := by
  have st := sTime_ok hst
  have cn := bT_con hI.1 hs
  have hw := sWork_b hI.1 hs (k := k) (by omega) (by omega)
  have hl := sNext_rng T lev (sCon T s 2) (t + sWork T s k).toNat
  have el : sNext T lev (sCon T s 2) (t + sWork T s k).toNat = sLeave T lev s t k := rfl
  rw [el] at hl
  have hl2 : t + sWork T s k ≤ sLeave T lev s t k ∧ sLeave T lev s t k ≤ 335 := by
    rcases hl with q | q
    · exact absurd q st.2.2.2
    · omega
  have ft : ((t.toNat : Nat) : Int) = t := by omega
  have fl : (((sLeave T lev s t k).toNat : Nat) : Int) = sLeave T lev s t k := by omega
  have ew := Waters_lowest_s hI (t := t.toNat) (e := (sLeave T lev s t k).toNat) (by omega) (by omega) (by omega)
  rw [ft, fl] at ew
  have en := Told_waterNeededBy_s hI hs
  obtain ⟨r, S', t1, t2, t3, t4, t5⟩ := firstMetre_L hb hI.1 hs h0 hst h8 100 qF 0 S (by omega) (by unfold qF; omega) (by omega) hI hc e84 e85 hbed (fun q hq => absurd hq (by omega))
  have t1' : Search_firstMetre_L30 qF (s : Int) t k (sLow lev t.toNat (sLeave T lev s t k).toNat) (sNeed T s) 0 S = some r := t1
  rw [Search_firstMetre, e85, ew]
  simp only [ob_some]
  rw [en]
  simp only [ob_some]
  rw [t1']
  rcases t5 with ⟨q1, q2⟩ | ⟨q, q1, q2, q3, q4⟩
  · rw [q1]
    exact ⟨-1, S', rfl, t2, t3, t4, Or.inl ⟨rfl, fun x hx => ten_far hI.1 hs q2 hx⟩⟩
  · rw [q1]
    refine ⟨_, S', rfl, t2, t3, t4, Or.inr ⟨by omega, by omega, by omega, q3, fun x hx hz => ?_⟩⟩
    have z := (sLaw_ok hz).1.2.1
    have e : x = 10 * ((x / 10).toNat : Int) := by omega
    rcases Nat.lt_or_ge (x / 10).toNat q with w | w
    · have := q4 (x / 10).toNat w
      rw [← e] at this
      exact absurd hz this
    · omega
end PFD
