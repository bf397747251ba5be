/-! the reference looks for the earliest place -/
theorem sm_mono {f g : Nat → Int} : ∀ {n : Nat}, (∀ i, i < n → f i ≤ g i) → sm f n ≤ sm g n
  | 0, _ => Int.le_refl _
  | n + 1, h => by
    have := sm_mono (n := n) (fun i hi => h i (by omega))
    have := h n (by omega)
    rw [sm, sm]
    omega
section PSK
variable {T lev : Nat → Int} {Y : qY}
theorem busy_le {Y1 Y2 : qY} (h : yLe T Y1 Y2) (hk : ∀ s, 0 ≤ Y2.2.2 s) (u : Nat) : sBusy T Y1 u ≤ sBusy T Y2 u := by
  unfold sBusy
  apply sm_mono
  intro i hi
  by_cases g : 0 < Y1.2.2 i ∧ Y1.2.1 i ≤ u ∧ (u : Int) < Y1.2.1 i + sWork T i (Y1.2.2 i)
  · obtain ⟨e1, e2, e3⟩ := h i hi g.1
    rw [if_pos g, ← e2, ← e3, if_pos g]
    exact Int.le_refl _
  · rw [if_neg g]
    have := hk i
    split <;> omega
theorem L7_le {Y1 Y2 : qY} {s : Nat} {x t k : Int} (h : yLe T Y1 Y2) (h7 : L7 T lev Y1 s x t k) : L7 T lev Y2 s x t k := by
  obtain ⟨o, o1, o2⟩ := h7
  obtain ⟨e1, e2, e3⟩ := h o o1 o2.2.1
  refine ⟨o, o1, ?_⟩
  unfold crP sLv sLast at o2 ⊢
  rw [← e1, ← e2, ← e3]
  exact o2
theorem L8_le {Y1 Y2 : qY} {s : Nat} {t k : Int} (h : yLe T Y1 Y2) (hk : ∀ s, 0 ≤ Y2.2.2 s) (h8 : L8 T Y1 s t k) : L8 T Y2 s t k := by
  obtain ⟨u, u1, u2⟩ := h8
  have := busy_le h hk u
  exact ⟨u, u1, by omega⟩
theorem L9_le {Y1 Y2 : qY} {s : Nat} {x t k : Int} (h : yLe T Y1 Y2) (hk : ∀ s, 0 ≤ Y2.2.2 s) (hk0 : 0 ≤ k) (h9 : L9 T Y1 s x t k) : L9 T Y2 s x t k := by
  obtain ⟨u, u1, u2⟩ := h9
  refine ⟨u, u1, fun z => u2 ?_⟩
  refine deal_le (yLe_up h) (fun i => ?_) z
  show 0 ≤ (if i = s then k else Y2.2.2 i)
  split
  · exact hk0
  · exact hk i
/-- beside more ships no place is found that wasn't there before -/
theorem law_le (hT : bT T) {Y1 Y2 : qY} {s : Nat} (hs : (s : Int) < T 9) {x t k : Int} (h : yLe T Y1 Y2) (hk : ∀ s, 0 ≤ Y2.2.2 s) (h2 : sLaw T lev Y2 s x t k = 0) : sLaw T lev Y1 s x t k = 0 := by
  obtain ⟨a1, a2, a3, a4, a5, a6⟩ := sLaw_ok h2
  have b := okS_b hT hs a1
  exact sLaw_0 a1 a2 a3 (fun z => a4 (L7_le h z)) (fun z => a5 (L8_le h hk z)) (fun z => a6 (L9_le h hk (by omega) z))
theorem yE_le {Y1 Y2 : qY} (h : yE Y1 Y2) : yLe T Y1 Y2 := fun i _ hk => ⟨(h.2 i hk).1, (h.2 i hk).2, h.1 i⟩
theorem law_E (hT : bT T) {Y1 Y2 : qY} {s : Nat} (hs : (s : Int) < T 9) {x t k : Int} (h : yE Y1 Y2) (hk : ∀ s, 0 ≤ Y2.2.2 s) : sLaw T lev Y1 s x t k = sLaw T lev Y2 s x t k := by
  have hk1 : ∀ s, 0 ≤ Y1.2.2 s := fun s => by rw [h.1 s]; exact hk s
  have l1 : yLe T Y1 Y2 := yE_le h
  have l2 : yLe T Y2 Y1 := yE_le (yE_symm h)
  unfold sLaw
  by_cases g : sEarly T lev s x t k = 0
  · have b := okS_b hT hs (sEarly_ok g).1
    have e7 : L7 T lev Y1 s x t k = L7 T lev Y2 s x t k := propext ⟨L7_le l1, L7_le l2⟩
    have e8 : L8 T Y1 s t k = L8 T Y2 s t k := propext ⟨L8_le l1 hk, L8_le l2 hk1⟩
    have e9 : L9 T Y1 s x t k = L9 T Y2 s x t k := propext ⟨L9_le l1 hk (by omega), L9_le l2 hk1 (by omega)⟩
    rw [if_pos g, if_pos g, e7, e8, e9]
  · rw [if_neg g, if_neg g]
theorem layTens_L {s : Nat} (hs : (s : Int) < T 9) : ∀ (j n q : Nat) (S : qSto), T 0 < 10 * ((q + j : Nat) : Int) + sCon T s 0 → j < n → q ≤ 100 → iT S T lev → (∀ p : Nat, p < q → 10 * (p : Int) + sCon T s 0 ≤ T 0 → S 84 p = sLeast T (10 * p) (10 * p + (sCon T s 0).toNat - 1)) → ∃ S', M_layTens_L2 n (s : Int) (q : Int) S = some S' ∧ fO 84 S S' ∧ ∀ p : Nat, 10 * (p : Int) + sCon T s 0 ≤ T 0 → S' 84 p = sLeast T (10 * p) (10 * p + (sCon T s 0).toNat - 1)
  | 0, n + 1, q, S, e, _, hq, hI, hg => by
    have b0 := hI.1.1
    have cn := bT_con hI.1 hs
    have e0 := hI.2.2.1 0
    have c0 : M_of (s : Int) 0 S = some (sCon T s 0, S) := M_of_s hI hs (w := 0) (by omega)
    rw [Nat.add_zero] at e
    rw [M_layTens_L2, c0]
    simp (disch := omega) only [ob_some, qk_r, e0, if_pos (show T 0 < 10 * (q : Int) + sCon T s 0 by omega)]
    exact ⟨S, rfl, fun c _ => rfl, fun p hp => hg p (by omega) hp⟩
  | j + 1, n + 1, q, S, e, hn, hq, hI, hg => by
    have b0 := hI.1.1
    have cn := bT_con hI.1 hs
    have e0 := hI.2.2.1 0
    have c0 : M_of (s : Int) 0 S = some (sCon T s 0, S) := M_of_s hI hs (w := 0) (by omega)
    have f1 : (((q + 1 : Nat)) : Int) = (q : Int) + 1 := by omega
    rw [M_layTens_L2, c0]
    by_cases g : T 0 < 10 * (q : Int) + sCon T s 0
    · simp (disch := omega) only [ob_some, qk_r, e0, if_pos g]
      exact ⟨S, rfl, fun c _ => rfl, fun p hp => hg p (by omega) hp⟩
    · have ed := M_leastDepth_s hI (a := 10 * q) (b := 10 * q + (sCon T s 0).toNat - 1) (by omega) (by omega)
      have z1 : ((10 * q : Nat) : Int) = 10 * (q : Int) := by omega
      have z2 : ((10 * q + (sCon T s 0).toNat - 1 : Nat) : Int) = 10 * (q : Int) + sCon T s 0 - 1 := by omega
      rw [z1, z2] at ed
      simp (disch := omega) only [ob_some, qk_r, qk_ix, e0, if_neg g, c0, ed, Int.toNat_natCast]
      obtain ⟨S', t1, t2, t3⟩ := layTens_L hs j n (q + 1) (qup S 84 q (sLeast T (10 * q) (10 * q + (sCon T s 0).toNat - 1))) (by rw [show q + 1 + j = q + (j + 1) by omega]; exact e) (by omega) (by omega) (iT_off hI (fun c hc => qup_off (by omega))) (fun p hp hf => by
        rw [qup_on]
        rcases Nat.lt_or_ge p q with w | w
        · rw [if_neg (by omega)]
          exact hg p w hf
        · have : p = q := by omega
          rw [if_pos this, this])
      rw [f1] at t1
      exact ⟨S', t1, fun c hc => (t2 c hc).trans (qup_off hc), t3⟩
theorem layTens_s {S : qSto} (hI : iT S T lev) {s : Nat} (hs : (s : Int) < T 9) : ∃ S', M_layTens (s : Int) S = some S' ∧ fO 84 S S' ∧ ∀ p : Nat, 10 * (p : Int) + sCon T s 0 ≤ T 0 → S' 84 p = sLeast T (10 * p) (10 * p + (sCon T s 0).toNat - 1) := by
  have b0 := hI.1.1
  have cn := bT_con hI.1 hs
  obtain ⟨S', t1, t2, t3⟩ := layTens_L hs 100 qF 0 S (by omega) (by unfold qF; omega) (by omega) hI (fun p hp => absurd hp (by omega))
  have t1' : M_layTens_L2 qF (s : Int) 0 S = some S' := t1
  refine ⟨S', ?_, t2, t3⟩
  rw [M_layTens, t1']
  rfl
theorem mY_setx {S : qSto} {s : Nat} {x x' t k : Int} (h : mY S T lev (yP Y s x' t k)) (hx : -1000000 ≤ x ∧ x ≤ 1000000) : mY (qup S 78 s x) T lev (yP Y s x t k) := by
  refine ⟨fun i hi => ?_, fun i hi hk => ?_, gB_up h.2.2.1 hx, gB_off h.2.2.2.1 (qup_off (by omega)), gB_off h.2.2.2.2.1 (qup_off (by omega)), gB_off h.2.2.2.2.2 (qup_off (by omega))⟩
  · rw [qup_off (by omega)]
    exact h.1 i hi
  · rw [qup_off (show (79 : Nat) ≠ 78 by omega), qup_off (show (81 : Nat) ≠ 78 by omega), qup_off (show (82 : Nat) ≠ 78 by omega), qup_on]
    have q := h.2.1 i hi hk
    refine ⟨?_, q.2⟩
    show (if i = s then x else S 78 i) = if i = s then x else Y.1 i
    by_cases e : i = s
    · rw [if_pos e, if_pos e]
    · rw [if_neg e, if_neg e]
      have := q.1
      have e2 : (yP Y s x' t k).1 i = Y.1 i := if_neg e
      rw [e2] at this
      exact this
/-- what a search of the reference changes -/
def fK (S S' : qSto) : Prop := (∀ c, ¬ ((78 ≤ c ∧ c ≤ 83) ∨ c = 70) → S' c = S c) ∧ ∀ i, i ≠ 27 → i ≠ 28 → S' 70 i = S 70 i
theorem fK_rfl {S : qSto} : fK S S := ⟨fun _ _ => rfl, fun _ _ _ => rfl⟩
theorem fK_tr {S S' S2 : qSto} (h1 : fK S S') (h2 : fK S' S2) : fK S S2 := ⟨fun c a => (h2.1 c a).trans (h1.1 c a), fun i a b => (h2.2 i a b).trans (h1.2 i a b)⟩
theorem fK_M {S S' : qSto} (h : fK S S') : fM S S' := ⟨fun c hc => h.1 c (by omega), h.2⟩
theorem fO83_K {S S' : qSto} (h : fO 83 S S') : fK S S' := ⟨fun c hc => h c (by omega), fun i _ _ => by rw [h 70 (by omega)]⟩
theorem fits_L (hb : bY T lev Y) (hw : wP T lev Y) (hT : bT T) {s : Nat} (hs : (s : Int) < T 9) (h0 : Y.2.2 s = 0) {t k : Int} (hst : sTime T lev s t k = 0) (h8 : ¬ L8 T Y s t k) : ∀ (j n q : Nat) (x' : Int) (S : qSto), T 0 < 10 * ((q + j : Nat) : Int) + sCon T s 0 → j < n → q ≤ 100 → iT S T lev → mY S T lev (yP Y s x' t k) → (∀ p : Nat, 10 * (p : Int) + sCon T s 0 ≤ T 0 → S 84 p = sLeast T (10 * p) (10 * p + (sCon T s 0).toNat - 1)) → (∀ p : Nat, p < q → sLaw T lev Y s (10 * p) t k ≠ 0) → ∃ r x'' S', M_fitsAt_L18 n (s : Int) (sLow lev t.toNat (sLeave T lev s t k).toNat) (q : Int) S = some r ∧ mY S' T lev (yP Y s x'' t k) ∧ fK S S' ∧ ((r = .inl S' ∧ ∀ p : Nat, sLaw T lev Y s (10 * p) t k ≠ 0) ∨ ∃ p : Nat, r = .inr (1, S') ∧ S' 70 28 = 10 * p ∧ p < 100 ∧ sLaw T lev Y s (10 * p) t k = 0 ∧ ∀ p' : Nat, p' < p → sLaw T lev Y s (10 * p') t k ≠ 0)
  | 0, n + 1, q, x', S, e, _, hq, hI, hm, hg, hlow => by
    have b0 := hT.1
    have cn := bT_con hT hs
    have e0 := hI.2.2.1 0
    have c0 : M_of (s : Int) 0 S = some (sCon T s 0, S) := M_of_s hI hs (w := 0) (by omega)
    rw [Nat.add_zero] at e
    rw [M_fitsAt_L18, c0]
    simp (disch := omega) only [ob_some, qk_r, e0, if_pos (show T 0 < 10 * (q : Int) + sCon T s 0 by omega)]
    refine ⟨_, x', S, rfl, hm, fK_rfl, Or.inl ⟨rfl, fun p hz => ?_⟩⟩
    rcases Nat.lt_or_ge p q with w | w
    · exact hlow p w hz
    · have := (sLaw_ok hz).1.2.1
      omega
  | j + 1, n + 1, q, x', S, e, hn, hq, hI, hm, hg, hlow => by
    have b9 := bT_n hT
    have b0 := hT.1
    have b2 := hT.2.2.1
    have cn := bT_con hT hs
    have e0 := hI.2.2.1 0
    have st := sTime_ok hst
    have c0 : M_of (s : Int) 0 S = some (sCon T s 0, S) := M_of_s hI hs (w := 0) (by omega)
    have en := M_needOf_s hI hs
    have f1 : (((q + 1 : Nat)) : Int) = (q : Int) + 1 := by omega
    rw [M_fitsAt_L18, c0]
    simp only [ob_some]
    rw [e0, qk_r (by omega) (by omega), qk_r (by omega) (by omega)]
    by_cases g : T 0 < 10 * (q : Int) + sCon T s 0
    · rw [if_pos g]
      refine ⟨_, x', S, rfl, hm, fK_rfl, Or.inl ⟨rfl, fun p hz => ?_⟩⟩
      rcases Nat.lt_or_ge p q with w | w
      · exact hlow p w hz
      · have := (sLaw_ok hz).1.2.1
        omega
    · have hok : okS T lev s (10 * q) t k := ⟨st.2.1, ⟨by omega, by omega⟩, st.1, st.2.2.2⟩
      have b := okS_b hT hs hok
      have e84 := hg q (by omega)
      have r1 := sLeast_b hI (a := 10 * q) (b := 10 * q + (sCon T s 0).toNat - 1) (by omega) (by omega)
      have r2 := sLow_b hI (t := t.toNat) (e := (sLeave T lev s t k).toNat) (by omega) (by omega)
      have r3 : 0 ≤ sNeed T s ∧ sNeed T s ≤ 330 := by unfold sNeed; omega
      have z1 : (10 * (q : Int)).toNat = 10 * q := by omega
      have z2 : (10 * (q : Int) + sCon T s 0 - 1).toNat = 10 * q + (sCon T s 0).toNat - 1 := by omega
      have next : sLaw T lev Y s (10 * q) t k ≠ 0 → ∀ x1 S1, iT S1 T lev → mY S1 T lev (yP Y s x1 t k) → fK S S1 → ∃ r x'' S', M_fitsAt_L18 n (s : Int) (sLow lev t.toNat (sLeave T lev s t k).toNat) ((q : Int) + 1) S1 = some r ∧ mY S' T lev (yP Y s x'' t k) ∧ fK S S' ∧ ((r = .inl S' ∧ ∀ p : Nat, sLaw T lev Y s (10 * p) t k ≠ 0) ∨ ∃ p : Nat, r = .inr (1, S') ∧ S' 70 28 = 10 * p ∧ p < 100 ∧ sLaw T lev Y s (10 * p) t k = 0 ∧ ∀ p' : Nat, p' < p → sLaw T lev Y s (10 * p') t k ≠ 0) := fun hne x1 S1 hI1 hm1 hf1 => by
        obtain ⟨r, x'', S', t1, t2, t3, t4⟩ := fits_L hb hw hT hs h0 hst h8 j n (q + 1) x1 S1 (by rw [show q + 1 + j = q + (j + 1) by omega]; exact e) (by omega) (by omega) hI1 hm1 (fun p hp => by rw [hf1.1 84 (by omega)]; exact hg p hp) (fun p hp => by
          rcases Nat.lt_or_ge p q with w | w
          · exact hlow p w
          · have : p = q := by omega
            rw [this]
            exact hne)
        rw [f1] at t1
        exact ⟨r, x'', S', t1, t2, fK_tr hf1 t3, t4⟩
      rw [if_neg g, qk_ix (by omega) (by omega), en]
      simp only [ob_some, Int.toNat_natCast]
      rw [e84, qk_r (by omega) (by omega), qk_r (by omega) (by omega)]
      by_cases g6 : sNeed T s ≤ sLeast T (10 * q) (10 * q + (sCon T s 0).toNat - 1) + sLow lev t.toNat (sLeave T lev s t k).toNat
      · rw [if_pos g6, qk_ix (by omega) (by omega)]
        have n6 : ¬ L6 T lev s (10 * q) t k := by
          unfold L6
          rw [z1, z2]
          omega
        have hm1 : mY (qup S 78 s (10 * (q : Int))) T lev (yP Y s (10 * q) t k) := mY_setx hm (by omega)
        have hI1 : iT (qup S 78 s (10 * (q : Int))) T lev := iT_off hI (fun c hc => qup_off (by omega))
        have hf1 : fK S (qup S 78 s (10 * (q : Int))) := ⟨fun c hc => qup_off (by omega), fun i _ _ => by rw [qup_off (by omega)]⟩
        have hbp : bY T lev (yP Y s (10 * q) t k) := bY_put hT hb hs (Or.inr hok)
        obtain ⟨w1, w2⟩ := sWays_R (T := T) (lev := lev) (Y := Y) (s := s) (x := 10 * q) (t := t) (l := sLeave T lev s t k) (sN T)
        have w0 := sWays_0 (T := T) (lev := lev) (Y := Y) (s := s) (x := 10 * q) (t := t) (l := sLeave T lev s t k) (sN T) (by unfold sN; omega)
        rw [M_waysOf_s hI1 hs (by omega) hbp hm1]
        simp only [ob_some]
        rw [qk_r w1 w2]
        by_cases g7 : sWays T lev Y s (10 * q) t (sLeave T lev s t k) (sN T) = 0
        · have n7 : ¬ L7 T lev Y s (10 * q) t k := fun ⟨o, o1, o2⟩ => w0.mp g7 o o1 o2
          have y2 : (yP Y s (10 * q) t k).2.1 s = t := if_pos rfl
          have y3 : (yP Y s (10 * q) t k).2.2 s = k := if_pos rfl
          obtain ⟨r9, S2, v1, v2, v3, v4⟩ := M_hasCranes_s hI1 hbp hm1 (wP_put hw n7) hs (by rw [y3]; omega)
          rw [y2, y3] at v4
          have v5 : r9 = 0 ↔ L9 T Y s (10 * q) t k := v4
          have hm2 := mY_off hm1 (fun c hc => v2 c (by omega))
          have hI2 := iT_off hI1 (fun c hc => v2 c (by omega))
          have hf2 := fK_tr hf1 (fO83_K v2)
          rw [if_pos g7, v1]
          simp only [ob_some]
          rw [qk_r (by omega) (by omega)]
          by_cases g9 : r9 = 0
          · rw [if_pos g9]
            exact next (fun z => (sLaw_ok z).2.2.2.2.2 (v5.mp g9)) _ S2 hI2 hm2 hf2
          · rw [if_neg g9]
            refine ⟨_, 10 * q, qup S2 70 28 (10 * (q : Int)), rfl, mY_off hm2 (fun c hc => qup_off (by omega)), fK_tr hf2 ⟨fun c hc => qup_off (by omega), fun i i1 i2 => by rw [qup_on, if_neg i2]⟩, Or.inr ⟨q, rfl, by rw [qup_on, if_pos rfl], by omega, ?_, hlow⟩⟩
            exact sLaw_0 hok hst n6 n7 h8 (fun z => g9 (v5.mpr z))
        · rw [if_neg g7]
          refine next (fun z => g7 (w0.mpr (fun o o1 o2 => (sLaw_ok z).2.2.2.1 ⟨o, o1, o2⟩))) _ _ hI1 hm1 hf1
      · rw [if_neg g6]
        refine next (fun z => (sLaw_ok z).2.2.1 ?_) x' S hI hm fK_rfl
        unfold L6
        rw [z1, z2]
        omega
theorem fitsAt_s (hb : bY T lev Y) (hw : wP T lev Y) {S : qSto} (hI : iT S T lev) {s : Nat} (hs : (s : Int) < T 9) (h0 : Y.2.2 s = 0) {t k : Int} (hst : sTime T lev s t k = 0) (hm : mY S T lev (yP Y s 0 t k)) (hg : ∀ p : Nat, 10 * (p : Int) + sCon T s 0 ≤ T 0 → S 84 p = sLeast T (10 * p) (10 * p + (sCon T s 0).toNat - 1)) : ∃ r x'' S', M_fitsAt (s : Int) S = some (r, S') ∧ mY S' T lev (yP Y s x'' t k) ∧ fK S S' ∧ ((r = 0 ∧ ∀ x : Int, x % 10 = 0 → sLaw T lev Y s x t k ≠ 0) ∨ (r = 1 ∧ ∃ x : Int, S' 70 28 = x ∧ x % 10 = 0 ∧ sLaw T lev Y s x t k = 0 ∧ ∀ x' : Int, x' % 10 = 0 → sLaw T lev Y s x' t k = 0 → x ≤ x')) := by
  have st := sTime_ok hst
  have cn := bT_con hI.1 hs
  have hokW : okW T lev s 0 t k := ⟨st.2.1, ⟨by omega, by omega⟩, st.1, st.2.2.2⟩
  have b := okW_b hI.1 hs hokW
  have hbp : bY T lev (yP Y s 0 t k) := bY_putW hI.1 hb hs (Or.inr hokW)
  have y2 : (yP Y s 0 t k).2.1 s = t := if_pos rfl
  have y3 : (yP Y s 0 t k).2.2 s = k := if_pos rfl
  have hks : 0 < (yP Y s 0 t k).2.2 s := by rw [y3]; omega
  obtain ⟨r, q1, q2, q3⟩ := M_hasGangs_s hI hbp hm hs hks
  rw [y2, y3] at q3
  have key8 : r = 0 ↔ L8 T Y s t k := by
    refine q3.trans ⟨fun ⟨u, u1, u2⟩ => ⟨u, u1, ?_⟩, fun ⟨u, u1, u2⟩ => ⟨u, u1, ?_⟩⟩
    · rw [sBusy_put (by unfold sN; omega) h0, if_pos ⟨by omega, u1⟩] at u2
      exact u2
    · rw [sBusy_put (by unfold sN; omega) h0, if_pos ⟨by omega, u1⟩]
      exact u2
  rw [M_fitsAt, q1]
  simp only [ob_some]
  rw [qk_r (by omega) (by omega)]
  by_cases g8 : r = 0
  · rw [if_pos g8]
    exact ⟨0, 0, S, rfl, hm, fK_rfl, Or.inl ⟨rfl, fun x hx z => (sLaw_ok z).2.2.2.2.1 (key8.mp g8)⟩⟩
  · rw [if_neg g8]
    have ew := M_lowestIn_s hI hbp hm hs hks
    have s2 : sLv T lev (yP Y s 0 t k) s = sLeave T lev s t k := by unfold sLv; rw [y2, y3]
    rw [y2, s2] at ew
    have b0 := hI.1.1
    obtain ⟨r', x'', S', t1, t2, t3, t4⟩ := fits_L hb hw hI.1 hs h0 hst (fun z => g8 (key8.mpr z)) 100 qF 0 0 S (by omega) (by unfold qF; omega) (by omega) hI hm hg (fun p hp => absurd hp (by omega))
    have t1' : M_fitsAt_L18 qF (s : Int) (sLow lev t.toNat (sLeave T lev s t k).toNat) 0 S = some r' := t1
    rw [ew]
    simp only [ob_some]
    rw [t1']
    rcases t4 with ⟨p1, p2⟩ | ⟨p, p1, p2, p3, p4, p5⟩
    · rw [p1]
      exact ⟨0, x'', S', rfl, t2, t3, Or.inl ⟨rfl, fun x hx => ten_far hI.1 hs (fun p _ => p2 p) hx⟩⟩
    · rw [p1]
      refine ⟨1, x'', S', rfl, t2, t3, Or.inr ⟨rfl, _, p2, by omega, p4, fun x hx hz => ?_⟩⟩
      have z := (sLaw_ok hz).1.2.1
      have e : x = 10 * ((x / 10).toNat : Int) := by omega
      rcases Nat.lt_or_ge (x / 10).toNat p with w | w
      · have := p5 (x / 10).toNat w
        rw [← e] at this
        exact absurd hz this
      · omega
theorem seeks_t (hb : bY T lev Y) (hw : wP T lev Y) (hT : bT T) {s : Nat} (hs : (s : Int) < T 9) (h0 : Y.2.2 s = 0) {k : Int} (hk : sCon T s 7 ≤ k ∧ k ≤ sCon T s 8) : ∀ (j n t : Nat) (x' t' k' : Int) (S : qSto), 336 ≤ t + j → j + 1 < n → t ≤ 400 → sCon T s 4 ≤ t → iT S T lev → mY S T lev (yP Y s x' t' k') → (∀ p : Nat, 10 * (p : Int) + sCon T s 0 ≤ T 0 → S 84 p = sLeast T (10 * p) (10 * p + (sCon T s 0).toNat - 1)) → (∀ u : Nat, u < t → ∀ x : Int, x % 10 = 0 → sLaw T lev Y s x u k ≠ 0) → ∃ r x' t' k' S', M_seeks_L63 n (s : Int) k 0 (t : Int) S = some (r, S') ∧ mY S' T lev (yP Y s x' t' k') ∧ fK S S' ∧ ((r = 0 ∧ ∀ u : Nat, u < 336 → ∀ x : Int, x % 10 = 0 → sLaw T lev Y s x u k ≠ 0) ∨ (r = 1 ∧ ∃ (u : Nat) (x : Int), S' 70 27 = u ∧ S' 70 28 = x ∧ x % 10 = 0 ∧ sLaw T lev Y s x u k = 0 ∧ (∀ x' : Int, x' % 10 = 0 → sLaw T lev Y s x' u k = 0 → x ≤ x') ∧ (∀ u' : Nat, u' < u → ∀ x : Int, x % 10 = 0 → sLaw T lev Y s x u' k ≠ 0)))
  | 0, n + 1, t, x', t', k', S, e, _, hp, _, hI, hm, hg, hlow => by
    rw [M_seeks_L63]
    simp (disch := omega) only [qk_r, if_pos (show (335 : Int) < (t : Int) by omega)]
    exact ⟨0, x', t', k', S, rfl, hm, fK_rfl, Or.inl ⟨rfl, fun u hu => hlow u (by omega)⟩⟩
  | j + 1, n + 1, t, x', t', k', S, e, hn, hp, h4, hI, hm, hg, hlow => by
    have cn := bT_con hT hs
    have f1 : (((t + 1 : Nat)) : Int) = (t : Int) + 1 := by omega
    rw [M_seeks_L63, qk_r (by omega) (by omega)]
    by_cases gt : (335 : Int) < (t : Int)
    · rw [if_pos gt]
      exact ⟨0, x', t', k', S, rfl, hm, fK_rfl, Or.inl ⟨rfl, fun u hu => hlow u (by omega)⟩⟩
    · have c1 : M_of (s : Int) 1 S = some (sCon T s 1, S) := M_of_s hI hs (w := 1) (by omega)
      have eo := M_isOpen_s hI (w := sCon T s 1) (t := t) (by omega) (by omega) (by omega)
      have next : (∀ x : Int, x % 10 = 0 → sLaw T lev Y s x t k ≠ 0) → ∀ x1 t1 k1 S1, iT S1 T lev → mY S1 T lev (yP Y s x1 t1 k1) → fK S S1 → ∃ r x' t' k' S', M_seeks_L63 n (s : Int) k 0 ((t : Int) + 1) S1 = some (r, S') ∧ mY S' T lev (yP Y s x' t' k') ∧ fK S S' ∧ ((r = 0 ∧ ∀ u : Nat, u < 336 → ∀ x : Int, x % 10 = 0 → sLaw T lev Y s x u k ≠ 0) ∨ (r = 1 ∧ ∃ (u : Nat) (x : Int), S' 70 27 = u ∧ S' 70 28 = x ∧ x % 10 = 0 ∧ sLaw T lev Y s x u k = 0 ∧ (∀ x' : Int, x' % 10 = 0 → sLaw T lev Y s x' u k = 0 → x ≤ x') ∧ (∀ u' : Nat, u' < u → ∀ x : Int, x % 10 = 0 → sLaw T lev Y s x u' k ≠ 0))) := fun hne x1 t1 k1 S1 hI1 hm1 hf1 => by
        obtain ⟨r, x2, t2, k2, S', w1, w2, w3, w4⟩ := seeks_t hb hw hT hs h0 hk j n (t + 1) x1 t1 k1 S1 (by omega) (by omega) (by omega) (by omega) hI1 hm1 (fun p hp => by rw [hf1.1 84 (by omega)]; exact hg p hp) (fun u hu => by
          rcases Nat.lt_or_ge u t with w | w
          · exact hlow u w
          · have : u = t := by omega
            rw [this]
            exact hne)
        rw [f1] at w1
        exact ⟨r, x2, t2, k2, S', w1, w2, fK_tr hf1 w3, w4⟩
      rw [if_neg gt, qk_r (by omega) (by omega), if_pos rfl, c1]
      simp only [ob_some]
      rw [eo]
      simp only [ob_some, ite01_m, ite01_n]
      by_cases g5 : T 3 + lev t < sCon T s 1 + T 2
      · rw [if_pos g5]
        refine next (fun x hx z => ?_) x' t' k' S hI hm fK_rfl
        have := (sTime_ok (sLaw_ok z).2.1).2.2.1
        exact this g5
      · have hl := sNext_rng T lev (sCon T s 2) ((t : Int) + sWork T s k).toNat
        have el : sNext T lev (sCon T s 2) ((t : Int) + sWork T s k).toNat = sLeave T lev s t k := rfl
        rw [el] at hl
        rw [if_neg g5, M_leaveBy_s hI hs (by omega) (by omega) (by omega) (by omega)]
        simp only [ob_some]
        rw [qk_r (by omega) (by omega)]
        by_cases g6 : sLeave T lev s t k = -1
        · rw [if_pos g6]
          exact next (fun x hx z => (sLaw_ok z).1.2.2.2 g6) x' t' k' S hI hm fK_rfl
        · have hst : sTime T lev s t k = 0 := by
            unfold sTime
            rw [if_neg (by omega), if_neg (by omega), if_neg (by rw [Int.toNat_natCast]; omega), if_neg g6]
          have hokW : okW T lev s 0 t k := ⟨hk, ⟨by omega, by omega⟩, ⟨by omega, by omega⟩, g6⟩
          obtain ⟨S1, a1, a2, a3⟩ := M_lay_w hI hm hs (x := 0) (t := (t : Int)) (k := k) (Or.inr hokW)
          rw [yP_yP] at a2
          have hI1 : iT S1 T lev := iT_off hI (fun c hc => a3 c (by omega))
          have hf1 : fK S S1 := ⟨fun c hc => a3 c (by omega), fun i _ _ => by rw [a3 70 (by omega)]⟩
          obtain ⟨r, x'', S2, b1, b2, b3, b4⟩ := fitsAt_s hb hw hI1 hs h0 hst a2 (fun p hp => by rw [a3 84 (by omega)]; exact hg p hp)
          have hI2 := fM_iT hI1 (fK_M b3)
          have hI3 : iT (qup S2 70 27 (t : Int)) T lev := iT_off hI2 (fun c hc => qup_off (by omega))
          have hm3 := mY_off b2 (S' := qup S2 70 27 (t : Int)) (fun c hc => qup_off (by omega))
          have hf3 : fK S (qup S2 70 27 (t : Int)) := fK_tr (fK_tr hf1 b3) ⟨fun c hc => qup_off (by omega), fun i i1 i2 => by rw [qup_on, if_neg i1]⟩
          rw [if_neg g6, a1]
          simp only [ob_some]
          rw [b1]
          simp only [ob_some]
          rcases b4 with ⟨d1, d2⟩ | ⟨d1, x, d2, d3, d4, d5⟩
          · rw [d1]
            exact next d2 _ _ _ _ hI3 hm3 hf3
          · rw [d1]
            obtain ⟨n, rfl⟩ : ∃ m, n = m + 1 := ⟨n - 1, by omega⟩
            have ef : M_seeks_L63 (n + 1) (s : Int) k 1 ((t : Int) + 1) (qup S2 70 27 (t : Int)) = some (1, qup S2 70 27 (t : Int)) := by
              rw [M_seeks_L63, qk_r (by omega) (by omega), qk_r (by omega) (by omega), if_neg (show ¬ (1 : Int) = 0 by omega)]
              split <;> rfl
            refine ⟨1, x'', t, k, _, ef, hm3, hf3, Or.inr ⟨rfl, t, x, by rw [qup_on, if_pos rfl], by rw [qup_on, if_neg (by omega)]; exact d2, d3, d4, d5, hlow⟩⟩
/-- the reference seeks -/
theorem seeks_s {S : qSto} (hI : iT S T lev) (hb : bY T lev Y) (hm : mY S T lev Y) (hw : wP T lev Y) {s : Nat} (hs : (s : Int) < T 9) {k : Int} (hk : qR k) : ∃ r S', M_seeks (s : Int) k S = some (r, S') ∧ mY S' T lev Y ∧ fM S S' ∧ ((r = 0 ∧ isN T lev (yX Y s) s k) ∨ (r = 1 ∧ isS T lev (yX Y s) s k (S' 70 27) (S' 70 28))) := by
  have cn := bT_con hI.1 hs
  have b9 := bT_n hI.1
  obtain ⟨k1, k2⟩ := id hk
  have c7 : M_of (s : Int) 7 S = some (sCon T s 7, S) := M_of_s hI hs (w := 7) (by omega)
  have c8 : M_of (s : Int) 8 S = some (sCon T s 8, S) := M_of_s hI hs (w := 8) (by omega)
  rw [M_seeks, c7]
  simp only [ob_some]
  rw [qk_r (by omega) (by omega), qk_r (by omega) (by omega)]
  by_cases g1 : k < sCon T s 7
  · rw [if_pos g1]
    refine ⟨0, S, rfl, hm, fM_rfl, Or.inl ⟨rfl, fun t x hx z => ?_⟩⟩
    have := (sLaw_ok z).1.1
    omega
  · rw [if_neg g1, c8]
    simp only [ob_some]
    rw [qk_r (by omega) (by omega), qk_r (by omega) (by omega)]
    by_cases g2 : k ≤ sCon T s 8
    · rw [if_pos g2]
      obtain ⟨S1, t1, t2, t3⟩ := layTens_s hI hs
      have hI1 : iT S1 T lev := iT_off hI (fun c hc => t2 c (by omega))
      have hm1 : mY S1 T lev (yP (yX Y s) s (Y.1 s) (Y.2.1 s) (Y.2.2 s)) := by
        rw [yP_back]
        exact mY_off hm (fun c hc => t2 c (by omega))
      have hf1 : fM S S1 := ⟨fun c hc => t2 c (by omega), fun i _ _ => by rw [t2 70 (by omega)]⟩
      have c4 : M_of (s : Int) 4 S1 = some (sCon T s 4, S1) := M_of_s hI1 hs (w := 4) (by omega)
      have f4 : (((sCon T s 4).toNat : Nat) : Int) = sCon T s 4 := by omega
      obtain ⟨r, x', t', k', S2, u1, u2, u3, u4⟩ := seeks_t (bY_put hI.1 hb hs (x := 0) (t := 0) (Or.inl rfl)) (wP_le yLe_x hw) hI.1 hs x_0 (k := k) (by omega) 336 qF (sCon T s 4).toNat _ _ _ S1 (by omega) (by unfold qF; omega) (by omega) (by omega) hI1 hm1 t3 (fun u hu x hx hz => by
        have z := (sLaw_ok hz).1.2.2.1
        omega)
      rw [f4] at u1
      have hI2 := fM_iT hI1 (fK_M u3)
      have p6 := hm.1 s (by omega)
      have g78 := hm.2.2.1 s (by omega)
      have g79 := hm.2.2.2.1 s (by omega)
      have back : ∃ S3, M_lay (s : Int) (S 78 s) (S 79 s) (S 80 s) S2 = some S3 ∧ mY S3 T lev Y ∧ ∀ c, ¬ (78 ≤ c ∧ c ≤ 82) → S3 c = S2 c := by
        rw [p6]
        rcases Int.lt_or_le 0 (Y.2.2 s) with q | q
        · obtain ⟨e1, e2, -⟩ := hm.2.1 s hs q
          rw [e1, e2]
          obtain ⟨S3, v1, v2, v3⟩ := M_lay_w hI2 u2 hs (Or.inr (bY_ok hb hs q))
          rw [yP_yP, yP_back] at v2
          exact ⟨S3, v1, v2, v3⟩
        · have q0 : Y.2.2 s = 0 := by have := (hb.1 s).1; omega
          rw [q0]
          obtain ⟨S3, v1, v2, v3⟩ := M_lay_w hI2 u2 hs (x := S 78 s) (t := S 79 s) (k := 0) (Or.inl ⟨rfl, g78, g79⟩)
          rw [yP_yP, yP_yP] at v2
          exact ⟨S3, v1, mY_cong (yE_0 q0) v2, v3⟩
      obtain ⟨S3, v1, v2, v3⟩ := back
      have hf3 : fM S S3 := fM_tr (fM_tr hf1 (fK_M u3)) ⟨fun c hc => v3 c (by omega), fun i _ _ => by rw [v3 70 (by omega)]⟩
      have hr : r = 0 ∨ r = 1 := by
        rcases u4 with q | q
        · exact Or.inl q.1
        · exact Or.inr q.1
      refine ⟨r, S3, ?_, v2, hf3, ?_⟩
      · simp (disch := omega) only [qk_ix, Int.toNat_natCast]
        rw [t1]
        simp only [ob_some]
        rw [c4]
        simp only [ob_some]
        rw [u1]
        simp only [ob_some]
        rw [v1]
        simp only [ob_some]
        rw [qk_z hr]
      · rcases u4 with ⟨q1, q2⟩ | ⟨q1, u, x, q2, q3, q4, q5, q6, q7⟩
        · exact Or.inl ⟨q1, slots_N q2 hI.1 hs⟩
        · refine Or.inr ⟨q1, ?_⟩
          rw [v3 70 (by omega), q2, q3]
          exact slots_S hI.1 hs q4 q5 q6 q7
    · rw [if_neg g2]
      refine ⟨0, S, rfl, hm, fM_rfl, Or.inl ⟨rfl, fun t x hx z => ?_⟩⟩
      have := (sLaw_ok z).1.1
      omega
end PSK
