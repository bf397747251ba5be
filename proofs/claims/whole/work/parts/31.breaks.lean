/-! breaks, inWay, places, slack, along -/
section PB
variable {T lev : Nat → Int} {Y : qY}
theorem fX_C {S S' : qSto} (h : ∀ c, c ≠ 6 → c ≠ 40 → c ≠ 43 → S' c = S c) : fC S S' := fun c hc => h c (by omega) (by omega) (by omega)
theorem fY_C {S S' : qSto} (h : ∀ c, ¬ (37 ≤ c ∧ c ≤ 43) → S' c = S c) : fC S S' := fun c hc => h c (by omega)
/-- the class' way: taken up, something that keeps the frame of looking for laws, laid back -/
theorem upBack {S : qSto} (hI : iT S T lev) (hb : bY T lev Y) (hc : cY S T lev Y) {s : Nat} (hs : (s : Int) < T 9) : ∃ S1, Stays_takeUp (s : Int) S = some S1 ∧ iT S1 T lev ∧ cY S1 T lev (yX Y s) ∧ ∀ S2, cY S2 T lev (yX Y s) → fL S1 S2 → ∃ S3, Stays_layBack (s : Int) S2 = some S3 ∧ cY S3 T lev Y ∧ fC S S3 := by
  obtain ⟨S1, t1, t2, t3, t4, t5⟩ := Stays_takeUp_s hI hb hc hs
  have hI1 : iT S1 T lev := iT_off hI (fun c hc => t5 c (by omega) (by omega) (by omega))
  refine ⟨S1, t1, hI1, t2, fun S2 u1 u2 => ?_⟩
  have hI2 : iT S2 T lev := fC_iT hI1 (fL_C u2)
  obtain ⟨S3, v1, v2, v3⟩ := Stays_layBack_s hI2 hb hs u1 (by rw [u2.2 13 (by omega)]; exact t3) (fun z => by
    rw [u2.2 11 (by omega), u2.2 12 (by omega)]
    exact t4 z)
  exact ⟨S3, v1, v2, fC_tr (fX_C t5) (fC_tr (fL_C u2) (fY_C v3))⟩
theorem p_breaks {S : qSto} (h : iA S T lev Y) (hw : wY T lev Y) {a x t k : Int} (ha : qR a) (hx : qR x) (ht : qR t) (hk : qR k) : ∃ r S1 S2, C_breaks a x t k S = some (r, S1) ∧ M_breaks a x t k S1 = some (r, S2) ∧ fC S S1 ∧ fM S1 S2 ∧ iA S2 T lev Y := by
  obtain ⟨hI, hB, hc, hm⟩ := id h
  obtain ⟨x1, x2⟩ := id hx
  obtain ⟨t1, t2⟩ := id ht
  by_cases g : 0 ≤ a ∧ a < T 9
  · have fa : ((a.toNat : Nat) : Int) = a := by omega
    have hs : ((a.toNat : Nat) : Int) < T 9 := by omega
    obtain ⟨S1, u1, u2, u3, u4⟩ := upBack hI hB hc hs
    obtain ⟨S2, v1, v2, v3⟩ := firstBroken_s u2 (bY_put hI.1 hB hs (Or.inl rfl)) u3 hs x_0 hx ht hk
    obtain ⟨S3, w1, w2, w3⟩ := u4 S2 v2 v3
    have hm3 := fC_mY hm w3
    have hI3 := fC_iT hI w3
    obtain ⟨S4, y1, y2, y3⟩ := M_lawOf_s hI3 hB hm3 hw.1 hs (x := x) (t := t) (k := k) (by omega) (by omega) hk
    rw [fa] at u1 v1 w1 y1
    refine ⟨sLaw T lev (yX Y a.toNat) a.toNat x t k, S3, S4, ?_, ?_, w3, y3, iA_q h w3 w2 y3 y2⟩
    · simp only [C_breaks, C_isShip_s hI ha, ob_some, ite01_r, ite01_e]
      rw [if_pos g, u1]
      simp only [ob_some]
      rw [v1]
      simp only [ob_some]
      rw [w1]
      rfl
    · simp (disch := omega) only [M_breaks, M_isShip_s hI3 ha, ob_some, ite01_r, ite01_e, qk_r]
      rw [if_pos g, y1]
      rfl
  · refine ⟨-1, S, S, ?_, ?_, fC_rfl, fM_rfl, h⟩
    · simp only [C_breaks, C_isShip_s hI ha, ob_some, ite01_r, ite01_e]
      rw [if_neg g]
    · simp only [M_breaks, M_isShip_s hI ha, ob_some, ite01_r, ite01_e]
      rw [if_neg g]
theorem C_inWay_L {S : qSto} (hI : iT S T lev) (hb : bY T lev Y) (hc : cY S T lev Y) {s : Nat} (hs : (s : Int) < T 9) {x t l : Int} (hx : 0 ≤ x ∧ x ≤ 1000) (ht : 0 ≤ t ∧ t ≤ 335) (hl : 0 ≤ l ∧ l ≤ 335) (e85 : S 8 5 = l) : ∀ (j n i : Nat), (i : Int) + j = T 9 → j < n → C_inWay_L44 n (s : Int) x t (sWays T lev Y s x t l i) (i : Int) S = some (sWays T lev Y s x t l (sN T), S)
  | 0, n + 1, i, e, _ => by
    have b9 := bT_n hI.1
    have e1 := hI.2.1.2.2.2.2.1
    rw [C_inWay_L44]
    simp (disch := omega) only [qk_r, e1, if_pos (show T 9 ≤ (i : Int) by omega)]
    unfold sN
    rw [show (T 9).toNat = i by omega]
  | j + 1, n + 1, i, e, hn => by
    have b9 := bT_n hI.1
    have e1 := hI.2.1.2.2.2.2.1
    have ih := C_inWay_L hI hb hc hs hx ht hl e85 j n (i + 1) (by omega) (by omega)
    have f1 : (((i + 1 : Nat)) : Int) = (i : Int) + 1 := by omega
    rw [f1, sWays] at ih
    rw [C_inWay_L44]
    simp (disch := omega) only [qk_r, e1, if_neg (show ¬ T 9 ≤ (i : Int) by omega), Laws_crowds_s hI hb hc hs (o := i) (by omega) hx ht hl e85, ob_some, ite01_r, ite01_e]
    by_cases g : crP T lev Y s x t l i
    · rw [if_pos g] at ih ⊢
      exact ih
    · rw [if_neg g] at ih ⊢
      exact ih
theorem sWays_x {s : Nat} {x t l : Int} : ∀ n : Nat, sWays T lev (yX Y s) s x t l n = sWays T lev Y s x t l n
  | 0 => rfl
  | n + 1 => by
    rw [sWays, sWays, sWays_x n]
    have e : crP T lev (yX Y s) s x t l n ↔ crP T lev Y s x t l n := by
      by_cases q : n = s
      · exact ⟨fun z => absurd q z.1, fun z => absurd q z.1⟩
      · have z1 : (yX Y s).1 n = Y.1 n := if_neg q
        have z2 : (yX Y s).2.1 n = Y.2.1 n := if_neg q
        have z3 : (yX Y s).2.2 n = Y.2.2 n := if_neg q
        unfold crP sLv sLast
        rw [z1, z2, z3]
    by_cases g : crP T lev Y s x t l n
    · rw [if_pos g, if_pos (e.mpr g)]
    · rw [if_neg g, if_neg (fun z => g (e.mp z))]
theorem p_inWay {S : qSto} (h : iA S T lev Y) {a x t k : Int} (ha : qR a) (hx : qR x) (ht : qR t) (hk : qR k) : ∃ r S1 S2, C_inWay a x t k S = some (r, S1) ∧ M_inWay a x t k S1 = some (r, S2) ∧ fC S S1 ∧ fM S1 S2 ∧ iA S2 T lev Y := by
  obtain ⟨hI, hB, hc, hm⟩ := id h
  obtain ⟨x1, x2⟩ := id hx
  obtain ⟨t1, t2⟩ := id ht
  have b9 := bT_n hI.1
  have b0 := hI.1.1
  by_cases g : 0 ≤ a ∧ a < T 9
  · have fa : ((a.toNat : Nat) : Int) = a := by omega
    have hs : ((a.toNat : Nat) : Int) < T 9 := by omega
    have cn := bT_con hI.1 hs
    have ef := Laws_fits_s hI hs hx
    rw [fa] at ef
    have rt := sTime_rng (T := T) (lev := lev) a.toNat t k
    have mdl : ∀ S', iT S' T lev → M_inWay a x t k S' = Option.bind (M_earlyLaw a x t k S') (fun q2999 => qk (qRb q2999.1) (if q2999.1 ≤ 0 then (qk (qIx a 14) (qk (qIx a 14) (qk (qIx a 14) (Option.bind (M_lay a x t k q2999.2) (fun q3005 => Option.bind (M_waysOf a q3005) (fun q3007 => Option.bind (M_lay a (q2999.2 78 (Int.toNat a)) (q2999.2 79 (Int.toNat a)) (q2999.2 80 (Int.toNat a)) q3007.2) (fun q3009 => some (q3007.1, q3009)))))))) else some (0, q2999.2))) := fun S' hI' => by
      simp (disch := omega) only [M_inWay, M_isShip_s hI' ha, ob_some, ite01_r, ite01_e, qk_r]
      rw [if_pos g]
    have cls : C_inWay a x t k S = Option.bind (Laws_fits a x S) (fun q908 => qk (qRb q908.1) (if q908.1 = 0 then some (0, q908.2) else (Option.bind (Laws_ofTime a t k q908.2) (fun q911 => qk (qRb q911.1) (if q911.1 = 0 then (Option.bind (C_inWay_L44 qF a x t 0 0 q911.2) (fun q920 => some (q920.1, q920.2))) else some (0, q911.2)))))) := by
      simp only [C_inWay, C_isShip_s hI ha, ob_some, ite01_r, ite01_e]
      rw [if_pos g]
    rw [cls, ef]
    simp only [ob_some, ite01_m, ite01_n]
    by_cases gf : x < 0 ∨ T 0 < x + sCon T a.toNat 0
    · rw [if_pos gf]
      refine ⟨0, S, S, rfl, ?_, fC_rfl, fM_rfl, h⟩
      have ee := M_earlyLaw_s hI hs (x := x) (t := t) (k := k) (by omega) (by omega) hk
      rw [fa] at ee
      have e1 : sEarly T lev a.toNat x t k = 1 := by unfold sEarly; rw [if_pos gf]
      rw [mdl S hI, ee, e1]
      rfl
    · rw [if_neg gf]
      obtain ⟨S1, u1, u2, u3⟩ := Laws_ofTime_s hI hs ht hk
      rw [fa] at u1
      have hI1 : iT S1 T lev := iT_off hI (fun c hc => u2 c (by omega))
      have hc1 : cY S1 T lev Y := cY_off hc (fun c hc => u2 c (by omega))
      have f1 := fL_C (fO8_L u2)
      have hm1 := fC_mY hm f1
      have ee := M_earlyLaw_s hI1 hs (x := x) (t := t) (k := k) (by omega) (by omega) hk
      rw [fa] at ee
      have e1 : sEarly T lev a.toNat x t k = sTime T lev a.toNat t k := by unfold sEarly; rw [if_neg gf]
      rw [e1] at ee
      rw [u1]
      simp only [ob_some]
      rw [qk_r (by omega) (by omega)]
      by_cases g2 : sTime T lev a.toNat t k = 0
      · have hok : okS T lev a.toNat x t k := (sEarly_ok (T := T) (lev := lev) (by rw [e1]; exact g2)).1
        have b := okS_b hI.1 hs hok
        obtain ⟨-, e85⟩ := u3 g2
        have lp := C_inWay_L hI1 hB hc1 hs (x := x) (t := t) (l := sLeave T lev a.toNat t k) (by omega) (by omega) (by omega) e85 (T 9).toNat qF 0 (by omega) (by unfold qF; omega)
        rw [fa] at lp
        have lp' : C_inWay_L44 qF a x t 0 0 S1 = _ := lp
        rw [if_pos g2, lp']
        obtain ⟨S2, v1, v2, v3⟩ := M_lay_s hI1 hm1 hs (x := x) (t := t) (k := k) (Or.inr hok)
        have hI2 : iT S2 T lev := iT_off hI1 (fun c hc => v3 c (by omega))
        have hbp : bY T lev (yP Y a.toNat x t k) := bY_put hI.1 hB hs (Or.inr hok)
        have ew := M_waysOf_s hI2 hs (x := x) (t := t) (k := k) (by omega) hbp v2
        have p6 := hm1.1 a.toNat (by omega)
        have g78 := hm1.2.2.1 a.toNat (by omega)
        have g79 := hm1.2.2.2.1 a.toNat (by omega)
        have back : ∃ S3, M_lay ((a.toNat : Nat) : Int) (S1 78 a.toNat) (S1 79 a.toNat) (S1 80 a.toNat) S2 = some S3 ∧ mY S3 T lev Y ∧ ∀ c, ¬ (78 ≤ c ∧ c ≤ 82) → S3 c = S2 c := by
          rw [p6]
          rcases Int.lt_or_le 0 (Y.2.2 a.toNat) with q | q
          · obtain ⟨e1, e2, -⟩ := hm1.2.1 a.toNat hs q
            rw [e1, e2]
            obtain ⟨S3, w1, w2, w3⟩ := M_lay_w hI2 v2 hs (Or.inr (bY_ok hB hs q))
            rw [yP_yP, yP_self] at w2
            exact ⟨S3, w1, w2, w3⟩
          · have q0 : Y.2.2 a.toNat = 0 := by have := (hB.1 a.toNat).1; omega
            rw [q0]
            obtain ⟨S3, w1, w2, w3⟩ := M_lay_s hI2 v2 hs (x := S1 78 a.toNat) (t := S1 79 a.toNat) (k := 0) (Or.inl ⟨rfl, g78, g79⟩)
            rw [yP_yP] at w2
            exact ⟨S3, w1, mY_cong (yE_0 q0) w2, w3⟩
        obtain ⟨S3, w1, w2, w3⟩ := back
        have f2 : fM S1 S3 := ⟨fun c hc => by rw [w3 c (by omega), v3 c (by omega)], fun i _ _ => by rw [w3 70 (by omega), v3 70 (by omega)]⟩
        rw [fa] at v1 ew w1
        refine ⟨_, S1, S3, rfl, ?_, f1, f2, iA_q h f1 hc1 f2 w2⟩
        rw [mdl S1 hI1, ee]
        simp (disch := omega) only [ob_some, qk_r, qk_ix, g2, if_pos (Int.le_refl (0 : Int))]
        rw [v1]
        simp only [ob_some]
        rw [ew]
        simp only [ob_some]
        rw [w1]
        rfl
      · rw [if_neg g2]
        refine ⟨0, S1, S1, rfl, ?_, f1, fM_rfl, iA_q h f1 hc1 fM_rfl hm1⟩
        rw [mdl S1 hI1, ee]
        simp (disch := omega) only [ob_some, qk_r, if_neg (show ¬ sTime T lev a.toNat t k ≤ 0 by omega)]
  · refine ⟨-1, S, S, ?_, ?_, fC_rfl, fM_rfl, h⟩
    · simp only [C_inWay, C_isShip_s hI ha, ob_some, ite01_r, ite01_e]
      rw [if_neg g]
    · simp only [M_inWay, M_isShip_s hI ha, ob_some, ite01_r, ite01_e]
      rw [if_neg g]
/-- the class' and the reference's laws, as steps of a loop -/
theorem stepC {s : Nat} (hs : (s : Int) < T 9) (hB : bY T lev Y) {S : qSto} (hI : iT S T lev) (hc : cY S T lev (yX Y s)) {x t k : Int} (hx : qR x) (ht : qR t) (hk : qR k) : ∃ S', Laws_firstBroken (s : Int) x t k S = some (sLaw T lev (yX Y s) s x t k, S') ∧ iT S' T lev ∧ cY S' T lev (yX Y s) ∧ fL S S' := by
  obtain ⟨S', v1, v2, v3⟩ := firstBroken_s hI (bY_put hI.1 hB hs (Or.inl rfl)) hc hs x_0 hx ht hk
  exact ⟨S', v1, fC_iT hI (fL_C v3), v2, v3⟩
theorem stepM {s : Nat} (hs : (s : Int) < T 9) (hB : bY T lev Y) (hw : wP T lev Y) {S : qSto} (hI : iT S T lev) (hm : mY S T lev Y) {x t k : Int} (hx : qR x) (ht : qR t) (hk : qR k) : ∃ S', M_lawOf (s : Int) x t k S = some (sLaw T lev (yX Y s) s x t k, S') ∧ iT S' T lev ∧ mY S' T lev Y ∧ fM S S' := by
  obtain ⟨x1, x2⟩ := id hx
  obtain ⟨t1, t2⟩ := id ht
  obtain ⟨S', v1, v2, v3⟩ := M_lawOf_s hI hB hm hw hs (x := x) (t := t) (k := k) (by omega) (by omega) hk
  exact ⟨S', v1, fM_iT hI v3, v2, v3⟩
theorem slack_L {s : Nat} (hs : (s : Int) < T 9) (hB : bY T lev Y) (hw : wP T lev Y) (hT : bT T) (hk : 0 < Y.2.2 s) : ∀ (j n : Nat) (t : Int), t = Y.2.1 s + j → t ≤ 335 → j < n → ∃ r, Y.2.1 s ≤ r ∧ r ≤ 335 ∧ (∀ S, iT S T lev → cY S T lev (yX Y s) → ∃ S', C_slack_L68 n (s : Int) (Y.1 s) (Y.2.1 s) (Y.2.2 s) t S = some (r, S') ∧ cY S' T lev (yX Y s) ∧ fL S S') ∧ (∀ S, iT S T lev → mY S T lev Y → ∃ S', M_slack_L25 n (s : Int) t S = some (if r = Y.2.1 s then .inl S' else .inr (r - Y.2.1 s, S')) ∧ mY S' T lev Y ∧ fM S S')
  | 0, n + 1, t, e, h1, _ => by
    have o := bY_one hT hB hs hk
    have b9 := bT_n hT
    refine ⟨t, by omega, by omega, fun S hI hc => ?_, fun S hI hm => ?_⟩
    · refine ⟨S, ?_, hc, fL_rfl⟩
      rw [C_slack_L68]
      simp (disch := omega) only [qk_r, if_pos (show t ≤ Y.2.1 s by omega)]
    · obtain ⟨p1, p2, -⟩ := hm.2.1 s hs hk
      refine ⟨S, ?_, hm, fM_rfl⟩
      rw [if_pos (by omega), M_slack_L25]
      simp (disch := omega) only [qk_r, qk_ix, Int.toNat_natCast, p2, if_pos (show t ≤ Y.2.1 s by omega)]
  | j + 1, n + 1, t, e, h1, hn => by
    have o := bY_one hT hB hs hk
    have b9 := bT_n hT
    have ft : t + -1 = Y.2.1 s + (j : Int) := by omega
    have lr := sLaw_rng (T := T) (lev := lev) (Y := yX Y s) s (Y.1 s) t (Y.2.2 s)
    by_cases g : sLaw T lev (yX Y s) s (Y.1 s) t (Y.2.2 s) = 0
    · refine ⟨t, by omega, by omega, fun S hI hc => ?_, fun S hI hm => ?_⟩
      · obtain ⟨S', v1, v2, v3, v4⟩ := stepC hs hB hI hc (x := Y.1 s) (t := t) (k := Y.2.2 s) ⟨by omega, by omega⟩ ⟨by omega, by omega⟩ ⟨by omega, by omega⟩
        refine ⟨S', ?_, v3, v4⟩
        rw [C_slack_L68, qk_r (by omega) (by omega), qk_r (by omega) (by omega), if_neg (show ¬ t ≤ Y.2.1 s by omega), v1]
        simp only [ob_some]
        rw [g]
        rfl
      · obtain ⟨p1, p2, -⟩ := hm.2.1 s hs hk
        have p3 := hm.1 s (by omega)
        obtain ⟨S', v1, v2, v3, v4⟩ := stepM hs hB hw hI hm (x := Y.1 s) (t := t) (k := Y.2.2 s) ⟨by omega, by omega⟩ ⟨by omega, by omega⟩ ⟨by omega, by omega⟩
        obtain ⟨q1, q2, -⟩ := v3.2.1 s hs hk
        refine ⟨S', ?_, v3, v4⟩
        rw [if_neg (by omega), M_slack_L25]
        simp (disch := omega) only [qk_r, qk_ix, Int.toNat_natCast, p1, p2, p3, if_neg (show ¬ t ≤ Y.2.1 s by omega)]
        rw [v1]
        simp only [ob_some]
        rw [g, q2]
        rfl
    · obtain ⟨r, r1, r2, r3, r4⟩ := slack_L hs hB hw hT hk j n (t + -1) ft (by omega) (by omega)
      refine ⟨r, r1, r2, fun S hI hc => ?_, fun S hI hm => ?_⟩
      · obtain ⟨S', v1, v2, v3, v4⟩ := stepC hs hB hI hc (x := Y.1 s) (t := t) (k := Y.2.2 s) ⟨by omega, by omega⟩ ⟨by omega, by omega⟩ ⟨by omega, by omega⟩
        obtain ⟨S2, z1, z2, z3⟩ := r3 S' v2 v3
        refine ⟨S2, ?_, z2, fL_tr v4 z3⟩
        rw [C_slack_L68, qk_r (by omega) (by omega), qk_r (by omega) (by omega), if_neg (show ¬ t ≤ Y.2.1 s by omega), v1]
        simp only [ob_some]
        rw [qk_r (by omega) (by omega), if_neg g]
        exact z1
      · obtain ⟨p1, p2, -⟩ := hm.2.1 s hs hk
        have p3 := hm.1 s (by omega)
        obtain ⟨S', v1, v2, v3, v4⟩ := stepM hs hB hw hI hm (x := Y.1 s) (t := t) (k := Y.2.2 s) ⟨by omega, by omega⟩ ⟨by omega, by omega⟩ ⟨by omega, by omega⟩
        obtain ⟨S2, z1, z2, z3⟩ := r4 S' v2 v3
        refine ⟨S2, ?_, z2, fM_tr v4 z3⟩
        rw [M_slack_L25]
        simp (disch := omega) only [qk_r, qk_ix, Int.toNat_natCast, p1, p2, p3, if_neg (show ¬ t ≤ Y.2.1 s by omega)]
        rw [v1]
        simp only [ob_some]
        rw [qk_r (by omega) (by omega), if_neg g]
        exact z1
theorem p_slack {S : qSto} (h : iA S T lev Y) (hw : wY T lev Y) {a : Int} (ha : qR a) : ∃ r S1 S2, C_slack a S = some (r, S1) ∧ M_slack a S1 = some (r, S2) ∧ fC S S1 ∧ fM S1 S2 ∧ iA S2 T lev Y := by
  obtain ⟨hI, hB, hc, hm⟩ := id h
  have b9 := bT_n hI.1
  by_cases g : 0 ≤ a ∧ a < T 9
  · have fa : ((a.toNat : Nat) : Int) = a := by omega
    have hs : ((a.toNat : Nat) : Int) < T 9 := by omega
    have eh := Stays_has_s hB hc hI.1 (s := a.toNat) (by omega)
    rw [fa] at eh
    by_cases gk : 0 < Y.2.2 a.toNat
    · have o := bY_one hI.1 hB hs gk
      obtain ⟨p1, -, p3, -⟩ := hc.2.1 a.toNat hs gk
      have p4 := hc.1 a.toNat (by omega)
      obtain ⟨S1, u1, u2, u3, u4⟩ := upBack hI hB hc hs
      obtain ⟨r, r1, r2, r3, r4⟩ := slack_L hs hB hw.1 hI.1 gk (335 - Y.2.1 a.toNat).toNat qF 335 (by omega) (by omega) (by unfold qF; omega)
      obtain ⟨S2, v1, v2, v3⟩ := r3 S1 u2 u3
      obtain ⟨S3, w1, w2, w3⟩ := u4 S2 v2 v3
      have hm3 := fC_mY hm w3
      have hI3 := fC_iT hI w3
      obtain ⟨S4, y1, y2, y3⟩ := r4 S3 hI3 hm3
      have em := M_stays_s hB hm3 hI.1 (s := a.toNat) (by omega)
      rw [fa] at u1 v1 w1 y1 em
      refine ⟨r - Y.2.1 a.toNat, S3, S4, ?_, ?_, w3, y3, iA_q h w3 w2 y3 y2⟩
      · simp (disch := omega) only [C_slack, C_isShip_s hI ha, ob_some, ite01_r, ite01_e, eh, qk_ix]
        rw [if_pos g, if_pos gk, p1, p3, p4, u1]
        simp only [ob_some]
        rw [v1]
        simp only [ob_some]
        rw [w1]
        rfl
      · simp (disch := omega) only [M_slack, M_isShip_s hI3 ha, ob_some, ite01_r, ite01_e, em]
        rw [if_pos g, if_pos gk, y1]
        by_cases q : r = Y.2.1 a.toNat
        · rw [if_pos q, q, Int.sub_self]
          rfl
        · rw [if_neg q]
          rfl
    · refine ⟨-2, S, S, ?_, ?_, fC_rfl, fM_rfl, h⟩
      · simp only [C_slack, C_isShip_s hI ha, ob_some, ite01_r, ite01_e, eh]
        rw [if_pos g, if_neg gk]
      · have em := M_stays_s hB hm hI.1 (s := a.toNat) (by omega)
        rw [fa] at em
        simp only [M_slack, M_isShip_s hI ha, ob_some, ite01_r, ite01_e, em]
        rw [if_pos g, if_neg gk]
  · refine ⟨-1, S, S, ?_, ?_, fC_rfl, fM_rfl, h⟩
    · simp only [C_slack, C_isShip_s hI ha, ob_some, ite01_r, ite01_e]
      rw [if_neg g]
    · simp only [M_slack, M_isShip_s hI ha, ob_some, ite01_r, ite01_e]
      rw [if_neg g]
theorem sLaw_fit {s : Nat} {x t k : Int} (h : sLaw T lev Y s x t k = 0) : 0 ≤ x ∧ x + sCon T s 0 ≤ T 0 := (sLaw_ok h).1.2.1
theorem along_L {s : Nat} (hs : (s : Int) < T 9) (hB : bY T lev Y) (hw : wP T lev Y) (hT : bT T) (hk : 0 < Y.2.2 s) {d : Int} (hd : d = -1 ∨ d = 1) : ∀ (j n n2 : Nat) (x f : Int), (d = 1 → T 0 - x ≤ j) → (d = -1 → x + 1 ≤ j) → 0 ≤ x → x < T 0 → 0 ≤ f → f + j ≤ T 0 → j < n → j < n2 → ∃ r, (∀ S, iT S T lev → cY S T lev (yX Y s) → ∃ S', C_along_L87 n (s : Int) x (Y.2.1 s) (Y.2.2 s) d f S = some (r, S') ∧ cY S' T lev (yX Y s) ∧ fL S S') ∧ (∀ S, iT S T lev → mY S T lev Y → ∃ S', M_along_L49 n2 (s : Int) d x S = some (r, S') ∧ mY S' T lev Y ∧ fM S S')
  | 0, n, n2, x, f, h1, h2, h3, h4, _, _, _, _ => by
    rcases hd with q | q
    · have := h2 q
      omega
    · have := h1 q
      omega
  | j + 1, n + 1, n2 + 1, x, f, h1, h2, h3, h4, h5, h6, hn, hn2 => by
    have o := bY_one hT hB hs hk
    have b9 := bT_n hT
    have b0 := hT.1
    have cn := bT_con hT hs
    have lr := sLaw_rng (T := T) (lev := lev) (Y := yX Y s) s (x + d) (Y.2.1 s) (Y.2.2 s)
    by_cases g : sLaw T lev (yX Y s) s (x + d) (Y.2.1 s) (Y.2.2 s) = 0
    · have ft := sLaw_fit g
      obtain ⟨r, r3, r4⟩ := along_L hs hB hw hT hk hd j n n2 (x + d) (f + 1) (fun q => by have := h1 q; omega) (fun q => by have := h2 q; omega) (by omega) (by omega) (by omega) (by omega) (by omega) (by omega)
      refine ⟨r, fun S hI hc => ?_, fun S hI hm => ?_⟩
      · have e0 := hI.2.1.1 0 (by omega)
        obtain ⟨S', v1, v2, v3, v4⟩ := stepC hs hB hI hc (x := x + d) (t := Y.2.1 s) (k := Y.2.2 s) ⟨by omega, by omega⟩ ⟨by omega, by omega⟩ ⟨by omega, by omega⟩
        obtain ⟨S2, z1, z2, z3⟩ := r3 S' v2 v3
        refine ⟨S2, ?_, z2, fL_tr v4 z3⟩
        rw [C_along_L87, e0, qk_r (by omega) (by omega), qk_r (by omega) (by omega), if_neg (show ¬ T 0 ≤ f by omega), v1]
        simp only [ob_some]
        rw [qk_r (by omega) (by omega), if_pos g]
        exact z1
      · obtain ⟨p1, p2, -⟩ := hm.2.1 s hs hk
        have p3 := hm.1 s (by omega)
        obtain ⟨S', v1, v2, v3, v4⟩ := stepM hs hB hw hI hm (x := x + d) (t := Y.2.1 s) (k := Y.2.2 s) ⟨by omega, by omega⟩ ⟨by omega, by omega⟩ ⟨by omega, by omega⟩
        obtain ⟨S2, z1, z2, z3⟩ := r4 S' v2 v3
        refine ⟨S2, ?_, z2, fM_tr v4 z3⟩
        rw [M_along_L49]
        simp (disch := omega) only [qk_r, qk_ix, Int.toNat_natCast, p2, p3]
        rw [v1]
        simp only [ob_some]
        rw [qk_r (by omega) (by omega), if_pos g]
        exact z1
    · refine ⟨x, fun S hI hc => ?_, fun S hI hm => ?_⟩
      · have e0 := hI.2.1.1 0 (by omega)
        obtain ⟨S', v1, v2, v3, v4⟩ := stepC hs hB hI hc (x := x + d) (t := Y.2.1 s) (k := Y.2.2 s) ⟨by omega, by omega⟩ ⟨by omega, by omega⟩ ⟨by omega, by omega⟩
        refine ⟨S', ?_, v3, v4⟩
        rw [C_along_L87, e0, qk_r (by omega) (by omega), qk_r (by omega) (by omega), if_neg (show ¬ T 0 ≤ f by omega), v1]
        simp only [ob_some]
        rw [qk_r (by omega) (by omega), if_neg g]
      · obtain ⟨p1, p2, -⟩ := hm.2.1 s hs hk
        have p3 := hm.1 s (by omega)
        obtain ⟨S', v1, v2, v3, v4⟩ := stepM hs hB hw hI hm (x := x + d) (t := Y.2.1 s) (k := Y.2.2 s) ⟨by omega, by omega⟩ ⟨by omega, by omega⟩ ⟨by omega, by omega⟩
        refine ⟨S', ?_, v3, v4⟩
        rw [M_along_L49]
        simp (disch := omega) only [qk_r, qk_ix, Int.toNat_natCast, p2, p3]
        rw [v1]
        simp only [ob_some]
        rw [qk_r (by omega) (by omega), if_neg g]
theorem p_along {S : qSto} (h : iA S T lev Y) (hw : wY T lev Y) {a b : Int} (ha : qR a) (hb : qR b) : ∃ r S1 S2, C_along a b S = some (r, S1) ∧ M_along a b S1 = some (r, S2) ∧ fC S S1 ∧ fM S1 S2 ∧ iA S2 T lev Y := by
  obtain ⟨hI, hB, hc, hm⟩ := id h
  obtain ⟨n1, n2⟩ := id hb
  have b9 := bT_n hI.1
  by_cases g : 0 ≤ a ∧ a < T 9
  · have fa : ((a.toNat : Nat) : Int) = a := by omega
    have hs : ((a.toNat : Nat) : Int) < T 9 := by omega
    have eh := Stays_has_s hB hc hI.1 (s := a.toNat) (by omega)
    rw [fa] at eh
    by_cases gb : 0 ≤ b ∧ b ≤ 1
    · by_cases gk : 0 < Y.2.2 a.toNat
      · have o := bY_one hI.1 hB hs gk
        have okf := hw.2.2 a.toNat (by unfold sN; omega) gk
        have cn := bT_con hI.1 hs
        obtain ⟨p1, -, p3, -⟩ := hc.2.1 a.toNat hs gk
        have p4 := hc.1 a.toNat (by omega)
        obtain ⟨S1, u1, u2, u3, u4⟩ := upBack hI hB hc hs
        have key : ∀ d : Int, (if b = 0 then (-1 : Int) else 1) = d → ∃ r S1 S2, C_along a b S = some (r, S1) ∧ M_along a b S1 = some (r, S2) ∧ fC S S1 ∧ fM S1 S2 ∧ iA S2 T lev Y := by
          intro d ed
          have hd : d = -1 ∨ d = 1 := by
            rw [← ed]
            split <;> omega
          obtain ⟨r, r3, r4⟩ := along_L hs hB hw.1 hI.1 gk hd (T 0).toNat qF qF (Y.1 a.toNat) 0 (fun _ => by omega) (fun _ => by omega) (by omega) (by omega) (by omega) (by omega) (by have := hI.1.1; unfold qF; omega) (by have := hI.1.1; unfold qF; omega)
          obtain ⟨S2, v1, v2, v3⟩ := r3 S1 u2 u3
          obtain ⟨S3, w1, w2, w3⟩ := u4 S2 v2 v3
          have hm3 := fC_mY hm w3
          have hI3 := fC_iT hI w3
          obtain ⟨q1, -⟩ := hm3.2.1 a.toNat hs gk
          obtain ⟨S4, y1, y2, y3⟩ := r4 S3 hI3 hm3
          have em := M_stays_s hB hm3 hI.1 (s := a.toNat) (by omega)
          rw [fa] at v1 w1 y1 em
          have u1' := u1
          rw [fa] at u1'
          have eb : (if b = 0 then some (-1 : Int) else some 1) = some d := by
            rw [← ed]
            split <;> rfl
          refine ⟨r, S3, S4, ?_, ?_, w3, y3, iA_q h w3 w2 y3 y2⟩
          · simp (disch := omega) only [C_along, C_isShip_s hI ha, ob_some, ite01_r, ite01_e, eh, qk_ix, qk_r]
            rw [if_pos g, if_neg (show ¬ b < 0 by omega), if_pos (show b ≤ 1 by omega), if_pos gk, p1, p3, p4, eb]
            simp only [ob_some]
            rw [u1']
            simp only [ob_some]
            rw [v1]
            simp only [ob_some]
            rw [w1]
            rfl
          · simp (disch := omega) only [M_along, M_isShip_s hI3 ha, ob_some, ite01_r, ite01_e, em, qk_r, qk_ix]
            rw [if_pos g, M_in_s ⟨by omega, by omega⟩ ⟨by omega, by omega⟩ ⟨by omega, by omega⟩]
            simp only [ob_some, ite01_r, ite01_e]
            rw [if_pos gb, em]
            simp only [ob_some, ite01_r, ite01_e]
            rw [if_pos gk, eb]
            simp only [ob_some]
            rw [q1, y1]
            rfl
        exact key _ rfl
      · refine ⟨-2, S, S, ?_, ?_, fC_rfl, fM_rfl, h⟩
        · simp (disch := omega) only [C_along, C_isShip_s hI ha, ob_some, ite01_r, ite01_e, eh, qk_r]
          rw [if_pos g, if_neg (show ¬ b < 0 by omega), if_pos (show b ≤ 1 by omega), if_neg gk]
        · have em := M_stays_s hB hm hI.1 (s := a.toNat) (by omega)
          rw [fa] at em
          simp (disch := omega) only [M_along, M_isShip_s hI ha, ob_some, ite01_r, ite01_e, qk_r]
          rw [if_pos g, M_in_s ⟨by omega, by omega⟩ ⟨by omega, by omega⟩ ⟨by omega, by omega⟩]
          simp only [ob_some, ite01_r, ite01_e]
          rw [if_pos gb, em]
          simp only [ob_some, ite01_r, ite01_e]
          rw [if_neg gk]
    · refine ⟨-1, S, S, ?_, ?_, fC_rfl, fM_rfl, h⟩
      · simp (disch := omega) only [C_along, C_isShip_s hI ha, ob_some, ite01_r, ite01_e, qk_r]
        rw [if_pos g]
        by_cases q : b < 0
        · rw [if_pos q]
        · rw [if_neg q, if_neg (show ¬ b ≤ 1 by omega)]
      · simp (disch := omega) only [M_along, M_isShip_s hI ha, ob_some, ite01_r, ite01_e, qk_r]
        rw [if_pos g, M_in_s ⟨by omega, by omega⟩ ⟨by omega, by omega⟩ ⟨by omega, by omega⟩]
        simp only [ob_some, ite01_r, ite01_e]
        rw [if_neg gb]
  · refine ⟨-1, S, S, ?_, ?_, fC_rfl, fM_rfl, h⟩
    · simp only [C_along, C_isShip_s hI ha, ob_some, ite01_r, ite01_e]
      rw [if_neg g]
    · simp only [M_along, M_isShip_s hI ha, ob_some, ite01_r, ite01_e]
      rw [if_neg g]
end PB
