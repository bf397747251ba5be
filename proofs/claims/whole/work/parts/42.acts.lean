/-! acts -/
section PAC
variable {T lev : Nat → Int} {Y : qY}
theorem actC {S Sb : qSto} {o m : Nat} {Y' : qY} (ha : hA S T lev o m) (f : fS S Sb) (g : gR (Sb 14) Y) (c : cY Sb T lev Y') : ∃ S1, C_keepAct Sb = some S1 ∧ fA S S1 ∧ kC o m S S1 Y ∧ cY S1 T lev Y' ∧ ∀ c, 37 ≤ c ∧ c ≤ 43 → S1 c = Sb c := by
  obtain ⟨S1, t1, t2, t3, t4⟩ := keptC ha (fun c hc => f c (by omega)) g
  exact ⟨S1, t1, t2, t3, cY_off c (fun c hc => t4 c (by omega)), fun c hc => t4 c (by omega)⟩
theorem putsM {S : qSto} (hB : bY T lev Y) (hT : bT T) (hm : mY S T lev Y) : ∃ S', M_puts 16 S = some S' ∧ fT S S' ∧ gR (mR S' 16) Y ∧ mY S' T lev Y ∧ ∀ c, c ≠ 85 → S' c = S c := by
  obtain ⟨S', t1, t2, t3, t4⟩ := puts_s (S := S) (r := 16) (by omega) hB hT hm
  exact ⟨S', t1, puts_T (by omega) t2 t4, t3, mY_off hm (fun c hc => t2 c (by omega)), t2⟩
theorem actM {S S5 : qSto} {m : Nat} {Y' : qY} (hm : m ≤ 12) (e : S 70 31 = m) (f : fT S S5) (g : gR (mR S5 16) Y) (c : mY S5 T lev Y') : ∃ S6, M_keeps S5 = some S6 ∧ fB S S6 ∧ kM m S S6 Y ∧ mY S6 T lev Y' ∧ ∀ c, c ≠ 70 → c ≠ 85 → S6 c = S5 c := by
  obtain ⟨S6, t1, t2, t3, t4, -⟩ := keptM hm e f g
  exact ⟨S6, t1, t2, t3, mY_off c (fun c hc => t4 c (by omega) (by omega)), t4⟩
theorem fM_16 {S S' : qSto} (h : fM S S') (g : gR (mR S 16) Y) : gR (mR S' 16) Y := gR_cong g (fun i _ => by show S' 85 _ = S 85 _; rw [h.1 85 (by omega)])
theorem fZ_16 {S S' : qSto} (h : ∀ c, ¬ (78 ≤ c ∧ c ≤ 82) → S' c = S c) (g : gR (mR S 16) Y) : gR (mR S' 16) Y := gR_cong g (fun i _ => by show S' 85 _ = S 85 _; rw [h 85 (by omega)])
theorem fA_31 {S S1 : qSto} (f : fA S S1) : S1 70 31 = S 70 31 := by rw [f 70 (by omega)]
theorem law_x (hT : bT T) (hB : bY T lev Y) {s : Nat} (hs : (s : Int) < T 9) (h0 : Y.2.2 s = 0) {x t k : Int} : sLaw T lev (yX Y s) s x t k = sLaw T lev Y s x t k := law_E hT hs (yE_symm (yE_x h0)) (fun s => (hB.1 s).1)
theorem qR_w {x : Int} (h : qR x) : -1000000000000 ≤ x ∧ x ≤ 1000000000000 := by
  obtain ⟨a, b⟩ := h
  omega
theorem no_ship {S : qSto} (h : iT S T lev) {a : Int} (ha : qR a) (g : ¬ (0 ≤ a ∧ a < T 9)) : C_isShip a S = some (0, S) ∧ M_isShip a S = some (0, S) := by
  rw [C_isShip_s h ha, M_isShip_s h ha, if_neg g]
  exact ⟨rfl, rfl⟩
theorem is_ship {S : qSto} (h : iT S T lev) {a : Int} (ha : qR a) (g : 0 ≤ a ∧ a < T 9) : C_isShip a S = some (1, S) ∧ M_isShip a S = some (1, S) := by
  rw [C_isShip_s h ha, M_isShip_s h ha, if_pos g]
  exact ⟨rfl, rfl⟩
theorem g_put {a x t k : Int} (ha : qR a) (hx : qR x) (ht : qR t) (hk : qR k) : gOK (C_put a x t k) (M_put a x t k) := fun S h => by
  obtain ⟨T, lev, Y, hA', hw, ⟨o, m, hH⟩, hK, hR, hF⟩ := id h
  obtain ⟨hI, hB, hc, hm⟩ := id hA'
  obtain ⟨x1, x2⟩ := id hx
  obtain ⟨t1, t2⟩ := id ht
  have b9 := bT_n hI.1
  by_cases g : 0 ≤ a ∧ a < T 9
  · obtain ⟨s, rfl⟩ : ∃ s : Nat, a = s := ⟨a.toNat, by omega⟩
    have hs : (s : Int) < T 9 := g.2
    have iC := (is_ship hI ha g).1
    by_cases g1 : 0 < Y.2.2 s
    · refine ⟨-1, S, S, ?_, ?_, h⟩
      · rw [C_put, iC]
        simp only [ob_some]
        rw [qk_r (by omega) (by omega), if_neg (by omega), Stays_has_s hB hc hI.1 (s := s) (by omega), if_pos g1]
        rfl
      · rw [M_put, (is_ship hI ha g).2]
        simp only [ob_some]
        rw [qk_r (by omega) (by omega), if_neg (by omega), M_stays_s hB hm hI.1 (s := s) (by omega), if_pos g1]
        rfl
    · have h0 : Y.2.2 s = 0 := by
        have := (hB.1 s).1
        omega
      obtain ⟨Sf, f1, f2, f3⟩ := firstBroken_s hI hB hc hs h0 hx ht hk
      have lr := sLaw_rng (T := T) (lev := lev) (Y := Y) s x t k
      have cl : C_put (s : Int) x t k S = (if sLaw T lev Y s x t k = 0 then (Option.bind (Stays_save_14 Sf) (fun q1030 => Option.bind (Stays_lay (s : Int) x t k q1030) (fun q1032 => Option.bind (C_keepAct q1032) (fun q1041 => qk (qIx (s : Int) 14) (some (q1041 42 (Int.toNat (s : Int)), q1041)))))) else some ((-1) - sLaw T lev Y s x t k, Sf)) := by
        rw [C_put, iC]
        simp only [ob_some]
        rw [qk_r (by omega) (by omega), if_neg (by omega), Stays_has_s hB hc hI.1 (s := s) (by omega), if_neg g1]
        simp only [ob_some]
        rw [qk_r (by omega) (by omega), if_pos trivial, f1]
        simp only [ob_some]
        rw [qk_r (by omega) (by omega)]
        rfl
      have fSf := fC_S (fL_C f3)
      have mdl : ∀ S1, iT S1 T lev → mY S1 T lev Y → ∃ S3, mY S3 T lev Y ∧ fM S1 S3 ∧ M_put (s : Int) x t k S1 = (if sLaw T lev Y s x t k ≤ 0 then (Option.bind (M_puts 16 S3) (fun q3119 => Option.bind (M_keeps q3119) (fun q3135 => Option.bind (M_lay (s : Int) x t k q3135) (fun q3137 => qk (qIx (s : Int) 14) (some (q3137 82 (Int.toNat (s : Int)), q3137)))))) else some ((-1) - sLaw T lev Y s x t k, S3)) := fun S1 hI1 hm1 => by
        obtain ⟨S3, l1, l2, l3⟩ := M_lawOf_s hI1 hB hm1 hw.1 hs (qR_w hx) (qR_w ht) hk
        rw [law_x hI.1 hB hs h0] at l1
        refine ⟨S3, l2, l3, ?_⟩
        rw [M_put, (is_ship hI1 ha g).2]
        simp only [ob_some]
        rw [qk_r (by omega) (by omega), if_neg (by omega), M_stays_s hB hm1 hI.1 (s := s) (by omega), if_neg g1]
        simp only [ob_some]
        rw [qk_r (by omega) (by omega), if_pos trivial, qk_r x1 x2, qk_r t1 t2, l1]
        simp only [ob_some]
        rw [qk_r (by omega) (by omega)]
      by_cases gl : sLaw T lev Y s x t k = 0
      · obtain ⟨ok, -, -, n7, -, n9⟩ := sLaw_ok gl
        have ob := okS_b hI.1 hs ok
        obtain ⟨Sa, v1, v2, v3⟩ := save_14_s (S := Sf) hB hI.1 f2
        have hIa : iT Sa T lev := fS_iT hI (fS_tr fSf (fO14_S v2))
        obtain ⟨Sb, w1, w2, w3⟩ := Stays_lay_s hIa (cY_off f2 (fun c hc => v2 c (by omega))) hs h0 ok
        obtain ⟨S1, y1, y2, y3, y4, y5⟩ := actC hH (fS_tr (fS_tr fSf (fO14_S v2)) (fY_S w3)) (by rw [w3 14 (by omega)]; exact v3) w2
        have e42 : S1 42 s = sLeave T lev s t k := by
          have := (y4.2.1 s hs (by show 0 < (if s = s then k else Y.2.2 s); rw [if_pos rfl]; omega)).2.2.2.2
          simpa using this
        have hI1 := fA_iT hI y2
        obtain ⟨S3, m3, n3, md⟩ := mdl S1 hI1 (fA_mY hm y2)
        obtain ⟨S4, p1, p2, p3, p4, -⟩ := putsM hB hI.1 m3
        obtain ⟨S5, q1, q2, q3, q4, q5⟩ := actM hH.2.1 ((fA_31 y2).trans hH.2.2.2.2.1) (fT_tr (fM_T n3) p2) p3 p4
        obtain ⟨S6, r1, r2, r3⟩ := M_lay_s (fB_iT hI1 q2) q4 hs (Or.inr ok)
        have e82 : S6 82 s = sLeave T lev s t k := by
          have := (r2.2.1 s hs (by show 0 < (if s = s then k else Y.2.2 s); rw [if_pos rfl]; omega)).2.2.2
          simpa using this
        refine ⟨sLeave T lev s t k, S1, S6, ?_, ?_, act_iG hA' hw hH hK hR y2 y3 y4 (fB_tr q2 (fT_B (fZ_T r3))) (kM_T q3 (fZ_T r3)) r2 (bY_put hI.1 hB hs (Or.inr ok)) (wY_put hB h0 hw ok.2.1.2 n7 n9)⟩
        · rw [cl, if_pos gl, v1]
          simp only [ob_some]
          rw [w1]
          simp only [ob_some]
          rw [y1]
          simp only [ob_some]
          rw [qk_ix (by omega) (by omega), Int.toNat_natCast, e42]
        · rw [md, if_pos (by omega), p1]
          simp only [ob_some]
          rw [q1]
          simp only [ob_some]
          rw [r1]
          simp only [ob_some]
          rw [qk_ix (by omega) (by omega), Int.toNat_natCast, e82]
      · obtain ⟨S3, m3, n3, md⟩ := mdl Sf (fS_iT hI fSf) (fS_mY hm fSf)
        refine ⟨(-1) - sLaw T lev Y s x t k, Sf, S3, ?_, ?_, read_iG hA' hw ⟨o, m, hH⟩ hK hR hF fSf f2 (fM_T n3) m3⟩
        · rw [cl, if_neg gl]
        · rw [md, if_neg (by omega)]
  · obtain ⟨i1, i2⟩ := no_ship hI ha g
    refine ⟨-1, S, S, ?_, ?_, h⟩
    · rw [C_put, i1]
      rfl
    · rw [M_put, i2]
      rfl
theorem g_away {a : Int} (ha : qR a) : gOK (C_away a) (M_away a) := fun S h => by
  obtain ⟨T, lev, Y, hA', hw, ⟨o, m, hH⟩, hK, hR, hF⟩ := id h
  obtain ⟨hI, hB, hc, hm⟩ := id hA'
  have b9 := bT_n hI.1
  by_cases g : 0 ≤ a ∧ a < T 9
  · obtain ⟨s, rfl⟩ : ∃ s : Nat, a = s := ⟨a.toNat, by omega⟩
    have hs : (s : Int) < T 9 := g.2
    have iC := (is_ship hI ha g).1
    by_cases g1 : 0 < Y.2.2 s
    · obtain ⟨Sa, v1, v2, v3⟩ := save_14_s (S := S) hB hI.1 hc
      have hIa : iT Sa T lev := fS_iT hI (fO14_S v2)
      obtain ⟨Sb, w1, w2, w3⟩ := Stays_lift_s hIa hB (cY_off hc (fun c hc => v2 c (by omega))) hs g1
      obtain ⟨S1, y1, y2, y3, y4, y5⟩ := actC hH (fS_tr (fO14_S v2) (fun c hc => w3 c (by omega) (by omega))) (by rw [w3 14 (by omega) (by omega)]; exact v3) w2
      have hI1 := fA_iT hI y2
      have hm1 := fA_mY hm y2
      obtain ⟨S4, p1, p2, p3, p4, -⟩ := putsM hB hI.1 hm1
      obtain ⟨S5, q1, q2, q3, q4, q5⟩ := actM hH.2.1 ((fA_31 y2).trans hH.2.2.2.2.1) p2 p3 p4
      obtain ⟨S6, r1, r2, r3⟩ := M_lay_s (fB_iT hI1 q2) q4 hs (x := 0) (t := 0) (k := 0) (Or.inl ⟨rfl, by omega, by omega⟩)
      refine ⟨1, S1, S6, ?_, ?_, act_iG hA' hw hH hK hR y2 y3 y4 (fB_tr q2 (fT_B (fZ_T r3))) (kM_T q3 (fZ_T r3)) r2 (bY_put hI.1 hB hs (Or.inl rfl)) (wY_x hB hw)⟩
      · rw [C_away, iC]
        simp only [ob_some]
        rw [qk_r (by omega) (by omega), if_neg (by omega), Stays_has_s hB hc hI.1 (s := s) (by omega), if_pos g1]
        simp only [ob_some]
        rw [qk_r (by omega) (by omega), if_neg (by omega), v1]
        simp only [ob_some]
        rw [w1]
        simp only [ob_some]
        rw [y1]
        rfl
      · rw [M_away, (is_ship hI1 ha g).2]
        simp only [ob_some]
        rw [qk_r (by omega) (by omega), if_neg (by omega), M_stays_s hB hm1 hI.1 (s := s) (by omega), if_pos g1]
        simp only [ob_some]
        rw [qk_r (by omega) (by omega), if_neg (by omega), p1]
        simp only [ob_some]
        rw [q1]
        simp only [ob_some]
        rw [r1]
        rfl
    · refine ⟨0, S, S, ?_, ?_, h⟩
      · rw [C_away, iC]
        simp only [ob_some]
        rw [qk_r (by omega) (by omega), if_neg (by omega), Stays_has_s hB hc hI.1 (s := s) (by omega), if_neg g1]
        rfl
      · rw [M_away, (is_ship hI ha g).2]
        simp only [ob_some]
        rw [qk_r (by omega) (by omega), if_neg (by omega), M_stays_s hB hm hI.1 (s := s) (by omega), if_neg g1]
        rfl
  · obtain ⟨i1, i2⟩ := no_ship hI ha g
    refine ⟨0, S, S, ?_, ?_, h⟩
    · rw [C_away, i1]
      rfl
    · rw [M_away, i2]
      rfl
theorem g_itself {a : Int} (ha : qR a) : gOK (C_itself a) (M_itself a) := fun S h => by
  obtain ⟨T, lev, Y, hA', hw, ⟨o, m, hH⟩, hK, hR, hF⟩ := id h
  obtain ⟨hI, hB, hc, hm⟩ := id hA'
  have b9 := bT_n hI.1
  by_cases g : 0 ≤ a ∧ a < T 9
  · obtain ⟨s, rfl⟩ : ∃ s : Nat, a = s := ⟨a.toNat, by omega⟩
    have hs : (s : Int) < T 9 := g.2
    have iC := (is_ship hI ha g).1
    by_cases g1 : 0 < Y.2.2 s
    · refine ⟨-1, S, S, ?_, ?_, h⟩
      · rw [C_itself, iC]
        simp only [ob_some]
        rw [qk_r (by omega) (by omega), if_neg (by omega), Stays_has_s hB hc hI.1 (s := s) (by omega), if_pos g1]
        rfl
      · rw [M_itself, (is_ship hI ha g).2]
        simp only [ob_some]
        rw [qk_r (by omega) (by omega), if_neg (by omega), M_stays_s hB hm hI.1 (s := s) (by omega), if_pos g1]
        rfl
    · have h0 : Y.2.2 s = 0 := by
        have := (hB.1 s).1
        omega
      obtain ⟨Sa, v1, v2, v3⟩ := save_14_s (S := S) hB hI.1 hc
      have hIa : iT Sa T lev := fS_iT hI (fO14_S v2)
      have hca : cY Sa T lev Y := cY_off hc (fun c hc => v2 c (by omega))
      obtain ⟨Sb, w1, w2, w3⟩ := layC_s hIa hB hca hs h0
      obtain ⟨z1, z2, z3, z4, z5, z6⟩ := yB_ok hIa hB hca hw hs h0
      have fSb : fS S Sb := fS_tr (fO14_S v2) (fC_S (fI_C w2))
      have cl : C_itself (s : Int) S = (if sB T lev Y s = 0 then some ((-2), Sb) else (Option.bind (C_keepAct Sb) (fun q1066 => qk (qIx (s : Int) 14) (some (q1066 39 (Int.toNat (s : Int)), q1066))))) := by
        rw [C_itself, iC]
        simp only [ob_some]
        rw [qk_r (by omega) (by omega), if_neg (by omega), Stays_has_s hB hc hI.1 (s := s) (by omega), if_neg g1]
        simp only [ob_some]
        rw [qk_r (by omega) (by omega), if_pos trivial, v1]
        simp only [ob_some]
        rw [w1]
        simp only [ob_some]
        rw [qk_r (by omega) (by omega)]
      have mdl : ∀ S1, iT S1 T lev → mY S1 T lev Y → ∃ S3, mY S3 T lev (yB T lev Y s) ∧ fT S1 S3 ∧ gR (mR S3 16) Y ∧ M_itself (s : Int) S1 = (if sB T lev Y s = 0 then some ((-2), S3) else (Option.bind (M_keeps S3) (fun q3168 => qk (qIx (s : Int) 14) (some (q3168 79 (Int.toNat (s : Int)), q3168))))) := fun S1 hI1 hm1 => by
        obtain ⟨S4, p1, p2, p3, p4, -⟩ := putsM hB hI.1 hm1
        obtain ⟨S3, l1, l2, l3⟩ := layM_s (fT_iT hI1 p2) hB p4 hw.1 hs h0
        refine ⟨S3, l3, fT_tr p2 (fM_T l2), fM_16 l2 p3, ?_⟩
        rw [M_itself, (is_ship hI1 ha g).2]
        simp only [ob_some]
        rw [qk_r (by omega) (by omega), if_neg (by omega), M_stays_s hB hm1 hI.1 (s := s) (by omega), if_neg g1]
        simp only [ob_some]
        rw [qk_r (by omega) (by omega), if_pos trivial, p1]
        simp only [ob_some]
        rw [l1]
        simp only [ob_some]
        rw [qk_r (by omega) (by omega)]
      rcases fd_or hIa hB hca hs h0 with q | ⟨k, t, x, q⟩
      · obtain ⟨S3, m3, n3, -, md⟩ := mdl Sb (fS_iT hI fSb) (fS_mY hm fSb)
        rw [yB_N q] at w3 m3
        rw [sB_N q] at cl md
        exact ⟨-2, Sb, S3, cl, md, read_iG hA' hw ⟨o, m, hH⟩ hK hR hF fSb w3 n3 m3⟩
      · obtain ⟨S1, y1, y2, y3, y4, y5⟩ := actC hH fSb (by rw [fI_C w2 14 (by omega)]; exact v3) w3
        have hI1 := fA_iT hI y2
        obtain ⟨S3, m3, n3, g3, md⟩ := mdl S1 hI1 (fA_mY hm y2)
        obtain ⟨S5, q1, q2, q3, q4, q5⟩ := actM hH.2.1 ((fA_31 y2).trans hH.2.2.2.2.1) n3 g3 m3
        have hp : 0 < (yB T lev Y s).2.2 s := z5.mpr (sB_S q)
        have e39 := (y4.2.1 s hs hp).2.2.1
        have e79 := (q4.2.1 s hs hp).2.1
        rw [sB_S q] at cl md
        refine ⟨(yB T lev Y s).2.1 s, S1, S5, ?_, ?_, act_iG hA' hw hH hK hR y2 y3 y4 q2 q3 q4 z1 z2⟩
        · rw [cl, if_neg (by omega), y1]
          simp only [ob_some]
          rw [qk_ix (by omega) (by omega), Int.toNat_natCast, e39]
        · rw [md, if_neg (by omega), q1]
          simp only [ob_some]
          rw [qk_ix (by omega) (by omega), Int.toNat_natCast, e79]
  · obtain ⟨i1, i2⟩ := no_ship hI ha g
    refine ⟨-1, S, S, ?_, ?_, h⟩
    · rw [C_itself, i1]
      rfl
    · rw [M_itself, i2]
      rfl
/-! move -/
def sClp (z : Int) : Int := max (-100000) (min 100000 z)
theorem C_sum_s {S : qSto} {u v : Int} (hu : qR u) (hv : qR v) : C_sum u v S = some (sClp (u + v), S) := by
  obtain ⟨a1, a2⟩ := hu
  obtain ⟨b1, b2⟩ := hv
  have e1 : Jm_minL 100000 (u + v) S = some (min 100000 (u + v), S) := by
    rw [Jm_minL, qk_rl (by omega) (by omega), qk_rl (by omega) (by omega)]
    split
    · congr 2
      omega
    · congr 2
      omega
  have e2 : Jm_maxL (-100000) (min 100000 (u + v)) S = some (max (-100000) (min 100000 (u + v)), S) := by
    rw [Jm_maxL, qk_rl (by omega) (by omega), qk_rl (by omega) (by omega)]
    split
    · congr 2
      omega
    · congr 2
      omega
  rw [C_sum, qk_r a1 a2, qk_r b1 b2, e1]
  simp only [ob_some]
  rw [e2]
  rfl
theorem early_clp (hT : bT T) {s : Nat} (hs : (s : Int) < T 9) {x t k : Int} (h : sClp x ≠ x ∨ sClp t ≠ t) : sEarly T lev s (sClp x) (sClp t) k = sEarly T lev s x t k ∧ sEarly T lev s x t k ≠ 0 := by
  have c := bT_con hT hs
  have b0 := hT.1
  unfold sEarly
  by_cases g : x < 0 ∨ T 0 < x + sCon T s 0
  · rw [if_pos g, if_pos (by unfold sClp; omega)]
    omega
  · have gx : sClp x = x := by unfold sClp; omega
    have gt : sClp t ≠ t := by
      rcases h with h | h
      · exact absurd gx h
      · exact h
    rw [gx]
    simp only [if_neg g]
    unfold sTime
    unfold sClp at gt ⊢
    by_cases g2 : t < sCon T s 4
    · rw [if_pos g2, if_pos (by omega)]
      omega
    · rw [if_neg g2, if_neg (by omega)]
      by_cases g3 : k < sCon T s 7 ∨ sCon T s 8 < k
      · rw [if_pos g3]
        omega
      · have q1 : 336 ≤ t := by omega
        have q2 : 336 ≤ max (-100000) (min 100000 t) := by omega
        simp only [if_neg g3]
        rw [if_pos (Or.inl q2), if_pos (Or.inl q1)]
        exact ⟨rfl, by omega⟩
theorem law_clp (hT : bT T) {s : Nat} (hs : (s : Int) < T 9) {x t k : Int} : sLaw T lev Y s (sClp x) (sClp t) k = sLaw T lev Y s x t k := by
  by_cases h : sClp x ≠ x ∨ sClp t ≠ t
  · obtain ⟨e1, e2⟩ := early_clp (lev := lev) hT hs (k := k) h
    unfold sLaw
    rw [e1, if_neg e2, if_neg e2]
  · have h1 : sClp x = x := by
      by_cases q : sClp x = x
      · exact q
      · exact absurd (Or.inl q) h
    have h2 : sClp t = t := by
      by_cases q : sClp t = t
      · exact q
      · exact absurd (Or.inr q) h
    rw [h1, h2]
theorem sClp_R (z : Int) : qR (sClp z) := by
  unfold sClp
  exact ⟨by omega, by omega⟩
theorem g_move {a x t : Int} (ha : qR a) (hx : qR x) (ht : qR t) : gOK (C_move a x t) (M_move a x t) := fun S h => by
  obtain ⟨T, lev, Y, hA', hw, ⟨o, m, hH⟩, hK, hR, hF⟩ := id h
  obtain ⟨hI, hB, hc, hm⟩ := id hA'
  obtain ⟨x1, x2⟩ := id hx
  obtain ⟨t1, t2⟩ := id ht
  have b9 := bT_n hI.1
  by_cases g : 0 ≤ a ∧ a < T 9
  · obtain ⟨s, rfl⟩ : ∃ s : Nat, a = s := ⟨a.toNat, by omega⟩
    have hs : (s : Int) < T 9 := g.2
    have iC := (is_ship hI ha g).1
    by_cases g1 : 0 < Y.2.2 s
    · by_cases g2 : x = 0 ∧ t = 0
      · refine ⟨-1, S, S, ?_, ?_, h⟩
        · rw [C_move, iC]
          simp only [ob_some]
          rw [qk_r (by omega) (by omega), if_neg (by omega), Stays_has_s hB hc hI.1 (s := s) (by omega), if_pos g1]
          simp only [ob_some]
          rw [qk_r (by omega) (by omega), if_neg (by omega), qk_r x1 x2, if_pos g2.1, qk_r t1 t2, if_pos g2.2]
        · rw [M_move, (is_ship hI ha g).2]
          simp only [ob_some]
          rw [qk_r (by omega) (by omega), if_neg (by omega), M_stays_s hB hm hI.1 (s := s) (by omega), if_pos g1]
          simp only [ob_some]
          rw [qk_r (by omega) (by omega), if_neg (by omega), qk_r x1 x2, if_pos g2.1, qk_r t1 t2, if_pos g2.2]
      · have o1 := bY_one hI.1 hB hs g1
        obtain ⟨d1, d2, d3, d4, d5⟩ := hc.2.1 s hs g1
        have d0 := hc.1 s (by omega)
        have kR : qR (Y.2.2 s) := ⟨by omega, by omega⟩
        obtain ⟨Sa, v1, v2, v3⟩ := save_14_s (S := S) hB hI.1 hc
        have hIa : iT Sa T lev := fS_iT hI (fO14_S v2)
        have hca : cY Sa T lev Y := cY_off hc (fun c hc => v2 c (by omega))
        obtain ⟨Su, u1, u2, u3, u4, u5⟩ := Stays_takeUp_s hIa hB hca hs
        have hBx : bY T lev (yX Y s) := bY_put hI.1 hB hs (Or.inl rfl)
        have fSu : fS S Su := fS_tr (fO14_S v2) (fun c hc => u5 c (by omega) (by omega) (by omega))
        obtain ⟨Sf, f1, f2, f3⟩ := firstBroken_s (fS_iT hI fSu) hBx u2 hs x_0 (x := sClp (Y.1 s + x)) (t := sClp (Y.2.1 s + t)) (sClp_R _) (sClp_R _) kR
        rw [law_clp hI.1 hs] at f1
        have fSf : fS S Sf := fS_tr fSu (fC_S (fL_C f3))
        have lr := sLaw_rng (T := T) (lev := lev) (Y := yX Y s) s (Y.1 s + x) (Y.2.1 s + t) (Y.2.2 s)
        have body : C_move (s : Int) x t S = qk (qIx (s : Int) 14) (Option.bind (C_sum (S 37 (Int.toNat (s : Int))) x S) (fun q1099 => qk (qIx (s : Int) 14) (Option.bind (C_sum (q1099.2 39 (Int.toNat (s : Int))) t q1099.2) (fun q1102 => qk (qIx (s : Int) 14) (Option.bind (Stays_save_14 q1102.2) (fun q1105 => Option.bind (Stays_takeUp (s : Int) q1105) (fun q1107 => Option.bind (Laws_firstBroken (s : Int) q1099.1 q1102.1 (q1102.2 40 (Int.toNat (s : Int))) q1107) (fun q1109 => qk (qRb q1109.1) (if q1109.1 = 0 then (Option.bind (Stays_lay (s : Int) q1099.1 q1102.1 (q1102.2 40 (Int.toNat (s : Int))) q1109.2) (fun q1112 => Option.bind (C_keepAct q1112) (fun q1114 => qk (qIx (s : Int) 14) (some (q1114 42 (Int.toNat (s : Int)), q1114))))) else (Option.bind (Stays_layBack (s : Int) q1109.2) (fun q1117 => Option.bind (C_refusal q1109.1 q1117) (fun q1119 => some (q1119.1, q1119.2)))))))))))))  := by
          rw [C_move, iC]
          simp only [ob_some]
          rw [qk_r (by omega) (by omega), if_neg (by omega), Stays_has_s hB hc hI.1 (s := s) (by omega), if_pos g1]
          simp only [ob_some]
          rw [qk_r (by omega) (by omega), if_neg (by omega), qk_r x1 x2]
          by_cases q : x = 0
          · rw [if_pos q, qk_r t1 t2, if_neg (fun z => g2 ⟨q, z⟩)]
          · rw [if_neg q]
        have cl : C_move (s : Int) x t S = (if sLaw T lev (yX Y s) s (Y.1 s + x) (Y.2.1 s + t) (Y.2.2 s) = 0 then (Option.bind (Stays_lay (s : Int) (sClp (Y.1 s + x)) (sClp (Y.2.1 s + t)) (Y.2.2 s) Sf) (fun q1112 => Option.bind (C_keepAct q1112) (fun q1114 => qk (qIx (s : Int) 14) (some (q1114 42 (Int.toNat (s : Int)), q1114))))) else (Option.bind (Stays_layBack (s : Int) Sf) (fun q1117 => some ((-1) - sLaw T lev (yX Y s) s (Y.1 s + x) (Y.2.1 s + t) (Y.2.2 s), q1117)))) := by
          rw [body, qk_ix (by omega) (by omega), Int.toNat_natCast, d1, C_sum_s ⟨by omega, by omega⟩ hx]
          simp only [ob_some]
          rw [qk_ix (by omega) (by omega), d3, C_sum_s ⟨by omega, by omega⟩ ht]
          simp only [ob_some]
          rw [qk_ix (by omega) (by omega), v1]
          simp only [ob_some]
          rw [u1]
          simp only [ob_some]
          rw [d0, f1]
          simp only [ob_some]
          rw [qk_r (by omega) (by omega)]
          rfl
        have mdl : ∀ S1, iT S1 T lev → mY S1 T lev Y → ∃ S3, mY S3 T lev Y ∧ fM S1 S3 ∧ M_move (s : Int) x t S1 = (if sLaw T lev (yX Y s) s (Y.1 s + x) (Y.2.1 s + t) (Y.2.2 s) ≤ 0 then (Option.bind (M_puts 16 S3) (fun q3200 => Option.bind (M_keeps q3200) (fun q3202 => qk (qIx (s : Int) 14) (qk (qIx (s : Int) 14) (qk (qIx (s : Int) 14) (Option.bind (M_lay (s : Int) ((q3202 78 (Int.toNat (s : Int))) + x) ((q3202 79 (Int.toNat (s : Int))) + t) (q3202 80 (Int.toNat (s : Int))) q3202) (fun q3207 => qk (qIx (s : Int) 14) (some (q3207 82 (Int.toNat (s : Int)), q3207))))))))) else some ((-1) - sLaw T lev (yX Y s) s (Y.1 s + x) (Y.2.1 s + t) (Y.2.2 s), S3)) := fun S1 hI1 hm1 => by
          obtain ⟨e1, e2, -, -⟩ := hm1.2.1 s hs g1
          have e0 := hm1.1 s (by omega)
          obtain ⟨S3, l1, l2, l3⟩ := M_lawOf_s hI1 hB hm1 hw.1 hs (x := Y.1 s + x) (t := Y.2.1 s + t) (k := Y.2.2 s) (by omega) (by omega) kR
          refine ⟨S3, l2, l3, ?_⟩
          rw [M_move, (is_ship hI1 ha g).2]
          simp only [ob_some]
          rw [qk_r (by omega) (by omega), if_neg (by omega), M_stays_s hB hm1 hI.1 (s := s) (by omega), if_pos g1]
          simp only [ob_some]
          rw [qk_r (by omega) (by omega), if_neg (by omega), qk_r x1 x2]
          by_cases q : x = 0
          · rw [if_pos q, qk_r t1 t2, if_neg (fun z => g2 ⟨q, z⟩)]
            simp (disch := omega) only [qk_ix, qk_r, Int.toNat_natCast, e0, e1, e2, l1, ob_some]
          · rw [if_neg q]
            simp (disch := omega) only [qk_ix, qk_r, Int.toNat_natCast, e0, e1, e2, l1, ob_some]
        by_cases gl : sLaw T lev (yX Y s) s (Y.1 s + x) (Y.2.1 s + t) (Y.2.2 s) = 0
        · obtain ⟨ok, -, -, n7, -, n9⟩ := sLaw_ok gl
          have ob := okS_b hI.1 hs ok
          have ex : sClp (Y.1 s + x) = Y.1 s + x := by unfold sClp; omega
          have et : sClp (Y.2.1 s + t) = Y.2.1 s + t := by unfold sClp; omega
          obtain ⟨Sb, w1, w2, w3⟩ := Stays_lay_s (fS_iT hI fSf) f2 hs x_0 ok
          rw [yP_x] at w2
          obtain ⟨S1, y1, y2, y3, y4, y5⟩ := actC hH (fS_tr fSf (fY_S w3)) (by rw [w3 14 (by omega), f3.1 14 (by omega), u5 14 (by omega) (by omega) (by omega)]; exact v3) w2
          have e42 : S1 42 s = sLeave T lev s (Y.2.1 s + t) (Y.2.2 s) := by
            have := (y4.2.1 s hs (by show 0 < (if s = s then Y.2.2 s else Y.2.2 s); rw [if_pos rfl]; omega)).2.2.2.2
            simpa using this
          have hI1 := fA_iT hI y2
          obtain ⟨S3, m3, n3, md⟩ := mdl S1 hI1 (fA_mY hm y2)
          obtain ⟨S4, p1, p2, p3, p4, -⟩ := putsM hB hI.1 m3
          obtain ⟨S5, q1, q2, q3, q4, q5⟩ := actM hH.2.1 ((fA_31 y2).trans hH.2.2.2.2.1) (fT_tr (fM_T n3) p2) p3 p4
          obtain ⟨j1, j2, -, -⟩ := q4.2.1 s hs g1
          have j0 := q4.1 s (by omega)
          obtain ⟨S6, r1, r2, r3⟩ := M_lay_s (fB_iT hI1 q2) q4 hs (Or.inr ok)
          have e82 : S6 82 s = sLeave T lev s (Y.2.1 s + t) (Y.2.2 s) := by
            have := (r2.2.1 s hs (by show 0 < (if s = s then Y.2.2 s else Y.2.2 s); rw [if_pos rfl]; omega)).2.2.2
            simpa using this
          have wz := wY_put hBx x_0 (wY_x hB hw) ok.2.1.2 n7 n9
          rw [yP_x] at wz
          refine ⟨sLeave T lev s (Y.2.1 s + t) (Y.2.2 s), S1, S6, ?_, ?_, act_iG hA' hw hH hK hR y2 y3 y4 (fB_tr q2 (fT_B (fZ_T r3))) (kM_T q3 (fZ_T r3)) r2 (bY_put hI.1 hB hs (Or.inr ok)) wz⟩
          · rw [cl, if_pos gl, ex, et, w1]
            simp only [ob_some]
            rw [y1]
            simp only [ob_some]
            rw [qk_ix (by omega) (by omega), Int.toNat_natCast, e42]
          · rw [md, if_pos (by omega), p1]
            simp only [ob_some]
            rw [q1]
            simp only [ob_some]
            rw [qk_ix (by omega) (by omega), qk_ix (by omega) (by omega), qk_ix (by omega) (by omega), Int.toNat_natCast, j0, j1, j2, r1]
            simp only [ob_some]
            rw [qk_ix (by omega) (by omega), e82]
        · obtain ⟨S1, w1, w2, w3⟩ := Stays_layBack_s (fS_iT hI fSf) hB hs f2 (by rw [f3.2 13 (by omega)]; exact u3) (fun z => by rw [f3.2 11 (by omega), f3.2 12 (by omega)]; exact u4 z)
          have fS1 : fS S S1 := fS_tr fSf (fY_S w3)
          obtain ⟨S3, m3, n3, md⟩ := mdl S1 (fS_iT hI fS1) (fS_mY hm fS1)
          refine ⟨(-1) - sLaw T lev (yX Y s) s (Y.1 s + x) (Y.2.1 s + t) (Y.2.2 s), S1, S3, ?_, ?_, read_iG hA' hw ⟨o, m, hH⟩ hK hR hF fS1 w2 (fM_T n3) m3⟩
          · rw [cl, if_neg gl, w1]
            rfl
          · rw [md, if_neg (by omega)]
    · refine ⟨-1, S, S, ?_, ?_, h⟩
      · rw [C_move, iC]
        simp only [ob_some]
        rw [qk_r (by omega) (by omega), if_neg (by omega), Stays_has_s hB hc hI.1 (s := s) (by omega), if_neg g1]
        rfl
      · rw [M_move, (is_ship hI ha g).2]
        simp only [ob_some]
        rw [qk_r (by omega) (by omega), if_neg (by omega), M_stays_s hB hm hI.1 (s := s) (by omega), if_neg g1]
        rfl
  · obtain ⟨i1, i2⟩ := no_ship hI ha g
    refine ⟨-1, S, S, ?_, ?_, h⟩
    · rw [C_move, i1]
      rfl
    · rw [M_move, i2]
      rfl
end PAC
