/-! swap, hopeless -/
section PSW
variable {T lev : Nat → Int} {Y : qY}
theorem layLawful_s {S : qSto} (hI : iT S T lev) (hB : bY T lev Y) (hc : cY S T lev Y) {s : Nat} (hs : (s : Int) < T 9) (h0 : Y.2.2 s = 0) {x t k : Int} (hx : qR x) (ht : qR t) (hk : qR k) : ∃ S', C_layLawful (s : Int) x t k S = some (sLaw T lev Y s x t k, S') ∧ fC S S' ∧ (∀ i, i ≠ 10 → S' 6 i = S 6 i) ∧ (sLaw T lev Y s x t k ≠ 0 → cY S' T lev Y) ∧ (sLaw T lev Y s x t k = 0 → cY S' T lev (yP Y s x t k)) := by
  obtain ⟨Sf, f1, f2, f3⟩ := firstBroken_s hI hB hc hs h0 hx ht hk
  have lr := sLaw_rng (T := T) (lev := lev) (Y := Y) s x t k
  rw [C_layLawful, f1]
  simp only [ob_some]
  rw [qk_r (by omega) (by omega)]
  by_cases g : sLaw T lev Y s x t k = 0
  · obtain ⟨ok, -⟩ := sLaw_ok g
    obtain ⟨Sb, w1, w2, w3⟩ := Stays_lay_s (fC_iT hI (fL_C f3)) f2 hs h0 ok
    rw [if_pos g, w1]
    exact ⟨Sb, rfl, fun c hc => (w3 c (by omega)).trans (fL_C f3 c hc), fun i hi => by rw [w3 6 (by omega), f3.2 i hi], fun q => absurd g q, fun _ => w2⟩
  · rw [if_neg g]
    exact ⟨Sf, rfl, fL_C f3, f3.2, fun _ => f2, fun q => absurd q g⟩
theorem yX_ne {s i : Nat} (h : i ≠ s) : (yX Y s).1 i = Y.1 i ∧ (yX Y s).2.1 i = Y.2.1 i ∧ (yX Y s).2.2 i = Y.2.2 i := ⟨if_neg h, if_neg h, if_neg h⟩
theorem g_swap {a b : Int} (ha : qR a) (hb : qR b) : gOK (C_swap a b) (M_swap a b) := fun S h => by
  obtain ⟨T, lev, Y, hA', hw, ⟨o, m, hH⟩, hK, hR, hF⟩ := id h
  obtain ⟨hI, hB, hc, hm⟩ := id hA'
  obtain ⟨a1, a2⟩ := id ha
  obtain ⟨b1, b2⟩ := id hb
  have b9 := bT_n hI.1
  by_cases g : 0 ≤ a ∧ a < T 9
  · obtain ⟨s, rfl⟩ : ∃ s : Nat, a = s := ⟨a.toNat, by omega⟩
    have hs : (s : Int) < T 9 := g.2
    have iC := (is_ship hI ha g).1
    have iM := (is_ship hI ha g).2
    by_cases g' : 0 ≤ b ∧ b < T 9
    · obtain ⟨u, rfl⟩ : ∃ u : Nat, b = u := ⟨b.toNat, by omega⟩
      have hu : (u : Int) < T 9 := g'.2
      have jC := (is_ship hI hb g').1
      have jM := (is_ship hI hb g').2
      by_cases ge : (s : Int) = (u : Int)
      · refine ⟨-1, S, S, ?_, ?_, h⟩
        · rw [C_swap, iC]
          simp only [ob_some]
          rw [qk_r (by omega) (by omega), if_neg (by omega), jC]
          simp only [ob_some]
          rw [qk_r (by omega) (by omega), if_neg (by omega), qk_r a1 a2, qk_r b1 b2, if_pos ge]
        · rw [M_swap, iM]
          simp only [ob_some]
          rw [qk_r (by omega) (by omega), if_neg (by omega), jM]
          simp only [ob_some]
          rw [qk_r (by omega) (by omega), if_neg (by omega), qk_r a1 a2, qk_r b1 b2, if_pos ge]
      · by_cases g1 : 0 < Y.2.2 s
        · by_cases g2 : 0 < Y.2.2 u
          · have hne : u ≠ s := fun q => ge (by rw [q])
            have o1 := bY_one hI.1 hB hs g1
            have o2 := bY_one hI.1 hB hu g2
            obtain ⟨d1, -, d3, -, -⟩ := hc.2.1 s hs g1
            obtain ⟨e1, -, e3, -, -⟩ := hc.2.1 u hu g2
            have d0 := hc.1 s (by omega)
            have e0 := hc.1 u (by omega)
            obtain ⟨Sa, v1, v2, v3⟩ := save_14_s (S := S) hB hI.1 hc
            have f0 : fS S Sa := fO14_S v2
            obtain ⟨Sl, l1, l2, l3⟩ := Stays_lift_s (fS_iT hI f0) hB (cY_off hc (fun c hc => v2 c (by omega))) hs g1
            have f1 : fS S Sl := fS_tr f0 (fun c hc => l3 c (by omega) (by omega))
            have hB1 : bY T lev (yX Y s) := bY_put hI.1 hB hs (Or.inl rfl)
            have ku : 0 < (yX Y s).2.2 u := by rw [(yX_ne hne).2.2]; exact g2
            obtain ⟨Sm, k1, k2, k3⟩ := Stays_lift_s (fS_iT hI f1) hB1 l2 hu ku
            have f2 : fS S Sm := fS_tr f1 (fun c hc => k3 c (by omega) (by omega))
            have hB2 : bY T lev (yX (yX Y s) u) := bY_put hI.1 hB1 hu (Or.inl rfl)
            have hW2 : wY T lev (yX (yX Y s) u) := wY_x hB1 (wY_x hB hw)
            have zs : (yX (yX Y s) u).2.2 s = 0 := by rw [(yX_ne (Y := yX Y s) (show s ≠ u from fun q => hne q.symm)).2.2]; exact x_0
            have zu : (yX (yX Y s) u).2.2 u = 0 := x_0
            have e14 : gR (Sm 14) Y := by rw [k3 14 (by omega) (by omega), l3 14 (by omega) (by omega)]; exact v3
            obtain ⟨Z, eZ⟩ : ∃ Z, Z = yX (yX Y s) u := ⟨_, rfl⟩
            rw [← eZ] at k2 hB2 hW2 zs zu
            obtain ⟨Sx, p1, p2, p2', p3, p4⟩ := layLawful_s (fS_iT hI f2) hB2 k2 hs zs (x := Y.1 u) (t := Y.2.1 u) (k := Y.2.2 s) ⟨by omega, by omega⟩ ⟨by omega, by omega⟩ ⟨by omega, by omega⟩
            have f3 : fS S Sx := fS_tr f2 (fC_S p2)
            have x14 : gR (Sx 14) Y := by rw [p2 14 (by omega)]; exact e14
            have lr := sLaw_rng (T := T) (lev := lev) (Y := Z) s (Y.1 u) (Y.2.1 u) (Y.2.2 s)
            have cl : C_swap (s : Int) (u : Int) S = Option.bind (qk (qRb (sLaw T lev Z s (Y.1 u) (Y.2.1 u) (Y.2.2 s))) (if sLaw T lev Z s (Y.1 u) (Y.2.1 u) (Y.2.2 s) = 0 then (Option.bind (C_layLawful (u : Int) (Y.1 s) (Y.2.1 s) (Y.2.2 u) Sx) (fun q1179 => some (q1179.1, q1179.2))) else some (sLaw T lev Z s (Y.1 u) (Y.2.1 u) (Y.2.2 s), Sx)) : Option (Int × qSto)) (fun t1181 => qk (qRb t1181.1) (if t1181.1 = 0 then (Option.bind (C_keepAct t1181.2) (fun q1183 => qk (qIx (s : Int) 14) (some (q1183 42 (Int.toNat (s : Int)), q1183)))) else (Option.bind (Stays_load_14 t1181.2) (fun q1200 => Option.bind (C_refusal t1181.1 q1200) (fun q1202 => some (q1202.1, q1202.2)))))) := by
              rw [C_swap, iC]
              simp only [ob_some]
              rw [qk_r (by omega) (by omega), if_neg (by omega), jC]
              simp only [ob_some]
              rw [qk_r (by omega) (by omega), if_neg (by omega), qk_r a1 a2, qk_r b1 b2, if_neg ge, Stays_has_s hB hc hI.1 (s := s) (by omega), if_pos g1]
              simp only [ob_some]
              rw [qk_r (by omega) (by omega), if_neg (by omega), Stays_has_s hB hc hI.1 (s := u) (by omega), if_pos g2]
              simp only [ob_some]
              rw [qk_r (by omega) (by omega), if_neg (by omega)]
              simp (disch := omega) only [qk_ix, Int.toNat_natCast, d0, d1, d3, e0, e1, e3]
              rw [v1]
              simp only [ob_some]
              rw [l1]
              simp only [ob_some]
              rw [k1]
              simp only [ob_some]
              rw [p1]
              rfl
            have mdl : ∀ S1, iT S1 T lev → mY S1 T lev Y → ∃ S4 S5, fT S1 S4 ∧ gR (mR S4 16) Y ∧ mY S4 T lev Z ∧ fM S4 S5 ∧ mY S5 T lev Z ∧ M_swap (s : Int) (u : Int) S1 = Option.bind (qk (qRb (sLaw T lev Z s (Y.1 u) (Y.2.1 u) (Y.2.2 s))) (if sLaw T lev Z s (Y.1 u) (Y.2.1 u) (Y.2.2 s) ≤ 0 then (Option.bind (M_lay (s : Int) (Y.1 u) (Y.2.1 u) (Y.2.2 s) S5) (fun q3262 => qk (qRb (Y.1 s)) (qk (qRb (Y.2.1 s)) (Option.bind (M_lawOf (u : Int) (Y.1 s) (Y.2.1 s) (Y.2.2 u) q3262) (fun q3266 => qk (qRb q3266.1) (if q3266.1 ≤ 0 then (Option.bind (M_lay (u : Int) (Y.1 s) (Y.2.1 s) (Y.2.2 u) q3266.2) (fun q3269 => some (0, q3269))) else some (q3266.1, q3266.2))))))) else some (sLaw T lev Z s (Y.1 u) (Y.2.1 u) (Y.2.2 s), S5))) (fun q3271 => qk (qRb q3271.1) (if q3271.1 ≤ 0 then (Option.bind (M_keeps q3271.2) (fun q3274 => qk (qIx (s : Int) 14) (some (q3274 82 (Int.toNat (s : Int)), q3274)))) else (Option.bind (M_takes 16 q3271.2) (fun q3286 => some ((-1) - q3271.1, q3286))))) := fun S1 hI1 hm1 => by
              obtain ⟨Sp, q1, q2, q3, q4, q5⟩ := putsM hB hI.1 hm1
              have hIp := fT_iT hI1 q2
              obtain ⟨i1, i2, -, -⟩ := q4.2.1 s hs g1
              have i0 := q4.1 s (by omega)
              obtain ⟨j1, j2, -, -⟩ := q4.2.1 u hu g2
              have j0 := q4.1 u (by omega)
              obtain ⟨Sq, r1, r2, r3⟩ := M_lay_s hIp q4 hs (x := 0) (t := 0) (k := 0) (Or.inl ⟨rfl, by omega, by omega⟩)
              have hIq := fT_iT hIp (fZ_T r3)
              obtain ⟨Sr, t1, t2, t3⟩ := M_lay_s hIq r2 hu (x := 0) (t := 0) (k := 0) (Or.inl ⟨rfl, by omega, by omega⟩)
              have hIr := fT_iT hIq (fZ_T t3)
              have t2' : mY Sr T lev Z := by rw [eZ]; exact t2
              obtain ⟨S5, w1, w2, w3⟩ := M_lawOf_s hIr hB2 t2' hW2.1 hs (x := Y.1 u) (t := Y.2.1 u) (k := Y.2.2 s) (by omega) (by omega) ⟨by omega, by omega⟩
              rw [law_x hI.1 hB2 hs zs] at w1
              refine ⟨Sr, S5, fT_tr q2 (fT_tr (fZ_T r3) (fZ_T t3)), fZ_16 t3 (fZ_16 r3 q3), t2', w3, w2, ?_⟩
              have ls : M_lawOfSwap (s : Int) (u : Int) Sp = qk (qRb (sLaw T lev Z s (Y.1 u) (Y.2.1 u) (Y.2.2 s))) (if sLaw T lev Z s (Y.1 u) (Y.2.1 u) (Y.2.2 s) ≤ 0 then (Option.bind (M_lay (s : Int) (Y.1 u) (Y.2.1 u) (Y.2.2 s) S5) (fun q3262 => qk (qRb (Y.1 s)) (qk (qRb (Y.2.1 s)) (Option.bind (M_lawOf (u : Int) (Y.1 s) (Y.2.1 s) (Y.2.2 u) q3262) (fun q3266 => qk (qRb q3266.1) (if q3266.1 ≤ 0 then (Option.bind (M_lay (u : Int) (Y.1 s) (Y.2.1 s) (Y.2.2 u) q3266.2) (fun q3269 => some (0, q3269))) else some (q3266.1, q3266.2))))))) else some (sLaw T lev Z s (Y.1 u) (Y.2.1 u) (Y.2.2 s), S5)) := by
                rw [M_lawOfSwap]
                simp (disch := omega) only [qk_ix, Int.toNat_natCast, i0, i1, i2, j0, j1, j2, r1, ob_some, t1]
                rw [qk_r (by omega) (by omega), qk_r (by omega) (by omega), w1]
                rfl
              rw [M_swap, (is_ship hI1 ha g).2]
              simp only [ob_some]
              rw [qk_r (by omega) (by omega), if_neg (by omega), (is_ship hI1 hb g').2]
              simp only [ob_some]
              rw [qk_r (by omega) (by omega), if_neg (by omega), qk_r a1 a2, qk_r b1 b2, if_neg ge, M_stays_s hB hm1 hI.1 (s := s) (by omega), if_pos g1]
              simp only [ob_some]
              rw [qk_r (by omega) (by omega), if_neg (by omega), M_stays_s hB hm1 hI.1 (s := u) (by omega), if_pos g2]
              simp only [ob_some]
              rw [qk_r (by omega) (by omega), if_neg (by omega), q1]
              simp only [ob_some]
              rw [ls]
            rw [qk_r (by omega) (by omega)] at cl
            by_cases gl : sLaw T lev Z s (Y.1 u) (Y.2.1 u) (Y.2.2 s) = 0
            · obtain ⟨ok, -, -, n7, -, n9⟩ := sLaw_ok gl
              have hB3 := bY_put hI.1 hB2 hs (Or.inr ok)
              have hW3 := wY_put hB2 zs hW2 ok.2.1.2 n7 n9
              have zu' : (yP Z s (Y.1 u) (Y.2.1 u) (Y.2.2 s)).2.2 u = 0 := by
                show (if u = s then Y.2.2 s else Z.2.2 u) = 0
                rw [if_neg hne, zu]
              obtain ⟨Z1, eZ1⟩ : ∃ Z1, Z1 = yP Z s (Y.1 u) (Y.2.1 u) (Y.2.2 s) := ⟨_, rfl⟩
              have c3 := p4 gl
              rw [← eZ1] at c3 hB3 hW3 zu'
              obtain ⟨Sy, s1, s2, s2', s3, s4⟩ := layLawful_s (fS_iT hI f3) hB3 c3 hu zu' (x := Y.1 s) (t := Y.2.1 s) (k := Y.2.2 u) ⟨by omega, by omega⟩ ⟨by omega, by omega⟩ ⟨by omega, by omega⟩
              have f4 : fS S Sy := fS_tr f3 (fC_S s2)
              have y14 : gR (Sy 14) Y := by rw [s2 14 (by omega)]; exact x14
              have lr2 := sLaw_rng (T := T) (lev := lev) (Y := Z1) u (Y.1 s) (Y.2.1 s) (Y.2.2 u)
              rw [if_pos gl, s1] at cl
              simp only [ob_some] at cl
              rw [qk_r (by omega) (by omega)] at cl
              have md2 : ∀ S5, iT S5 T lev → mY S5 T lev Z → ∃ S6 S7, M_lay (s : Int) (Y.1 u) (Y.2.1 u) (Y.2.2 s) S5 = some S6 ∧ M_lawOf (u : Int) (Y.1 s) (Y.2.1 s) (Y.2.2 u) S6 = some (sLaw T lev Z1 u (Y.1 s) (Y.2.1 s) (Y.2.2 u), S7) ∧ mY S7 T lev Z1 ∧ fM S5 S7 := fun S5 hI5 hm5 => by
                obtain ⟨S6, q1, q2, q3⟩ := M_lay_s hI5 hm5 hs (Or.inr ok)
                rw [← eZ1] at q2
                have f6 : fM S5 S6 := fZ_M q3
                obtain ⟨S7, w1, w2, w3⟩ := M_lawOf_s (fM_iT hI5 f6) hB3 q2 hW3.1 hu (x := Y.1 s) (t := Y.2.1 s) (k := Y.2.2 u) (by omega) (by omega) ⟨by omega, by omega⟩
                rw [law_x hI.1 hB3 hu zu'] at w1
                exact ⟨S6, S7, q1, w1, w2, fM_tr f6 w3⟩
              by_cases gl2 : sLaw T lev Z1 u (Y.1 s) (Y.2.1 s) (Y.2.2 u) = 0
              · obtain ⟨ok2, -, -, n72, -, n92⟩ := sLaw_ok gl2
                have hB4 := bY_put hI.1 hB3 hu (Or.inr ok2)
                have hW4 := wY_put hB3 zu' hW3 ok2.2.1.2 n72 n92
                obtain ⟨S1, y1, y2, y3, y4, y5⟩ := actC hH f4 y14 (s4 gl2)
                have hI1 := fA_iT hI y2
                obtain ⟨S4, S5, q1, q2, q3, q4, q5, md⟩ := mdl S1 hI1 (fA_mY hm y2)
                obtain ⟨S6, S7, w1, w2, w3, w4⟩ := md2 S5 (fM_iT (fT_iT hI1 q1) q4) q5
                have f7 : fT S1 S7 := fT_tr q1 (fM_T (fM_tr q4 w4))
                obtain ⟨S8, x1, x2, x3⟩ := M_lay_s (fT_iT hI1 f7) w3 hu (Or.inr ok2)
                obtain ⟨S9, r1, r2, r3, r4, r5⟩ := actM hH.2.1 ((fA_31 y2).trans hH.2.2.2.2.1) (fT_tr f7 (fZ_T x3)) (fZ_16 x3 (fM_16 (fM_tr q4 w4) q2)) x2
                have kz : (yP Z1 u (Y.1 s) (Y.2.1 s) (Y.2.2 u)).2.2 s = Y.2.2 s ∧ (yP Z1 u (Y.1 s) (Y.2.1 s) (Y.2.2 u)).2.1 s = Y.2.1 u := by
                  show (if s = u then _ else Z1.2.2 s) = _ ∧ (if s = u then _ else Z1.2.1 s) = _
                  rw [if_neg (fun q => hne q.symm), if_neg (fun q => hne q.symm), eZ1]
                  exact ⟨if_pos rfl, if_pos rfl⟩
                have e42 := (y4.2.1 s hs (by rw [kz.1]; exact g1)).2.2.2.2
                have e82 := (r4.2.1 s hs (by rw [kz.1]; exact g1)).2.2.2
                rw [kz.1, kz.2] at e42 e82
                refine ⟨sLeave T lev s (Y.2.1 u) (Y.2.2 s), S1, S9, ?_, ?_, act_iG hA' hw hH hK hR y2 y3 y4 r2 r3 r4 hB4 hW4⟩
                · rw [cl, if_pos gl2, y1]
                  simp only [ob_some]
                  rw [qk_ix (by omega) (by omega), Int.toNat_natCast, e42]
                · rw [md, qk_r (by omega) (by omega), if_pos (by omega), w1]
                  simp only [ob_some]
                  rw [qk_r (by omega) (by omega), qk_r (by omega) (by omega), w2]
                  simp only [ob_some]
                  rw [qk_r (by omega) (by omega), if_pos (by omega), x1]
                  simp only [ob_some]
                  rw [qk_r (by omega) (by omega), if_pos (by omega), r1]
                  simp only [ob_some]
                  rw [qk_ix (by omega) (by omega), Int.toNat_natCast, e82]
              · obtain ⟨S1, t1, t2, t3⟩ := load_14_s (fS_iT hI f4) hB (s3 gl2) y14
                have fS1 : fS S S1 := fS_tr f4 (fY_S t3)
                have hI1 := fS_iT hI fS1
                obtain ⟨S4, S5, q1, q2, q3, q4, q5, md⟩ := mdl S1 hI1 (fS_mY hm fS1)
                obtain ⟨S6, S7, w1, w2, w3, w4⟩ := md2 S5 (fM_iT (fT_iT hI1 q1) q4) q5
                have f7 : fT S1 S7 := fT_tr q1 (fM_T (fM_tr q4 w4))
                obtain ⟨S8, x1, x2, x3⟩ := takes_s (fT_iT hI1 f7) hB3 hB (r := 16) (by omega) w3 (fM_16 (fM_tr q4 w4) q2)
                have x1' : M_takes 16 S7 = some S8 := x1
                refine ⟨(-1) - sLaw T lev Z1 u (Y.1 s) (Y.2.1 s) (Y.2.2 u), S1, S8, ?_, ?_, read_iG hA' hw ⟨o, m, hH⟩ hK hR hF fS1 t2 (fT_tr f7 (fZ_T x3)) x2⟩
                · rw [cl, if_neg gl2, t1]
                  rfl
                · rw [md, qk_r (by omega) (by omega), if_pos (by omega), w1]
                  simp only [ob_some]
                  rw [qk_r (by omega) (by omega), qk_r (by omega) (by omega), w2]
                  simp only [ob_some]
                  rw [qk_r (by omega) (by omega), if_neg (by omega)]
                  simp only [ob_some]
                  rw [qk_r (by omega) (by omega), if_neg (by omega), x1']
                  rfl
            · rw [if_neg gl] at cl
              simp only [ob_some] at cl
              rw [qk_r (by omega) (by omega), if_neg gl] at cl
              obtain ⟨S1, t1, t2, t3⟩ := load_14_s (fS_iT hI f3) hB (p3 gl) x14
              have fS1 : fS S S1 := fS_tr f3 (fY_S t3)
              have hI1 := fS_iT hI fS1
              obtain ⟨S4, S5, q1, q2, q3, q4, q5, md⟩ := mdl S1 hI1 (fS_mY hm fS1)
              have f7 : fT S1 S5 := fT_tr q1 (fM_T q4)
              obtain ⟨S8, x1, x2, x3⟩ := takes_s (fT_iT hI1 f7) hB2 hB (r := 16) (by omega) q5 (fM_16 q4 q2)
              have x1' : M_takes 16 S5 = some S8 := x1
              refine ⟨(-1) - sLaw T lev Z s (Y.1 u) (Y.2.1 u) (Y.2.2 s), S1, S8, ?_, ?_, read_iG hA' hw ⟨o, m, hH⟩ hK hR hF fS1 t2 (fT_tr f7 (fZ_T x3)) x2⟩
              · rw [cl, t1]
                rfl
              · rw [md, qk_r (by omega) (by omega), if_neg (by omega)]
                simp only [ob_some]
                rw [qk_r (by omega) (by omega), if_neg (by omega), x1']
                rfl
          · refine ⟨-1, S, S, ?_, ?_, h⟩
            · rw [C_swap, iC]
              simp only [ob_some]
              rw [qk_r (by omega) (by omega), if_neg (by omega), jC]
              simp only [ob_some]
              rw [qk_r (by omega) (by omega), if_neg (by omega), qk_r a1 a2, qk_r b1 b2, if_neg ge, Stays_has_s hB hc hI.1 (s := s) (by omega), if_pos g1]
              simp only [ob_some]
              rw [qk_r (by omega) (by omega), if_neg (by omega), Stays_has_s hB hc hI.1 (s := u) (by omega), if_neg g2]
              rfl
            · rw [M_swap, iM]
              simp only [ob_some]
              rw [qk_r (by omega) (by omega), if_neg (by omega), jM]
              simp only [ob_some]
              rw [qk_r (by omega) (by omega), if_neg (by omega), qk_r a1 a2, qk_r b1 b2, if_neg ge, M_stays_s hB hm hI.1 (s := s) (by omega), if_pos g1]
              simp only [ob_some]
              rw [qk_r (by omega) (by omega), if_neg (by omega), M_stays_s hB hm hI.1 (s := u) (by omega), if_neg g2]
              rfl
        · refine ⟨-1, S, S, ?_, ?_, h⟩
          · rw [C_swap, iC]
            simp only [ob_some]
            rw [qk_r (by omega) (by omega), if_neg (by omega), jC]
            simp only [ob_some]
            rw [qk_r (by omega) (by omega), if_neg (by omega), qk_r a1 a2, qk_r b1 b2, if_neg ge, Stays_has_s hB hc hI.1 (s := s) (by omega), if_neg g1]
            rfl
          · rw [M_swap, iM]
            simp only [ob_some]
            rw [qk_r (by omega) (by omega), if_neg (by omega), jM]
            simp only [ob_some]
            rw [qk_r (by omega) (by omega), if_neg (by omega), qk_r a1 a2, qk_r b1 b2, if_neg ge, M_stays_s hB hm hI.1 (s := s) (by omega), if_neg g1]
            rfl
    · obtain ⟨j1, j2⟩ := no_ship hI hb g'
      refine ⟨-1, S, S, ?_, ?_, h⟩
      · rw [C_swap, iC]
        simp only [ob_some]
        rw [qk_r (by omega) (by omega), if_neg (by omega), j1]
        rfl
      · rw [M_swap, iM]
        simp only [ob_some]
        rw [qk_r (by omega) (by omega), if_neg (by omega), j2]
        rfl
  · obtain ⟨i1, i2⟩ := no_ship hI ha g
    refine ⟨-1, S, S, ?_, ?_, h⟩
    · rw [C_swap, i1]
      rfl
    · rw [M_swap, i2]
      rfl
/-! hopeless: no stay at all -/
def yO : qY := (fun _ => 0, fun _ => 0, fun _ => 0)
theorem yO_x {s : Nat} : yX yO s = yO := by
  unfold yO
  refine Prod.ext (funext fun i => ?_) (Prod.ext (funext fun i => ?_) (funext fun i => ?_)) <;> exact ite_self 0
theorem yO_b : bY T lev yO := ⟨fun s => ⟨Int.le_refl 0, fun _ => rfl⟩, fun s _ hk => absurd hk (Int.lt_irrefl 0)⟩
theorem yO_w : wP T lev yO := fun a b _ _ _ hk => absurd hk (Int.lt_irrefl 0)
theorem hopeless_L (hT : bT T) : ∀ (j n i : Nat) (b : Int), (i : Int) + j = T 9 → j < n → ∃ R, (∀ S, iT S T lev → cY S T lev yO → ∃ S', C_hopeless_L22 n b (i : Int) S = some (R, S') ∧ cY S' T lev yO ∧ fC S S') ∧ (∀ S, iT S T lev → mY S T lev yO → ∃ S', M_hopeless_L31 n b (i : Int) S = some (R, S') ∧ mY S' T lev yO ∧ fM S S')
  | 0, n + 1, i, b, e, _ => by
    have b9 := bT_n hT
    refine ⟨b, fun S hI hc => ⟨S, ?_, hc, fC_rfl⟩, fun S hI hm => ⟨S, ?_, hm, fM_rfl⟩⟩
    · have e1 := hI.2.1.2.2.2.2.1
      rw [C_hopeless_L22]
      simp (disch := omega) only [qk_r, e1, if_pos (show T 9 ≤ (i : Int) by omega)]
    · have e2 := hI.2.2.1 9
      rw [M_hopeless_L31]
      simp (disch := omega) only [qk_r, e2, if_pos (show T 9 ≤ (i : Int) by omega)]
  | j + 1, n + 1, i, b, e, hn => by
    have b9 := bT_n hT
    have hs : (i : Int) < T 9 := by omega
    have cn := bT_con hT hs
    by_cases g : fdN1 T lev yO i
    · obtain ⟨R, ihc, ihm⟩ := hopeless_L hT j n (i + 1) (qb_ior b (qb_ishl 1 (i : Int))) (by omega) (by omega)
      refine ⟨R, fun S hI hc => ?_, fun S hI hm => ?_⟩
      · have e1 := hI.2.1.2.2.2.2.1
        have c8 : Told_contractOf (i : Int) 8 S = some (sCon T i 8, S) := Told_contractOf_s hI hs (w := 8) (by omega)
        have c7 : Told_contractOf (i : Int) 7 S = some (sCon T i 7, S) := Told_contractOf_s hI hs (w := 7) (by omega)
        obtain ⟨r, S1, v1, v2, v3, v4⟩ := find_s hI yO_b hc hs rfl (most := sCon T i 8) (least := sCon T i 7) (by omega) (by omega) (by omega)
        have hr : r = 0 := by
          rcases v4 with q | ⟨q, k, t, x, q2, -⟩
          · exact q.1
          · exact (fd_x q2 g).elim
        subst hr
        obtain ⟨S', t1, t2, t3⟩ := ihc S1 (fC_iT hI (fF_C v3)) v2
        refine ⟨S', ?_, t2, fun c hc => (t3 c hc).trans (fF_C v3 c hc)⟩
        rw [C_hopeless_L22]
        simp (disch := omega) only [qk_r, e1, if_neg (show ¬ T 9 ≤ (i : Int) by omega), c8, c7, v1, ob_some, if_pos]
        exact t1
      · have e2 := hI.2.2.1 9
        obtain ⟨r, S1, v1, v2, v3, v4⟩ := seeksItself_s hI yO_b hm yO_w hs
        rw [yO_x] at v4
        have hr : r = -1 := by
          rcases v4 with q | ⟨-, q⟩
          · exact q.1
          · exact (fd_x q g).elim
        subst hr
        obtain ⟨S', t1, t2, t3⟩ := ihm S1 (fM_iT hI v3) v2
        refine ⟨S', ?_, t2, fM_tr v3 t3⟩
        rw [M_hopeless_L31]
        simp (disch := omega) only [qk_r, e2, if_neg (show ¬ T 9 ≤ (i : Int) by omega), v1, ob_some, if_pos]
        exact t1
    · obtain ⟨R, ihc, ihm⟩ := hopeless_L hT j n (i + 1) b (by omega) (by omega)
      refine ⟨R, fun S hI hc => ?_, fun S hI hm => ?_⟩
      · have e1 := hI.2.1.2.2.2.2.1
        have c8 : Told_contractOf (i : Int) 8 S = some (sCon T i 8, S) := Told_contractOf_s hI hs (w := 8) (by omega)
        have c7 : Told_contractOf (i : Int) 7 S = some (sCon T i 7, S) := Told_contractOf_s hI hs (w := 7) (by omega)
        obtain ⟨r, S1, v1, v2, v3, v4⟩ := find_s hI yO_b hc hs rfl (most := sCon T i 8) (least := sCon T i 7) (by omega) (by omega) (by omega)
        have hr : r = 1 := by
          rcases v4 with q | ⟨q, k, t, x, q2, -⟩
          · exact absurd q.2 g
          · exact q
        subst hr
        obtain ⟨S', t1, t2, t3⟩ := ihc S1 (fC_iT hI (fF_C v3)) v2
        refine ⟨S', ?_, t2, fun c hc => (t3 c hc).trans (fF_C v3 c hc)⟩
        rw [C_hopeless_L22]
        simp (disch := omega) only [qk_r, e1, if_neg (show ¬ T 9 ≤ (i : Int) by omega), c8, c7, v1, ob_some, if_neg (show ¬ (1 : Int) = 0 by omega)]
        exact t1
      · have e2 := hI.2.2.1 9
        obtain ⟨r, S1, v1, v2, v3, v4⟩ := seeksItself_s hI yO_b hm yO_w hs
        rw [yO_x] at v4
        have hr : 1 ≤ r ∧ r ≤ 8 := by
          rcases v4 with q | ⟨q, -⟩
          · exact absurd q.2 g
          · exact q
        obtain ⟨S', t1, t2, t3⟩ := ihm S1 (fM_iT hI v3) v2
        refine ⟨S', ?_, t2, fM_tr v3 t3⟩
        rw [M_hopeless_L31]
        simp (disch := omega) only [qk_r, e2, if_neg (show ¬ T 9 ≤ (i : Int) by omega), v1, ob_some, if_neg (show ¬ r = -1 by omega)]
        exact t1
theorem zero80_L : ∀ (j n i : Nat) (S : qSto), i + j = 14 → j < n → (∀ k, k < i → S 80 k = 0) → ∃ S', M_hopeless_L8 n (i : Int) S = some S' ∧ fO 80 S S' ∧ ∀ k, k < 14 → S' 80 k = 0
  | 0, n + 1, i, S, e, _, h => by
    rw [M_hopeless_L8]
    simp (disch := omega) only [qk_r, if_pos (show (14 : Int) ≤ (i : Int) by omega)]
    exact ⟨S, rfl, fun c _ => rfl, fun k hk => h k (by omega)⟩
  | j + 1, n + 1, i, S, e, hn, h => by
    rw [M_hopeless_L8]
    simp (disch := omega) only [qk_r, qk_ix, if_neg (show ¬ (14 : Int) ≤ (i : Int) by omega), Int.toNat_natCast]
    obtain ⟨S', t1, t2, t3⟩ := zero80_L j n (i + 1) (qup S 80 i 0) (by omega) (by omega) (fun k hk => by
      rw [qup_on]
      split
      · rfl
      · exact h k (by omega))
    exact ⟨S', t1, fun c hc => (t2 c hc).trans (qup_off hc), t3⟩
/-- the same, but not by computing: the kernel must not run the loops that stand there -/
theorem ob_sn {α β : Type} {a : α} {f : α → Option β} : Option.bind (some a) f = f a := congrArg (fun x : Option β => x) (rfl : Option.bind (some a) f = f a)
theorem g_hopeless : gOK C_hopeless M_hopeless := fun S h => by
  obtain ⟨T, lev, Y, hA', hw, ⟨o, m, hH⟩, hK, hR, hF⟩ := id h
  obtain ⟨hI, hB, hc, hm⟩ := id hA'
  have b9 := bT_n hI.1
  obtain ⟨R, hcC, hcM⟩ := hopeless_L (lev := lev) hI.1 (sN T) qF 0 0 (by unfold sN; omega) (by unfold qF sN; omega)
  obtain ⟨Sa, v1, v2, v3⟩ := save_14_s (S := S) hB hI.1 hc
  have f0 : fS S Sa := fO14_S v2
  obtain ⟨Sb, w1, w2, w3⟩ := clear_s (lev := lev) (S := Sa) (T := T) (cY_off hc (fun c hc => v2 c (by omega)))
  have f1 : fS S Sb := fS_tr f0 (fun c hc => w3 c (by omega) (by omega))
  obtain ⟨Sc, x1, x2, x3⟩ := hcC Sb (fS_iT hI f1) (w2 yO (fun _ => rfl))
  have f2 : fS S Sc := fS_tr f1 (fC_S x3)
  obtain ⟨S1, y1, y2, y3⟩ := load_14_s (fS_iT hI f2) hB x2 (by rw [x3 14 (by omega), w3 14 (by omega) (by omega)]; exact v3)
  have f3 : fS S S1 := fS_tr f2 (fY_S y3)
  have hI1 := fS_iT hI f3
  obtain ⟨Sp, p1, p2, p3, p4, p5⟩ := putsM hB hI.1 (fS_mY hm f3)
  obtain ⟨Sq, q1, q2, q3⟩ := zero80_L 14 qF 0 Sp (by omega) (by unfold qF; omega) (fun k hk => absurd hk (by omega))
  have fq : fT Sp Sq := fZ_T (fun c hc => q2 c (by omega))
  have mq : mY Sq T lev yO := by
    obtain ⟨-, -, g78, g79, g81, g82⟩ := p4
    refine ⟨q3, fun s _ hk => absurd hk (Int.lt_irrefl 0), gB_off g78 (q2 78 (by omega)), gB_off g79 (q2 79 (by omega)), gB_off g81 (q2 81 (by omega)), gB_off g82 (q2 82 (by omega))⟩
  obtain ⟨Sr, r1, r2, r3⟩ := hcM Sq (fT_iT (fT_iT hI1 p2) fq) mq
  have f5 : fT S1 Sr := fT_tr (fT_tr p2 fq) (fM_T r3)
  obtain ⟨S2, t1, t2, t3⟩ := takes_s (fT_iT hI1 f5) yO_b hB (r := 16) (by omega) r2 (fM_16 r3 (gR_cong p3 (fun i _ => by show Sq 85 _ = Sp 85 _; rw [q2 85 (by omega)])))
  have t1' : M_takes 16 Sr = some S2 := t1
  have x1' : C_hopeless_L22 qF 0 0 Sb = some (R, Sc) := x1
  have r1' : M_hopeless_L31 qF 0 0 Sq = some (R, Sr) := r1
  have q1' : M_hopeless_L8 qF 0 Sp = some Sq := q1
  refine ⟨R, S1, S2, ?_, ?_, read_iG hA' hw ⟨o, m, hH⟩ hK hR hF f3 y2 (fT_tr f5 (fZ_T t3)) t2⟩
  · rw [C_hopeless, v1]
    simp only [ob_sn]
    rw [w1]
    simp only [ob_sn]
    rw [x1']
    simp only [ob_sn]
    rw [y1]
    rfl
  · rw [M_hopeless, p1]
    simp only [ob_sn]
    rw [q1']
    simp only [ob_sn]
    rw [r1']
    simp only [ob_sn]
    rw [t1']
    rfl
end PSW
