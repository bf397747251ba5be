/-! places -/
section PJ
variable {T lev : Nat → Int} {Y : qY}
theorem places_L {s : Nat} (hs : (s : Int) < T 9) (hB : bY T lev Y) (hw : wP T lev Y) (hT : bT T) {t k i : Int} (ht : qR t) (hk : qR k) (hi : qR i) : ∀ (j n n2 : Nat) (x f a : Int), 0 ≤ x → T 0 - sCon T s 0 < x + 10 * j → x ≤ 1010 → 0 ≤ f → f ≤ x → j < n → j < n2 → ∃ F A, f ≤ F ∧ (¬ (f ≤ i ∧ i < F) → A = a) ∧ (∀ S, iT S T lev → cY S T lev (yX Y s) → ∃ S', C_places_L55 n (s : Int) t k i f a (T 0 - sCon T s 0) x S = some (F, A, S') ∧ cY S' T lev (yX Y s) ∧ fL S S') ∧ (∀ S, iT S T lev → mY S T lev Y → ∃ S', M_places_L22 n2 (s : Int) t k i f x S = some (if f ≤ i ∧ i < F then .inr (A, S') else .inl (F, S')) ∧ mY S' T lev Y ∧ fM S S')
  | 0, n + 1, n2 + 1, x, f, a, h0, h1, h2, h3, h4, _, _ => by
    have b0 := hT.1
    have cn := bT_con hT hs
    refine ⟨f, a, Int.le_refl f, fun _ => rfl, fun S hI hc => ⟨S, ?_, hc, fL_rfl⟩, fun S hI hm => ⟨S, ?_, hm, fM_rfl⟩⟩
    · rw [C_places_L55]
      simp (disch := omega) only [qk_r, if_pos (show T 0 - sCon T s 0 < x by omega)]
    · have c0 : M_of (s : Int) 0 S = some (sCon T s 0, S) := M_of_s hI hs (w := 0) (by omega)
      have e0 := hI.2.2.1 0
      rw [M_places_L22, c0, if_neg (by omega)]
      simp (disch := omega) only [ob_some, qk_r, e0, if_pos (show T 0 < x + sCon T s 0 by omega)]
  | j + 1, n + 1, n2 + 1, x, f, a, h0, h1, h2, h3, h4, hn, hn2 => by
    have b0 := hT.1
    have cn := bT_con hT hs
    obtain ⟨t1, t2⟩ := id ht
    obtain ⟨i1, i2⟩ := id hi
    by_cases gx : T 0 - sCon T s 0 < x
    · refine ⟨f, a, Int.le_refl f, fun _ => rfl, fun S hI hc => ⟨S, ?_, hc, fL_rfl⟩, fun S hI hm => ⟨S, ?_, hm, fM_rfl⟩⟩
      · rw [C_places_L55]
        simp (disch := omega) only [qk_r, if_pos gx]
      · have c0 : M_of (s : Int) 0 S = some (sCon T s 0, S) := M_of_s hI hs (w := 0) (by omega)
        have e0 := hI.2.2.1 0
        rw [M_places_L22, c0, if_neg (by omega)]
        simp (disch := omega) only [ob_some, qk_r, e0, if_pos (show T 0 < x + sCon T s 0 by omega)]
    · have lr := sLaw_rng (T := T) (lev := lev) (Y := yX Y s) s x t k
      have stC : ∀ S, iT S T lev → cY S T lev (yX Y s) → ∃ S', (∀ B : Option (Int × Int × qSto), C_places_L55 (n + 1) (s : Int) t k i f a (T 0 - sCon T s 0) x S = (if sLaw T lev (yX Y s) s x t k = 0 then C_places_L55 n (s : Int) t k i (f + 1) (if f = i then x else a) (T 0 - sCon T s 0) (x + 10) S' else C_places_L55 n (s : Int) t k i f a (T 0 - sCon T s 0) (x + 10) S')) ∧ iT S' T lev ∧ cY S' T lev (yX Y s) ∧ fL S S' := fun S hI hc => by
        obtain ⟨S', v1, v2, v3, v4⟩ := stepC hs hB hI hc (x := x) (t := t) (k := k) ⟨by omega, by omega⟩ ht hk
        refine ⟨S', fun _ => ?_, v2, v3, v4⟩
        rw [C_places_L55, qk_r (by omega) (by omega), qk_r (by omega) (by omega), if_neg gx, v1]
        simp only [ob_some]
        rw [qk_r (by omega) (by omega)]
        by_cases q : sLaw T lev (yX Y s) s x t k = 0
        · rw [if_pos q, if_pos q, qk_r (by omega) (by omega), qk_r i1 i2]
          by_cases q2 : f = i
          · rw [if_pos q2, if_pos q2]
            rfl
          · rw [if_neg q2, if_neg q2]
            rfl
        · rw [if_neg q, if_neg q]
          rfl
      have stM : ∀ S, iT S T lev → mY S T lev Y → ∃ S', M_places_L22 (n2 + 1) (s : Int) t k i f x S = (if sLaw T lev (yX Y s) s x t k = 0 then (if f = i then some (.inr (x, S')) else M_places_L22 n2 (s : Int) t k i (f + 1) (x + 10) S') else M_places_L22 n2 (s : Int) t k i f (x + 10) S') ∧ iT S' T lev ∧ mY S' T lev Y ∧ fM S S' := fun S hI hm => by
        have c0 : M_of (s : Int) 0 S = some (sCon T s 0, S) := M_of_s hI hs (w := 0) (by omega)
        have e0 := hI.2.2.1 0
        obtain ⟨S', v1, v2, v3, v4⟩ := stepM hs hB hw hI hm (x := x) (t := t) (k := k) ⟨by omega, by omega⟩ ht hk
        refine ⟨S', ?_, v2, v3, v4⟩
        rw [M_places_L22, c0]
        simp (disch := omega) only [ob_some, qk_r, e0, if_neg (show ¬ T 0 < x + sCon T s 0 by omega), v1]
      by_cases q : sLaw T lev (yX Y s) s x t k = 0
      · by_cases q2 : f = i
        · obtain ⟨F, A, r1, r2, r3, r4⟩ := places_L hs hB hw hT ht hk hi j n n2 (x + 10) (f + 1) x (by omega) (by omega) (by omega) (by omega) (by omega) (by omega) (by omega)
          have eA := r2 (by omega)
          refine ⟨F, A, by omega, fun z => absurd (show f ≤ i ∧ i < F by omega) z, fun S hI hc => ?_, fun S hI hm => ?_⟩
          · obtain ⟨S', v1, v2, v3, v4⟩ := stC S hI hc
            obtain ⟨S2, z1, z2, z3⟩ := r3 S' v2 v3
            refine ⟨S2, ?_, z2, fL_tr v4 z3⟩
            rw [v1 none, if_pos q, if_pos q2]
            exact z1
          · obtain ⟨S', v1, v2, v3, v4⟩ := stM S hI hm
            refine ⟨S', ?_, v3, v4⟩
            rw [v1, if_pos q, if_pos q2, if_pos (show f ≤ i ∧ i < F by omega), eA]
        · obtain ⟨F, A, r1, r2, r3, r4⟩ := places_L hs hB hw hT ht hk hi j n n2 (x + 10) (f + 1) a (by omega) (by omega) (by omega) (by omega) (by omega) (by omega) (by omega)
          refine ⟨F, A, by omega, fun z => r2 (by omega), fun S hI hc => ?_, fun S hI hm => ?_⟩
          · obtain ⟨S', v1, v2, v3, v4⟩ := stC S hI hc
            obtain ⟨S2, z1, z2, z3⟩ := r3 S' v2 v3
            refine ⟨S2, ?_, z2, fL_tr v4 z3⟩
            rw [v1 none, if_pos q, if_neg q2]
            exact z1
          · obtain ⟨S', v1, v2, v3, v4⟩ := stM S hI hm
            obtain ⟨S2, z1, z2, z3⟩ := r4 S' v2 v3
            refine ⟨S2, ?_, z2, fM_tr v4 z3⟩
            rw [v1, if_pos q, if_neg q2, z1]
            by_cases c : f ≤ i ∧ i < F
            · rw [if_pos c, if_pos (by omega)]
            · rw [if_neg c, if_neg (by omega)]
      · obtain ⟨F, A, r1, r2, r3, r4⟩ := places_L hs hB hw hT ht hk hi j n n2 (x + 10) f a (by omega) (by omega) (by omega) (by omega) (by omega) (by omega) (by omega)
        refine ⟨F, A, r1, r2, fun S hI hc => ?_, fun S hI hm => ?_⟩
        · obtain ⟨S', v1, v2, v3, v4⟩ := stC S hI hc
          obtain ⟨S2, z1, z2, z3⟩ := r3 S' v2 v3
          refine ⟨S2, ?_, z2, fL_tr v4 z3⟩
          rw [v1 none, if_neg q]
          exact z1
        · obtain ⟨S', v1, v2, v3, v4⟩ := stM S hI hm
          obtain ⟨S2, z1, z2, z3⟩ := r4 S' v2 v3
          refine ⟨S2, ?_, z2, fM_tr v4 z3⟩
          rw [v1, if_neg q, z1]
theorem p_places {S : qSto} (h : iA S T lev Y) (hw : wY T lev Y) {a t k i : Int} (ha : qR a) (ht : qR t) (hk : qR k) (hi : qR i) : ∃ r S1 S2, C_places a t k i S = some (r, S1) ∧ M_places a t k i S1 = some (r, S2) ∧ fC S S1 ∧ fM S1 S2 ∧ iA S2 T lev Y := by
  obtain ⟨hI, hB, hc, hm⟩ := id h
  obtain ⟨i1, i2⟩ := id hi
  have b9 := bT_n hI.1
  have b0 := hI.1.1
  by_cases g : 0 ≤ a ∧ a < T 9
  · have fa : ((a.toNat : Nat) : Int) = a := by omega
    have hs : ((a.toNat : Nat) : Int) < T 9 := by omega
    have cn := bT_con hI.1 hs
    by_cases g2 : -1 ≤ i
    · obtain ⟨S1, u1, u2, u3, u4⟩ := upBack hI hB hc hs
      obtain ⟨F, A, r1, r2, r3, r4⟩ := places_L hs hB hw.1 hI.1 ht hk hi 100 qF qF 0 0 (-2) (by omega) (by omega) (by omega) (by omega) (by omega) (by unfold qF; omega) (by unfold qF; omega)
      obtain ⟨S2, v1, v2, v3⟩ := r3 S1 u2 u3
      obtain ⟨S3, w1, w2, w3⟩ := u4 S2 v2 v3
      have hm3 := fC_mY hm w3
      have hI3 := fC_iT hI w3
      obtain ⟨S4, y1, y2, y3⟩ := r4 S3 hI3 hm3
      have ec : Told_contractOf ((a.toNat : Nat) : Int) 0 S1 = some (sCon T a.toNat 0, S1) := Told_contractOf_s u2 hs (w := 0) (by omega)
      have e0 := u2.2.1.1 0 (by omega)
      rw [fa] at u1 v1 w1 y1 ec
      have cls : C_places a t k i S = some (if i = -1 then (F, S3) else (A, S3)) := by
        simp (disch := omega) only [C_places, C_isShip_s hI ha, ob_some, ite01_r, ite01_e, qk_r]
        rw [if_pos g, if_pos g2, u1]
        simp only [ob_some]
        rw [ec]
        simp only [ob_some]
        rw [e0, v1]
        simp only [ob_some]
        rw [w1]
        simp only [ob_some]
        split <;> rfl
      have mdl : M_places a t k i S3 = Option.bind (M_places_L22 qF a t k i 0 0 S3) (fun q3368 => Sum.elim (fun t3370 => qk (qRb i) (if i = (-1) then some (t3370.1, t3370.2) else some ((-2), t3370.2))) (fun w => some w) q3368) := by
        simp (disch := omega) only [M_places, M_isShip_s hI3 ha, ob_some, ite01_r, ite01_e, qk_r]
        rw [if_pos g, if_pos g2]
      rw [cls]
      by_cases q : i = -1
      · rw [if_pos q]
        refine ⟨F, S3, S4, rfl, ?_, w3, y3, iA_q h w3 w2 y3 y2⟩
        rw [mdl, y1, if_neg (show ¬ (0 ≤ i ∧ i < F) by omega)]
        simp (disch := omega) only [ob_some, Sum.elim_inl, qk_r, if_pos q]
      · rw [if_neg q]
        refine ⟨A, S3, S4, rfl, ?_, w3, y3, iA_q h w3 w2 y3 y2⟩
        rw [mdl, y1]
        by_cases c : 0 ≤ i ∧ i < F
        · rw [if_pos c]
          rfl
        · rw [if_neg c, r2 c]
          simp (disch := omega) only [ob_some, Sum.elim_inl, qk_r, if_neg q]
    · refine ⟨-1, S, S, ?_, ?_, fC_rfl, fM_rfl, h⟩
      · simp (disch := omega) only [C_places, C_isShip_s hI ha, ob_some, ite01_r, ite01_e, qk_r]
        rw [if_pos g, if_neg g2]
      · simp (disch := omega) only [M_places, M_isShip_s hI ha, ob_some, ite01_r, ite01_e, qk_r]
        rw [if_pos g, if_neg g2]
  · refine ⟨-1, S, S, ?_, ?_, fC_rfl, fM_rfl, h⟩
    · simp only [C_places, C_isShip_s hI ha, ob_some, ite01_r, ite01_e]
      rw [if_neg g]
    · simp only [M_places, M_isShip_s hI ha, ob_some, ite01_r, ite01_e]
      rw [if_neg g]
end PJ
