/-! cranes and gangs -/
section PCG
variable {B : Nat → Int} {n : Nat} {F : Nat → Int} {o : Int} {N : Nat → Int} {ln : Nat → Int}
theorem line_crane (hb : hBy B n) (hs : hS F o N ln) {i : Nat} (hi : i ≤ n) (hg : ¬ gD B (upto isB B n i)) (hk : kAt B n i = 7) : lBad B n F o N ln i ∨ lOk B n F o N ln i := by
  have h12 := hb.1
  have hT := hs.1
  have b6 : 0 ≤ F 6 ∧ F 6 ≤ 8 := hT.2.2.2.2.2.2.1
  have b7 : 0 ≤ F 7 ∧ F 7 ≤ 8 := hT.2.2.2.2.2.2.2.1
  have b8 : 0 ≤ F 8 ∧ F 8 ≤ 30 := hT.2.2.2.2.2.2.2.2.1
  obtain ⟨c, hc⟩ : ∃ c : Nat, F 7 = c := ⟨(F 7).toNat, by omega⟩
  have c8 : c ≤ 8 := by omega
  have hne : kAt B n i ≠ -1 := by omega
  have eM : ∀ S, tok B n i S → M_line S = Option.bind (M_craneLine S) mTail := fun S ht => by
    rw [M_line_e hi ht hg, hk]
    rw [if_neg (by omega), if_pos (by omega), if_neg (by omega), if_pos rfl]
    rw [b_some]
  obtain ⟨H1, hH1⟩ : ∃ H1 : Int → Int → qSto → Option qSto, H1 = fun v0 x S => Option.bind (qk (qRb (S 70 11)) (if (S 70 11) = 0 then (qk (qRb x) (qk (qRb v0) (if v0 ≤ x then some S else (Option.bind (M_fail 2 (S 70 13) S) (fun q2328 => some q2328))))) else some S) : Option qSto) (fun t2330 => mTail (qup (qup (qup t2330 71 (27 + c) v0) 71 (35 + c) x) 71 7 ((c : Int) + 1))) := ⟨_, rfl⟩
  obtain ⟨H0, hH0⟩ : ∃ H0 : Int → qSto → Option qSto, H0 = fun x S => Option.bind (M_number 0 999 S) (fun q => H1 x q.1 q.2) := ⟨_, rfl⟩
  have fe : ∀ v0 x S kk q, mF kk q S → mF kk q (qup (qup (qup S 71 (27 + c) v0) 71 (35 + c) x) 71 7 ((c : Int) + 1)) := fun v0 x S kk q hf => mF_71 (mF_71 (mF_71 hf))
  have f1 : ∀ v0 x S kk q, mF kk q S → ∃ S', H1 v0 x S = some S' ∧ mF kk q S' ∧ fml S S' := fun v0 x S kk q hf => by
    have := hf.1
    refine ⟨_, ?_, fe v0 x S kk q hf, fml_tr fml_71 (fml_tr fml_71 fml_71)⟩
    rw [hH1]
    simp only
    rw [hf.2.1, qk_r (by omega) (by omega), if_neg (by omega)]
    simp only [ob_sn]
    exact mTail_f (fe v0 x S kk q hf)
  have f0 : ∀ x S kk q, mF kk q S → ∃ S', H0 x S = some S' ∧ mF kk q S' ∧ fml S S' := fun x S kk q hf => by
    obtain ⟨S', u1, u2, u3⟩ := f1 x 0 S kk q hf
    exact ⟨S', by rw [hH0]; simp only; rw [number_f hf]; exact u1, u2, u3⟩
  refine RES_begin (b := if c = 8 then 1 else 0) (Gm := fun S => Option.bind (M_number 0 999 S) (fun q => H0 q.1 q.2)) hb hi (show 6 ≤ 7 by omega) (by omega) hk (by split <;> simp) (fun S1 h1 => ?_) (fun hb1 S hm ht => ?_) (fun hb0 S hm ht => ?_) (fun hb0 hpp hlt => ?_)
  · have e3 : S1 3 5 = c := by rw [← hc]; exact h1.2.1.2.2.1
    show Heard_isFull 7 S1 = _
    rw [Heard_isFull, qk_r (by omega) (by omega), if_neg (by omega), if_pos rfl, e3, qk_r (by omega) (by omega)]
    by_cases w : c = 8
    · rw [if_neg (by omega), if_pos w]
    · rw [if_pos (by omega), if_neg w]
  · have w : c = 8 := by
      by_cases w : c = 8
      · exact w
      · rw [if_neg w] at hb1
        omega
    obtain ⟨S', u1, u2, u3⟩ := begins_full (c := 7) (mx := 8) (by omega) hm ht (by rw [hc, w]; rfl) ⟨by omega, by omega⟩
    have u1' : M_begins 7 8 S = some (0, S') := u1
    refine ⟨S', ?_, u2, u3⟩
    rw [eM S ht, M_craneLine, u1']
    simp only [ob_sn]
    rw [qk_r (by omega) (by omega), if_pos trivial]
    exact mTail_f u2
  · have w : c ≠ 8 := by
      intro w
      rw [if_pos w] at hb0
      omega
    obtain ⟨S1, u1, u2, u3⟩ := begins_ok hb (c := 7) (mx := 8) hi hne (by omega) hm ht (by rw [hc]; omega) ⟨by omega, by omega⟩ ⟨by omega, by omega⟩
    have u1' : M_begins 7 8 S = some (1, S1) := u1
    refine ⟨S1, u2, ?_, u3⟩
    have e6 : S1 71 7 = c := by rw [u2.1.2.1, hc]
    have i1 : ((27 : Int) + (c : Int)).toNat = 27 + c := by omega
    have i2 : ((35 : Int) + (c : Int)).toNat = 35 + c := by omega
    rw [eM S ht, M_craneLine, u1']
    simp only [ob_sn]
    rw [qk_r (by omega) (by omega), if_neg (by omega), e6, i1, i2]
    cases M_number 0 999 S1 with
    | none => rfl
    | some q =>
      simp only [ob_sn]
      rw [hH0]
      simp only
      cases M_number 0 999 q.2 with
      | none => rfl
      | some r =>
        simp only [ob_sn]
        rw [hH1]
        simp only
        cases (qk (qRb (r.2 70 11)) (if (r.2 70 11) = 0 then (qk (qRb r.1) (qk (qRb q.1) (if q.1 ≤ r.1 then some r.2 else (Option.bind (M_fail 2 (r.2 70 13) r.2) (fun q2328 => some q2328))))) else some r.2) : Option qSto) with
        | none => rfl
        | some t =>
          simp only [ob_sn]
          rw [qk_ix (by omega) (by omega), qk_ix (by omega) (by omega)]
          rfl
  · have w : c < 8 := by
      by_cases w : c = 8
      · rw [if_pos w] at hb0
        omega
      · omega
    generalize hpd : upto isL B n (upto isB B n i) = p at hpp hlt
    refine RES_num (lo := 0) (hi := 999) (lo' := 0) (hi' := 999) (t := False) (H := H0) hb hpp (by unfold qF; omega) (by omega) (by omega) (by decide) (fun S' _ => rfl) ⟨by omega, by omega⟩ (by decide) ⟨by omega, by omega⟩ ⟨by omega, by omega⟩ ⟨by omega, by omega⟩ (fun _ _ _ S3 _ _ => by rw [cI_f (fun z => z)]; rfl) f0 (fun _ a b => ⟨a, b⟩) (fun _ a => Or.inl a) (fun _ _ _ z => z.elim) (fun ok v1 v2 _ hpp2 hlt2 => ?_)
    have vb := vN_b hpp.1.2 ok
    refine RES_step (Ac' := cA B n F o N (eD B n p) 1 (fU (fun _ => 0) 0 (vN B n p))) (Gc' := cGo (qF - 1) 7 1) (Am' := mA B n F o N ln (eD B n p)) (Gm' := fun S => Option.bind (M_number 0 999 S) (fun q => H1 (vN B n p) q.1 q.2)) (fun S hc' => ⟨S, hc', rfl, fun _ _ => rfl, rfl, rfl⟩) (fun S hm => ⟨S, hm.1, by rw [hH0], fml_rfl⟩) ?_
    generalize hqd : eD B n p = q at hpp2 hlt2
    refine RES_num (lo := vN B n p) (hi := 999) (lo' := 0) (hi' := 999) (t := False) (H := H1 (vN B n p)) hb hpp2 (by unfold qF; omega) (by omega) (by omega) (by decide) (fun S' hn => by
      show some (S' 35 0, S') = _
      rw [hn 0 (by omega), fU_on]) ⟨by omega, by omega⟩ (by decide) ⟨by omega, by omega⟩ ⟨by omega, by omega⟩ ⟨by omega, by omega⟩ (fun _ _ _ S3 _ _ => by rw [cI_f (fun z => z)]; rfl) (f1 (vN B n p)) (fun ok2 a b => ⟨by omega, b⟩) (fun ok2 a => ?_) (fun _ _ _ z => z.elim) (fun ok2 w1 w2 _ hpp3 hlt3 => ?_)
    · have vb2 := vN_b hpp2.1.2 ok2
      by_cases z : vN B n q ≤ 999
      · right
        intro S hm h13
        have vf : mF 2 (S 70 13) (qup (qup S 70 11 2) 70 12 (S 70 13)) := mF_fail (by omega)
        have vf' := fe (vN B n p) (vN B n q) _ _ _ vf
        refine ⟨_, ?_, by rw [← h13]; exact vf', fml_tr (gM_l (gM_fail (by omega))) (fml_tr fml_71 (fml_tr fml_71 fml_71))⟩
        rw [hH1]
        simp only
        rw [hm.1.2.2.2.2, qk_r (by omega) (by omega), if_pos rfl, qk_r (by omega) (by omega), qk_r (by omega) (by omega), if_neg (by omega), fail_0 hm.1.2.2.2.2]
        simp only [ob_sn]
        exact mTail_f vf'
      · left
        omega
    · have vb2 := vN_b hpp2.1.2 ok2
      obtain ⟨G, hG⟩ : ∃ G, G = fU (fU (fU F (27 + c) (vN B n p)) (35 + c) (vN B n q)) 7 ((c : Int) + 1) := ⟨_, rfl⟩
      have g10 : F 10 = G 10 := by rw [hG, fU_off (by omega), fU_off (by omega), fU_off (by omega)]
      have gn : G 7 = (c : Int) + 1 := by rw [hG, fU_on]
      have ev : ∀ j, j ≠ 27 + c → j ≠ 35 + c → j ≠ 7 → G j = F j := fun j a b d => by rw [hG, fU_off d, fU_off b, fU_off a]
      have ga : G (27 + c) = vN B n p := by rw [hG, fU_off (by omega), fU_off (by omega), fU_on]
      have gb : G (35 + c) = vN B n q := by rw [hG, fU_off (by omega), fU_on]
      rw [g10]
      refine RES_step (Ac' := cA B n F o N (eD B n q) 2 (fU (fU (fun _ => 0) 0 (vN B n p)) 1 (vN B n q))) (Gc' := cGo (qF - 1 - 1) 7 2) (Am' := mA B n G o N ln (eD B n q)) (Gm' := mTail) (fun S hc' => ⟨S, hc', rfl, fun _ _ => rfl, rfl, rfl⟩) (fun S hm => ⟨qup (qup (qup S 71 (27 + c) (vN B n p)) 71 (35 + c) (vN B n q)) 71 7 ((c : Int) + 1), by rw [hG]; exact mA_up (mA_up (mA_up hm.1 (by omega)) (by omega)) (by omega), ?_, fml_tr fml_71 (fml_tr fml_71 fml_71)⟩) ?_
      · rw [hH1]
        simp only
        rw [hm.1.1.2.2.2.2, qk_r (by omega) (by omega), if_pos rfl, qk_r (by omega) (by omega), qk_r (by omega) (by omega), if_pos w1]
        rfl
      refine RES_end hb (eD_b (B := B) hpp2.1.2).2.2 (by omega) (by unfold qF; omega) (by omega) (by omega) (by decide) (fun _ => ?_) (fun S hcv hn => ?_)
      · refine ⟨?_, hs.2.1, by rw [ev 10 (by omega) (by omega) (by omega)]; exact hs.2.2.1, by rw [ev 9 (by omega) (by omega) (by omega)]; exact hs.2.2.2⟩
        obtain ⟨h0, h1, h2, h3, h4, h5, h6, h7, h8, h9, hS', hC', hT', hG', hH'⟩ := hT
        unfold bT
        rw [ev 0 (by omega) (by omega) (by omega), ev 1 (by omega) (by omega) (by omega), ev 2 (by omega) (by omega) (by omega), ev 3 (by omega) (by omega) (by omega), ev 4 (by omega) (by omega) (by omega), ev 5 (by omega) (by omega) (by omega), ev 6 (by omega) (by omega) (by omega), ev 8 (by omega) (by omega) (by omega), ev 9 (by omega) (by omega) (by omega), gn]
        refine ⟨h0, h1, h2, h3, h4, h5, h6, by omega, h8, h9, fun u hu => ?_, fun u hu => ?_, fun u hu => ?_, fun u hu => ?_, fun s hs' => ?_⟩
        · rw [ev _ (by omega) (by omega) (by omega), ev _ (by omega) (by omega) (by omega)]
          refine ⟨(hS' u hu).1, (hS' u hu).2.1, fun j hj => ?_⟩
          rw [ev _ (by omega) (by omega) (by omega)]
          exact (hS' u hu).2.2 j hj
        · by_cases z : u = c
          · rw [z, ga, gb]
            omega
          · rw [ev _ (by omega) (by omega) (by omega), ev _ (by omega) (by omega) (by omega)]
            exact hC' u (by omega)
        · rw [ev _ (by omega) (by omega) (by omega), ev _ (by omega) (by omega) (by omega)]
          exact hT' u hu
        · rw [ev _ (by omega) (by omega) (by omega)]
          exact hG' u hu
        · rw [ev _ (by omega) (by omega) (by omega), ev _ (by omega) (by omega) (by omega), ev _ (by omega) (by omega) (by omega), ev _ (by omega) (by omega) (by omega), ev _ (by omega) (by omega) (by omega), ev _ (by omega) (by omega) (by omega), ev _ (by omega) (by omega) (by omega), ev _ (by omega) (by omega) (by omega), ev _ (by omega) (by omega) (by omega)]
          exact hH' s hs'
      · obtain ⟨c1, c2, c3, c4⟩ := id hcv
        obtain ⟨a0, a1, a2, a3, a4, a5, a6, a7, a8, a9⟩ := c2
        have e3 : S 3 5 = c := by rw [← hc]; exact a2
        have x0 : S 35 0 = vN B n p := by rw [hn 0 (by omega), fU_off (by omega)]; exact fU_on
        have x1 : S 35 1 = vN B n q := by rw [hn 1 (by omega)]; exact fU_on
        have y1 : (qup S 28 c (vN B n p)) 3 5 = c := by rw [qup_off (by omega), e3]
        have y2 : (qup S 28 c (vN B n p)) 35 1 = vN B n q := by rw [qup_off (by omega), x1]
        have y3 : (qup (qup S 28 c (vN B n p)) 29 c (vN B n q)) 3 5 = c := by rw [qup_off (by omega), y1]
        obtain ⟨S', hS'⟩ : ∃ S', S' = qup (qup (qup S 28 c (vN B n p)) 29 c (vN B n q)) 3 5 ((c : Int) + 1) := ⟨_, rfl⟩
        have yo : ∀ d, d ≠ 3 → d ≠ 28 → d ≠ 29 → S' d = S d := fun d h1 h2 h3 => by rw [hS', qup_off h1, qup_off h3, qup_off h2]
        have z3 : ∀ u, u ≠ 5 → S' 3 u = S 3 u := fun u hu => by rw [hS', qup_on, if_neg hu, qup_off (by omega), qup_off (by omega)]
        have zc : S' 3 5 = (c : Int) + 1 := by rw [hS', qup_on, if_pos rfl]
        have zx : ∀ u, S' 28 u = if u = c then vN B n p else S 28 u := fun u => by rw [hS', qup_off (by omega), qup_off (by omega), qup_on]
        have zy : ∀ u, S' 29 u = if u = c then vN B n q else S 29 u := fun u => by rw [hS', qup_off (by omega), qup_on, qup_off (by omega)]
        refine ⟨S', ?_, ⟨⟨by rw [yo 4 (by omega) (by omega) (by omega)]; exact c1.1, by rw [yo 1 (by omega) (by omega) (by omega)]; exact c1.2⟩, ⟨fun u hu => ?_, by rw [z3 2 (by omega), ev 6 (by omega) (by omega) (by omega)]; exact a1, by rw [zc, gn], by rw [z3 8 (by omega), ev 8 (by omega) (by omega) (by omega)]; exact a3, by rw [z3 12 (by omega), ev 9 (by omega) (by omega) (by omega)]; exact a4, fun u hu => ?_, fun u hu => ?_, fun u hu => ?_, fun u hu => ?_, fun s hs' w' hw' => ?_⟩, by rw [z3 1 (by omega)]; exact c3, fun u => ?_⟩, yo 4 (by omega) (by omega) (by omega), fun d hd => yo d (by omega) (by omega) (by omega)⟩
        · show Heard_take_35 7 S = _
          rw [Heard_take_35, qk_r (by omega) (by omega), if_pos (by omega), qk_r (by omega) (by omega), if_neg (by omega), qk_r (by omega) (by omega), if_pos rfl, e3, x0, Int.toNat_natCast, y1, y2, Int.toNat_natCast, y3, qk_ix (by omega) (by omega), qk_ix (by omega) (by omega), ← hS']
        · rw [yo 25 (by omega) (by omega) (by omega), ev _ (by omega) (by omega) (by omega)]
          exact a0 u hu
        · rw [ev 6 (by omega) (by omega) (by omega)] at hu
          rw [yo 26 (by omega) (by omega) (by omega), yo 27 (by omega) (by omega) (by omega), ev _ (by omega) (by omega) (by omega), ev _ (by omega) (by omega) (by omega)]
          exact a5 u hu
        · rw [gn] at hu
          rw [zx, zy]
          by_cases z : u = c
          · rw [if_pos z, if_pos z, z, ga, gb]
            exact ⟨rfl, rfl⟩
          · rw [if_neg z, if_neg z, ev _ (by omega) (by omega) (by omega), ev _ (by omega) (by omega) (by omega)]
            exact a6 u (by omega)
        · rw [ev 8 (by omega) (by omega) (by omega)] at hu
          rw [yo 30 (by omega) (by omega) (by omega), yo 31 (by omega) (by omega) (by omega), ev _ (by omega) (by omega) (by omega), ev _ (by omega) (by omega) (by omega)]
          exact a7 u hu
        · rw [yo 32 (by omega) (by omega) (by omega), ev _ (by omega) (by omega) (by omega)]
          exact a8 u hu
        · rw [ev 9 (by omega) (by omega) (by omega)] at hs'
          rw [yo 33 (by omega) (by omega) (by omega), ev _ (by omega) (by omega) (by omega)]
          exact a9 s hs' w' hw'
        · rw [yo 34 (by omega) (by omega) (by omega)]
          exact c4 u
theorem line_gangs (hb : hBy B n) (hs : hS F o N ln) {i : Nat} (hi : i ≤ n) (hg : ¬ gD B (upto isB B n i)) (hk : kAt B n i = 9) : lBad B n F o N ln i ∨ lOk B n F o N ln i := by
  have h12 := hb.1
  have hT := hs.1
  have b6 : 0 ≤ F 6 ∧ F 6 ≤ 8 := hT.2.2.2.2.2.2.1
  have b7 : 0 ≤ F 7 ∧ F 7 ≤ 8 := hT.2.2.2.2.2.2.2.1
  have b8 : 0 ≤ F 8 ∧ F 8 ≤ 30 := hT.2.2.2.2.2.2.2.2.1
  have bg : ∀ k : Nat, k < 21 → -1 ≤ F (103 + k) ∧ F (103 + k) ≤ 9 := hT.2.2.2.2.2.2.2.2.2.2.2.2.2.1
  have hne : kAt B n i ≠ -1 := by omega
  have eM : ∀ S, tok B n i S → M_line S = Option.bind (M_gangsLine S) mTail := fun S ht => by
    rw [M_line_e hi ht hg, hk]
    rw [if_neg (by omega), if_pos (by omega), if_neg (by omega), if_neg (by omega), if_neg (by omega), if_pos rfl]
    rw [b_some]
  obtain ⟨H1, hH1⟩ : ∃ H1 : Int → Int → qSto → Option qSto, H1 = fun d x S => Option.bind (qk (qRb (S 70 11)) (if (S 70 11) ≤ 0 then (qk (qIx ((103 + (3 * d)) + x) 250) (Option.bind (qk (qRb (S 71 (Int.toNat ((103 + (3 * d)) + x)))) (if (S 71 (Int.toNat ((103 + (3 * d)) + x))) = (-1) then some S else (Option.bind (M_fail 3 (S 70 13) S) (fun q2284 => some q2284))) : Option qSto) (fun t2286 => Option.bind (M_number 0 9 t2286) (fun q2287 => qk (qIx ((103 + (3 * d)) + x) 250) (some (qup q2287.2 71 (Int.toNat ((103 + (3 * d)) + x)) q2287.1)))))) else some S)) mTail := ⟨_, rfl⟩
  obtain ⟨H0, hH0⟩ : ∃ H0 : Int → qSto → Option qSto, H0 = fun x S => Option.bind (M_number 0 2 S) (fun q => H1 x q.1 q.2) := ⟨_, rfl⟩
  have f1 : ∀ d x S kk q, mF kk q S → ∃ S', H1 d x S = some S' ∧ mF kk q S' ∧ fml S S' := fun d x S kk q hf => by
    have := hf.1
    refine ⟨S, ?_, hf, fml_rfl⟩
    rw [hH1]
    simp only
    rw [hf.2.1, qk_r (by omega) (by omega), if_neg (by omega)]
    exact mTail_f hf
  have f0 : ∀ x S kk q, mF kk q S → ∃ S', H0 x S = some S' ∧ mF kk q S' ∧ fml S S' := fun x S kk q hf => by
    obtain ⟨S', u1, u2, u3⟩ := f1 x 0 S kk q hf
    exact ⟨S', by rw [hH0]; simp only; rw [number_f hf]; exact u1, u2, u3⟩
  refine RES_begin (b := 0) (Gm := fun S => Option.bind (M_number 0 6 S) (fun q => H0 q.1 q.2)) hb hi (show 6 ≤ 9 by omega) (by omega) hk (Or.inl rfl) (fun S1 h1 => rfl) (fun hb1 S hm ht => by omega) (fun hb0 S hm ht => ?_) (fun hb0 hpp hlt => ?_)
  · obtain ⟨S1, u1, u2, u3, u4⟩ := word_on hb hi hne hm ht
    refine ⟨S1, ⟨u3, u2⟩, ?_, f7_l u4⟩
    rw [eM S ht, M_gangsLine, u1]
    simp only [ob_sn]
    cases M_number 0 6 S1 with
    | none => rfl
    | some q =>
      simp only [ob_sn]
      rw [hH0]
      simp only
      cases M_number 0 2 q.2 with
      | none => rfl
      | some r =>
        simp only [ob_sn]
        rw [hH1]
  · generalize hpd : upto isL B n (upto isB B n i) = p at hpp hlt
    refine RES_num (lo := 0) (hi := 6) (lo' := 0) (hi' := 6) (t := False) (H := H0) hb hpp (by unfold qF; omega) (by omega) (by omega) (by decide) (fun S' _ => rfl) ⟨by omega, by omega⟩ (by decide) ⟨by omega, by omega⟩ ⟨by omega, by omega⟩ ⟨by omega, by omega⟩ (fun _ _ _ S3 _ _ => by rw [cI_f (fun z => z)]; rfl) f0 (fun _ a b => ⟨a, b⟩) (fun _ a => Or.inl a) (fun _ _ _ z => z.elim) (fun ok v1 v2 _ hpp2 hlt2 => ?_)
    refine RES_step (Ac' := cA B n F o N (eD B n p) 1 (fU (fun _ => 0) 0 (vN B n p))) (Gc' := cGo (qF - 1) 9 1) (Am' := mA B n F o N ln (eD B n p)) (Gm' := fun S => Option.bind (M_number 0 2 S) (fun q => H1 (vN B n p) q.1 q.2)) (fun S hc' => ⟨S, hc', rfl, fun _ _ => rfl, rfl, rfl⟩) (fun S hm => ⟨S, hm.1, by rw [hH0], fml_rfl⟩) ?_
    generalize hqd : eD B n p = q at hpp2 hlt2
    obtain ⟨d, hd⟩ : ∃ d : Nat, vN B n p = d := ⟨(vN B n p).toNat, by omega⟩
    refine RES_num (lo := 0) (hi := 2) (lo' := 0) (hi' := 2) (t := F (103 + (3 * d + (vN B n q).toNat)) ≠ -1) (H := H1 (vN B n p)) hb hpp2 (by unfold qF; omega) (by omega) (by omega) (by decide) (fun S' _ => rfl) ⟨by omega, by omega⟩ (by decide) ⟨by omega, by omega⟩ ⟨by omega, by omega⟩ ⟨by omega, by omega⟩ (fun ok2 a b S3 hq hn => ?_) (f1 (vN B n p)) (fun _ a b => ⟨a, b⟩) (fun _ a => Or.inl a) (fun ok2 a b ht S hm h13 => ?_) (fun ok2 w1 w2 nt hpp3 hlt3 => ?_)
    · have x0 : S3 35 0 = d := by rw [hn 0 (by omega), fU_off (by omega), fU_on, hd]
      have x1 : S3 35 1 = vN B n q := by rw [hn 1 (by omega), fU_on]
      have ix : ((d : Int) * 3 + vN B n q).toNat = 3 * d + (vN B n q).toNat := by omega
      have e32 := hq.2.2.2.2.2.2.2.2.1 (3 * d + (vN B n q).toNat) (by omega)
      have bb := bg (3 * d + (vN B n q).toNat) (by omega)
      show Heard_isToldAlready_35 9 1 S3 = _
      rw [Heard_isToldAlready_35, qk_r (by omega) (by omega), if_neg (by omega), if_neg (by omega), if_neg (by omega), if_pos rfl, qk_r (by omega) (by omega), if_pos rfl, x0, x1, qk_ix (by omega) (by omega), ix, e32, qk_r (by omega) (by omega)]
      by_cases z : F (103 + (3 * d + (vN B n q).toNat)) = -1
      · rw [if_pos z, cI_f (fun y => y z)]
      · rw [if_neg z, cI_t z]
    · have ix : ((103 : Int) + (3 * (d : Int)) + vN B n q).toNat = 103 + (3 * d + (vN B n q).toNat) := by omega
      have bb := bg (3 * d + (vN B n q).toNat) (by omega)
      have vf : mF 3 (S 70 13) (qup (qup S 70 11 3) 70 12 (S 70 13)) := mF_fail (by omega)
      have vf' : mF 3 (S 70 13) (qup (qup (qup S 70 11 3) 70 12 (S 70 13)) 71 (103 + (3 * d + (vN B n q).toNat)) 0) := mF_71 vf
      refine ⟨_, ?_, by rw [← h13]; exact vf', fml_tr (gM_l (gM_fail (by omega))) fml_71⟩
      rw [hH1]
      simp only
      rw [hm.1.2.2.2.2, qk_r (by omega) (by omega), if_pos (by omega), hd, qk_ix (by omega) (by omega), ix, hm.1.2.1, qk_r (by omega) (by omega), if_neg ht, fail_0 hm.1.2.2.2.2]
      simp only [ob_sn]
      rw [number_f vf]
      simp only [ob_sn]
      rw [qk_ix (by omega) (by omega)]
      simp only [ob_sn]
      exact mTail_f vf'
    · have nt' : F (103 + (3 * d + (vN B n q).toNat)) = -1 := by
        by_cases z : F (103 + (3 * d + (vN B n q).toNat)) = -1
        · exact z
        · exact absurd z nt
      obtain ⟨x, hx⟩ : ∃ x : Nat, x = 3 * d + (vN B n q).toNat := ⟨_, rfl⟩
      have x21 : x < 21 := by omega
      rw [← hx] at nt'
      have ix : ((103 : Int) + (3 * (d : Int)) + vN B n q).toNat = 103 + x := by omega
      refine RES_step (Ac' := cA B n F o N (eD B n q) 2 (fU (fU (fun _ => 0) 0 (vN B n p)) 1 (vN B n q))) (Gc' := cGo (qF - 1 - 1) 9 2) (Am' := mA B n F o N ln (eD B n q)) (Gm' := fun S => Option.bind (M_number 0 9 S) (fun r => (fun y S => mTail (qup S 71 (103 + x) y)) r.1 r.2)) (fun S hc' => ⟨S, hc', rfl, fun _ _ => rfl, rfl, rfl⟩) (fun S hm => ⟨S, hm.1, ?_, fml_rfl⟩) ?_
      · rw [hH1]
        simp only
        rw [hm.1.1.2.2.2.2, qk_r (by omega) (by omega), if_pos (by omega), hd, qk_ix (by omega) (by omega), ix, hm.1.1.2.1, nt', qk_r (by omega) (by omega), if_pos rfl]
        simp only [ob_sn]
        cases M_number 0 9 S with
        | none => rfl
        | some r =>
          simp only [ob_sn]
          rw [qk_ix (by omega) (by omega)]
          rfl
      generalize hrd : eD B n q = r at hpp3 hlt3
      refine RES_num (lo := 0) (hi := 9) (lo' := 0) (hi' := 9) (t := False) (H := fun y S => mTail (qup S 71 (103 + x) y)) hb hpp3 (by unfold qF; omega) (by omega) (by omega) (by decide) (fun S' _ => rfl) ⟨by omega, by omega⟩ (by decide) ⟨by omega, by omega⟩ ⟨by omega, by omega⟩ ⟨by omega, by omega⟩ (fun _ _ _ S3 _ _ => by rw [cI_f (fun z => z)]; rfl) (fun y S kk q hf => ⟨_, mTail_f (mF_71 hf), mF_71 hf, fml_71⟩) (fun _ a b => ⟨a, b⟩) (fun _ a => Or.inl a) (fun _ _ _ z => z.elim) (fun ok3 y1 y2 _ hpp4 hlt4 => ?_)
      obtain ⟨G, hG⟩ : ∃ G, G = fU F (103 + x) (vN B n r) := ⟨_, rfl⟩
      have ev : ∀ j, j ≠ 103 + x → G j = F j := fun j a => by rw [hG, fU_off a]
      have gx : G (103 + x) = vN B n r := by rw [hG, fU_on]
      have g10 : F 10 = G 10 := (ev 10 (by omega)).symm
      rw [g10]
      refine RES_step (Ac' := cA B n F o N (eD B n r) 3 (fU (fU (fU (fun _ => 0) 0 (vN B n p)) 1 (vN B n q)) 2 (vN B n r))) (Gc' := cGo (qF - 1 - 1 - 1) 9 3) (Am' := mA B n G o N ln (eD B n r)) (Gm' := mTail) (fun S hc' => ⟨S, hc', rfl, fun _ _ => rfl, rfl, rfl⟩) (fun S hm => ⟨qup S 71 (103 + x) (vN B n r), by rw [hG]; exact mA_up hm.1 (by omega), rfl, fml_71⟩) ?_
      refine RES_end hb (eD_b (B := B) hpp3.1.2).2.2 (by omega) (by unfold qF; omega) (by omega) (by omega) (by decide) (fun _ => ?_) (fun S hcv hn => ?_)
      · refine ⟨?_, hs.2.1, by rw [ev 10 (by omega)]; exact hs.2.2.1, by rw [ev 9 (by omega)]; exact hs.2.2.2⟩
        obtain ⟨h0, h1, h2, h3, h4, h5, h6, h7, h8, h9, hS', hC', hT', hG', hH'⟩ := hT
        unfold bT
        rw [ev 0 (by omega), ev 1 (by omega), ev 2 (by omega), ev 3 (by omega), ev 4 (by omega), ev 5 (by omega), ev 6 (by omega), ev 7 (by omega), ev 8 (by omega), ev 9 (by omega)]
        refine ⟨h0, h1, h2, h3, h4, h5, h6, h7, h8, h9, fun u hu => ?_, fun u hu => ?_, fun u hu => ?_, fun u hu => ?_, fun s hs' => ?_⟩
        · rw [ev _ (by omega), ev _ (by omega)]
          refine ⟨(hS' u hu).1, (hS' u hu).2.1, fun j hj => ?_⟩
          rw [ev _ (by omega)]
          exact (hS' u hu).2.2 j hj
        · rw [ev _ (by omega), ev _ (by omega)]
          exact hC' u hu
        · rw [ev _ (by omega), ev _ (by omega)]
          exact hT' u hu
        · by_cases z : u = x
          · rw [z, gx]
            omega
          · rw [ev _ (by omega)]
            exact hG' u hu
        · rw [ev _ (by omega), ev _ (by omega), ev _ (by omega), ev _ (by omega), ev _ (by omega), ev _ (by omega), ev _ (by omega), ev _ (by omega), ev _ (by omega)]
          exact hH' s hs'
      · obtain ⟨c1, c2, c3, c4⟩ := id hcv
        obtain ⟨a0, a1, a2, a3, a4, a5, a6, a7, a8, a9⟩ := c2
        have x0 : S 35 0 = d := by rw [hn 0 (by omega), fU_off (by omega), fU_off (by omega), fU_on, hd]
        have x1 : S 35 1 = vN B n q := by rw [hn 1 (by omega), fU_off (by omega), fU_on]
        have x2 : S 35 2 = vN B n r := by rw [hn 2 (by omega), fU_on]
        have iy : ((d : Int) * 3 + vN B n q).toNat = x := by omega
        obtain ⟨S', hS'⟩ : ∃ S', S' = qup S 32 x (vN B n r) := ⟨_, rfl⟩
        have yo : ∀ d, d ≠ 32 → S' d = S d := fun d h1 => by rw [hS', qup_off h1]
        refine ⟨S', ?_, ⟨⟨by rw [yo 4 (by omega)]; exact c1.1, by rw [yo 1 (by omega)]; exact c1.2⟩, ⟨fun u hu => ?_, by rw [yo 3 (by omega), ev 6 (by omega)]; exact a1, by rw [yo 3 (by omega), ev 7 (by omega)]; exact a2, by rw [yo 3 (by omega), ev 8 (by omega)]; exact a3, by rw [yo 3 (by omega), ev 9 (by omega)]; exact a4, fun u hu => ?_, fun u hu => ?_, fun u hu => ?_, fun u hu => ?_, fun s hs' w' hw' => ?_⟩, by rw [yo 3 (by omega)]; exact c3, fun u => ?_⟩, yo 4 (by omega), fun d hd => yo d (by omega)⟩
        · show Heard_take_35 9 S = _
          rw [Heard_take_35, qk_r (by omega) (by omega), if_pos (by omega), qk_r (by omega) (by omega), if_neg (by omega), qk_r (by omega) (by omega), if_neg (by omega), qk_r (by omega) (by omega), if_neg (by omega), qk_r (by omega) (by omega), if_pos rfl, x0, x1, x2, qk_ix (by omega) (by omega), iy, ← hS']
        · rw [yo 25 (by omega), ev _ (by omega)]
          exact a0 u hu
        · rw [ev 6 (by omega)] at hu
          rw [yo 26 (by omega), yo 27 (by omega), ev _ (by omega), ev _ (by omega)]
          exact a5 u hu
        · rw [ev 7 (by omega)] at hu
          rw [yo 28 (by omega), yo 29 (by omega), ev _ (by omega), ev _ (by omega)]
          exact a6 u hu
        · rw [ev 8 (by omega)] at hu
          rw [yo 30 (by omega), yo 31 (by omega), ev _ (by omega), ev _ (by omega)]
          exact a7 u hu
        · rw [hS', qup_on]
          by_cases z : u = x
          · rw [if_pos z, z, gx]
          · rw [if_neg z, ev _ (by omega)]
            exact a8 u hu
        · rw [ev 9 (by omega)] at hs'
          rw [yo 33 (by omega), ev _ (by omega)]
          exact a9 s hs' w' hw'
        · rw [yo 34 (by omega)]
          exact c4 u
end PCG
