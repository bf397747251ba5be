/-! sections and tides -/
section PST2
variable {B : Nat → Int} {n : Nat} {F : Nat → Int} {o : Int} {N : Nat → Int} {ln : Nat → Int}
theorem line_section (hb : hBy B n) (hs : hS F o N ln) {i : Nat} (hi : i ≤ n) (hg : ¬ gD B (upto isB B n i)) (hk : kAt B n i = 6) : lBad B n F o N ln i ∨ lOk B n F o N ln i := by
  have h12 := hb.1
  have hT := hs.1
  have b6 : 0 ≤ F 6 ∧ F 6 ≤ 8 := hT.2.2.2.2.2.2.1
  have b7 : 0 ≤ F 7 ∧ F 7 ≤ 8 := hT.2.2.2.2.2.2.2.1
  have b8 : 0 ≤ F 8 ∧ F 8 ≤ 30 := hT.2.2.2.2.2.2.2.2.1
  have cb : 0 ≤ F 6 ∧ F 6 ≤ 8 := hT.2.2.2.2.2.2.1
  obtain ⟨c, hc⟩ : ∃ c : Nat, F 6 = c := ⟨(F 6).toNat, by omega⟩
  have c8 : c ≤ 8 := by omega
  have rT : ∀ u, u < c → qR (F (11 + u)) := fun u hu => by
    have := (hT.2.2.2.2.2.2.2.2.2.2.1 u (by omega)).1
    exact ⟨by omega, by omega⟩
  have hne : kAt B n i ≠ -1 := by omega
  have eM : ∀ S, tok B n i S → M_line S = Option.bind (M_sectionLine S) mTail := fun S ht => by
    rw [M_line_e hi ht hg, hk]
    rw [if_neg (by omega), if_pos (by omega), if_pos rfl]
    rw [b_some]
  -- the reference behind the first number, behind the second one
  obtain ⟨H1, hH1⟩ : ∃ H1 : Int → qSto → Option qSto, H1 = fun x S => mTail (qup (qup S 71 (19 + c) x) 71 6 ((c : Int) + 1)) := ⟨_, rfl⟩
  obtain ⟨H0, hH0⟩ : ∃ H0 : Int → qSto → Option qSto, H0 = fun x S => Option.bind (qk (qRb (S 70 11)) (if (S 70 11) = 0 then (Option.bind (M_isTold 11 (c : Int) x S) (fun q2341 => qk (qRb q2341.1) (if q2341.1 = 0 then some q2341.2 else (Option.bind (M_fail 3 (q2341.2 70 13) q2341.2) (fun q2344 => some q2344))))) else some S) : Option qSto) (fun t2346 => Option.bind (M_number 0 300 (qup t2346 71 (11 + c) x)) (fun q => H1 q.1 q.2)) := ⟨_, rfl⟩
  have f1 : ∀ x S kk q, mF kk q S → ∃ S', H1 x S = some S' ∧ mF kk q S' ∧ fml S S' := fun x S kk q hf => by
    rw [hH1]
    exact ⟨_, mTail_f (mF_71 (mF_71 hf)), mF_71 (mF_71 hf), fml_tr fml_71 fml_71⟩
  have f0' : ∀ x S kk q, mF kk q S → ∃ S', Option.bind (M_number 0 300 (qup S 71 (11 + c) x)) (fun q => H1 q.1 q.2) = some S' ∧ mF kk q S' ∧ fml S S' := fun x S kk q hf => by
    obtain ⟨S', u1, u2, u3⟩ := f1 0 (qup S 71 (11 + c) x) kk q (mF_71 hf)
    exact ⟨S', by rw [number_f (mF_71 hf)]; exact u1, u2, fml_tr fml_71 u3⟩
  have f0 : ∀ x S kk q, mF kk q S → ∃ S', H0 x S = some S' ∧ mF kk q S' ∧ fml S S' := fun x S kk q hf => by
    obtain ⟨S', u1, u2, u3⟩ := f0' x S kk q hf
    have := hf.1
    refine ⟨S', ?_, u2, u3⟩
    rw [hH0]
    simp only
    rw [hf.2.1, qk_r (by omega) (by omega), if_neg (by omega)]
    exact u1
  have tl : ∀ x p S, qR x → mA B n F o N ln p S → (∃ u, u < c ∧ F (11 + u) = x) → ∃ S', H0 x S = some S' ∧ mF 3 (S 70 13) S' ∧ fml S S' := fun x p S hx hm ht => by
    have vf : mF 3 (S 70 13) (qup (qup S 70 11 3) 70 12 (S 70 13)) := mF_fail (by omega)
    obtain ⟨S', u1, u2, u3⟩ := f0' x _ _ _ vf
    have it := isTold_s (A := 11) (c := c) (x := x) hm.1.2.1 (by omega) hx rT
    have it' : M_isTold 11 (c : Int) x S = _ := it
    refine ⟨S', ?_, u2, fml_tr (gM_l (gM_fail (by omega))) u3⟩
    rw [hH0]
    simp only
    rw [hm.1.2.2.2.2, qk_r (by omega) (by omega), if_pos rfl, it', cI_t ht]
    simp only [ob_sn]
    rw [qk_r (by omega) (by omega), if_neg (by omega), fail_0 hm.1.2.2.2.2]
    simp only [ob_sn]
    exact u1
  have on : ∀ x p S, qR x → mA B n F o N ln p S → ¬ (∃ u, u < c ∧ F (11 + u) = x) → H0 x S = Option.bind (M_number 0 300 (qup S 71 (11 + c) x)) (fun q => H1 q.1 q.2) := fun x p S hx hm ht => by
    have it := isTold_s (A := 11) (c := c) (x := x) hm.1.2.1 (by omega) hx rT
    have it' : M_isTold 11 (c : Int) x S = _ := it
    rw [hH0]
    simp only
    rw [hm.1.2.2.2.2, qk_r (by omega) (by omega), if_pos rfl, it', cI_f ht]
    rfl
  refine RES_begin (b := if c = 8 then 1 else 0) (Gm := fun S => Option.bind (M_number 0 999 S) (fun q => H0 q.1 q.2)) hb hi (show 6 ≤ 6 by omega) (by omega) hk (by split <;> simp) (fun S1 h1 => ?_) (fun hb1 S hm ht => ?_) (fun hb0 S hm ht => ?_) (fun hb0 hpp hlt => ?_)
  · have e3 : S1 3 2 = c := by rw [← hc]; exact h1.2.1.2.1
    show Heard_isFull 6 S1 = _
    rw [Heard_isFull, qk_r (by omega) (by omega), if_pos rfl, e3, qk_r (by omega) (by omega)]
    by_cases w : c = 8
    · rw [if_neg (by omega), if_pos w]
    · rw [if_pos (by omega), if_neg w]
  · have w : c = 8 := by
      by_cases w : c = 8
      · exact w
      · rw [if_neg w] at hb1
        omega
    obtain ⟨S', u1, u2, u3⟩ := begins_full (c := 6) (mx := 8) (by omega) hm ht (by rw [hc, w]; rfl) ⟨by omega, by omega⟩
    have u1' : M_begins 6 8 S = some (0, S') := u1
    refine ⟨S', ?_, u2, u3⟩
    rw [eM S ht, M_sectionLine, u1']
    simp only [ob_sn]
    rw [qk_r (by omega) (by omega), if_pos trivial]
    exact mTail_f u2
  · have w : c ≠ 8 := by
      intro w
      rw [if_pos w] at hb0
      omega
    obtain ⟨S1, u1, u2, u3⟩ := begins_ok hb (c := 6) (mx := 8) hi hne (by omega) hm ht (by rw [hc]; omega) ⟨by omega, by omega⟩ ⟨by omega, by omega⟩
    have u1' : M_begins 6 8 S = some (1, S1) := u1
    refine ⟨S1, u2, ?_, u3⟩
    have e6 : S1 71 6 = c := by rw [u2.1.2.1, hc]
    have i1 : ((11 : Int) + (c : Int)).toNat = 11 + c := by omega
    have i2 : ((19 : Int) + (c : Int)).toNat = 19 + c := by omega
    rw [eM S ht, M_sectionLine, u1']
    simp only [ob_sn]
    rw [qk_r (by omega) (by omega), if_neg (by omega), e6, i1, i2]
    cases M_number 0 999 S1 with
    | none => rfl
    | some q =>
      simp only [ob_sn]
      rw [hH0]
      simp only
      cases (qk (qRb (q.2 70 11)) (if (q.2 70 11) = 0 then (Option.bind (M_isTold 11 (c : Int) q.1 q.2) (fun q2341 => qk (qRb q2341.1) (if q2341.1 = 0 then some q2341.2 else (Option.bind (M_fail 3 (q2341.2 70 13) q2341.2) (fun q2344 => some q2344))))) else some q.2) : Option qSto) with
      | none => rfl
      | some t =>
        simp only [ob_sn]
        rw [qk_ix (by omega) (by omega)]
        cases M_number 0 300 (qup t 71 (11 + c) q.1) with
        | none => rfl
        | some r =>
          simp only [ob_sn]
          rw [qk_ix (by omega) (by omega), hH1]
          rfl
  · have w : c < 8 := by
      by_cases w : c = 8
      · rw [if_pos w] at hb0
        omega
      · omega
    generalize hpd : upto isL B n (upto isB B n i) = p at hpp hlt
    refine RES_num (lo := 0) (hi := 999) (lo' := 0) (hi' := 999) (t := ∃ u, u < c ∧ F (11 + u) = vN B n p) (H := H0) hb hpp (by unfold qF; omega) (by omega) (by omega) (by decide) (fun S' _ => rfl) ⟨by omega, by omega⟩ (by decide) ⟨by omega, by omega⟩ ⟨by omega, by omega⟩ ⟨by omega, by omega⟩ (fun ok _ _ S3 hq hn => ?_) f0 (fun _ a b => ⟨a, b⟩) (fun _ a => Or.inl a) (fun ok _ _ ht S hm h13 => ?_) (fun ok v1 v2 nt hpp2 hlt2 => ?_)
    · have vb := vN_b hpp.1.2 ok
      have e3 : S3 3 2 = c := by rw [← hc]; exact hq.2.1
      have e35 : S3 35 0 = vN B n p := by rw [hn 0 (by omega)]; exact fU_on
      have e26 : ∀ u, u < c → S3 26 u = F (11 + u) := fun u hu => (hq.2.2.2.2.2.1 u (by omega)).1
      have hh := holds26_s (S := S3) (c := c) (x := vN B n p) (by omega) ⟨by omega, by omega⟩ (fun u hu => by rw [e26 u hu]; exact rT u hu)
      have ep : (∃ u, u < c ∧ S3 26 u = vN B n p) = (∃ u, u < c ∧ F (11 + u) = vN B n p) := propext ⟨fun ⟨u, a, b⟩ => ⟨u, a, by rw [← e26 u a]; exact b⟩, fun ⟨u, a, b⟩ => ⟨u, a, by rw [e26 u a]; exact b⟩⟩
      rw [ep] at hh
      show Heard_isToldAlready_35 6 0 S3 = _
      rw [Heard_isToldAlready_35, qk_r (by omega) (by omega), if_pos rfl, qk_r (by omega) (by omega), if_pos rfl, e3, e35, hh]
      simp only [ob_sn]
      by_cases g : ∃ u, u < c ∧ F (11 + u) = vN B n p
      · rw [cI_t g, qk_r (by omega) (by omega), if_neg (by omega)]
      · rw [cI_f g, qk_r (by omega) (by omega), if_pos rfl]
    · have vb := vN_b hpp.1.2 ok
      obtain ⟨S', u1, u2, u3⟩ := tl (vN B n p) _ S ⟨by omega, by omega⟩ hm ht
      rw [h13] at u2
      exact ⟨S', u1, u2, u3⟩
    · have vb := vN_b hpp.1.2 ok
      refine RES_step (Ac' := cA B n F o N (eD B n p) 1 (fU (fun _ => 0) 0 (vN B n p))) (Gc' := cGo (qF - 1) 6 1) (Am' := mA B n (fU F (11 + c) (vN B n p)) o N ln (eD B n p)) (Gm' := fun S => Option.bind (M_number 0 300 S) (fun q => H1 q.1 q.2)) (fun S hc' => ⟨S, hc', rfl, fun _ _ => rfl, rfl, rfl⟩) (fun S hm => ⟨qup S 71 (11 + c) (vN B n p), mA_up hm.1 (by omega), on _ _ S ⟨by omega, by omega⟩ hm.1 nt, fml_71⟩) ?_
      generalize hqd : eD B n p = q at hpp2 hlt2
      refine RES_num (lo := 0) (hi := 300) (lo' := 0) (hi' := 300) (t := False) (H := H1) hb hpp2 (by unfold qF; omega) (by omega) (by omega) (by decide) (fun S' _ => rfl) ⟨by omega, by omega⟩ (by decide) ⟨by omega, by omega⟩ ⟨by omega, by omega⟩ ⟨by omega, by omega⟩ (fun _ _ _ S3 _ _ => by rw [cI_f (fun z => z)]; rfl) f1 (fun _ a b => ⟨a, b⟩) (fun _ a => Or.inl a) (fun _ _ _ z => z.elim) (fun ok2 w1 w2 _ hpp3 hlt3 => ?_)
      obtain ⟨G, hG⟩ : ∃ G, G = fU (fU (fU F (11 + c) (vN B n p)) (19 + c) (vN B n q)) 6 ((c : Int) + 1) := ⟨_, rfl⟩
      have g10 : F 10 = G 10 := by rw [hG, fU_off (by omega), fU_off (by omega), fU_off (by omega)]
      have gn : G 6 = (c : Int) + 1 := by rw [hG, fU_on]
      have ev : ∀ j, j ≠ 11 + c → j ≠ 19 + c → j ≠ 6 → G j = F j := fun j a b d => by rw [hG, fU_off d, fU_off b, fU_off a]
      have ga : G (11 + c) = vN B n p := by rw [hG, fU_off (by omega), fU_off (by omega), fU_on]
      have gb : G (19 + c) = vN B n q := by rw [hG, fU_off (by omega), fU_on]
      have vb2 := vN_b hpp2.1.2 ok2
      rw [g10]
      refine RES_step (Ac' := cA B n F o N (eD B n q) 2 (fU (fU (fun _ => 0) 0 (vN B n p)) 1 (vN B n q))) (Gc' := cGo (qF - 1 - 1) 6 2) (Am' := mA B n G o N ln (eD B n q)) (Gm' := mTail) (fun S hc' => ⟨S, hc', rfl, fun _ _ => rfl, rfl, rfl⟩) (fun S hm => ⟨qup (qup S 71 (19 + c) (vN B n q)) 71 6 ((c : Int) + 1), by rw [hG]; exact mA_up (mA_up hm.1 (by omega)) (by omega), by rw [hH1], fml_tr fml_71 fml_71⟩) ?_
      refine RES_end hb (eD_b (B := B) hpp2.1.2).2.2 (by omega) (by unfold qF; omega) (by omega) (by omega) (by decide) (fun _ => ?_) (fun S hcv hn => ?_)
      · refine ⟨?_, hs.2.1, by rw [ev 10 (by omega) (by omega) (by omega)]; exact hs.2.2.1, by rw [ev 9 (by omega) (by omega) (by omega)]; exact hs.2.2.2⟩
        obtain ⟨h0, h1, h2, h3, h4, h5, h6, h7, h8, h9, hS', hC', hT', hG', hH'⟩ := hT
        unfold bT
        rw [ev 0 (by omega) (by omega) (by omega), ev 1 (by omega) (by omega) (by omega), ev 2 (by omega) (by omega) (by omega), ev 3 (by omega) (by omega) (by omega), ev 4 (by omega) (by omega) (by omega), ev 5 (by omega) (by omega) (by omega), ev 7 (by omega) (by omega) (by omega), ev 8 (by omega) (by omega) (by omega), ev 9 (by omega) (by omega) (by omega), gn]
        refine ⟨h0, h1, h2, h3, h4, h5, by omega, h7, h8, h9, fun u hu => ?_, fun u hu => ?_, fun u hu => ?_, fun u hu => ?_, fun s hs' => ?_⟩
        · by_cases z : u = c
          · rw [z, ga, gb]
            refine ⟨by omega, by omega, fun j hj => ?_⟩
            rw [ev _ (by omega) (by omega) (by omega)]
            exact fun e => nt ⟨j, hj, e⟩
          · rw [ev _ (by omega) (by omega) (by omega), ev _ (by omega) (by omega) (by omega)]
            have hu' : (u : Int) < F 6 := by omega
            refine ⟨(hS' u hu').1, (hS' u hu').2.1, fun j hj => ?_⟩
            rw [ev _ (by omega) (by omega) (by omega)]
            exact (hS' u hu').2.2 j hj
        · rw [ev _ (by omega) (by omega) (by omega), ev _ (by omega) (by omega) (by omega)]
          exact hC' u hu
        · rw [ev _ (by omega) (by omega) (by omega), ev _ (by omega) (by omega) (by omega)]
          exact hT' u hu
        · rw [ev _ (by omega) (by omega) (by omega)]
          exact hG' u hu
        · rw [ev _ (by omega) (by omega) (by omega), ev _ (by omega) (by omega) (by omega), ev _ (by omega) (by omega) (by omega), ev _ (by omega) (by omega) (by omega), ev _ (by omega) (by omega) (by omega), ev _ (by omega) (by omega) (by omega), ev _ (by omega) (by omega) (by omega), ev _ (by omega) (by omega) (by omega), ev _ (by omega) (by omega) (by omega)]
          exact hH' s hs'
      · obtain ⟨c1, c2, c3, c4⟩ := id hcv
        obtain ⟨a0, a1, a2, a3, a4, a5, a6, a7, a8, a9⟩ := c2
        have e3 : S 3 2 = c := by rw [← hc]; exact a1
        have x0 : S 35 0 = vN B n p := by rw [hn 0 (by omega), fU_off (by omega)]; exact fU_on
        have x1 : S 35 1 = vN B n q := by rw [hn 1 (by omega)]; exact fU_on
        have y1 : (qup S 26 c (vN B n p)) 3 2 = c := by rw [qup_off (by omega), e3]
        have y2 : (qup S 26 c (vN B n p)) 35 1 = vN B n q := by rw [qup_off (by omega), x1]
        have y3 : (qup (qup S 26 c (vN B n p)) 27 c (vN B n q)) 3 2 = c := by rw [qup_off (by omega), y1]
        obtain ⟨S', hS'⟩ : ∃ S', S' = qup (qup (qup S 26 c (vN B n p)) 27 c (vN B n q)) 3 2 ((c : Int) + 1) := ⟨_, rfl⟩
        have yo : ∀ d, d ≠ 3 → d ≠ 26 → d ≠ 27 → S' d = S d := fun d h1 h2 h3 => by rw [hS', qup_off h1, qup_off h3, qup_off h2]
        have z3 : ∀ u, u ≠ 2 → S' 3 u = S 3 u := fun u hu => by rw [hS', qup_on, if_neg hu, qup_off (by omega), qup_off (by omega)]
        have zc : S' 3 2 = (c : Int) + 1 := by rw [hS', qup_on, if_pos rfl]
        have zx : ∀ u, S' 26 u = if u = c then vN B n p else S 26 u := fun u => by rw [hS', qup_off (by omega), qup_off (by omega), qup_on]
        have zy : ∀ u, S' 27 u = if u = c then vN B n q else S 27 u := fun u => by rw [hS', qup_off (by omega), qup_on, qup_off (by omega)]
        refine ⟨S', ?_, ⟨⟨by rw [yo 4 (by omega) (by omega) (by omega)]; exact c1.1, by rw [yo 1 (by omega) (by omega) (by omega)]; exact c1.2⟩, ⟨fun u hu => ?_, by rw [zc, gn], by rw [z3 5 (by omega), ev 7 (by omega) (by omega) (by omega)]; exact a2, by rw [z3 8 (by omega), ev 8 (by omega) (by omega) (by omega)]; exact a3, by rw [z3 12 (by omega), ev 9 (by omega) (by omega) (by omega)]; exact a4, fun u hu => ?_, fun u hu => ?_, fun u hu => ?_, fun u hu => ?_, fun s hs' w' hw' => ?_⟩, by rw [z3 1 (by omega)]; exact c3, fun u => ?_⟩, yo 4 (by omega) (by omega) (by omega), fun d hd => yo d (by omega) (by omega) (by omega)⟩
        · show Heard_take_35 6 S = _
          rw [Heard_take_35, qk_r (by omega) (by omega), if_pos (by omega), qk_r (by omega) (by omega), if_pos rfl, e3, x0, Int.toNat_natCast, y1, y2, Int.toNat_natCast, y3, qk_ix (by omega) (by omega), qk_ix (by omega) (by omega), ← hS']
        · rw [yo 25 (by omega) (by omega) (by omega), ev _ (by omega) (by omega) (by omega)]
          exact a0 u hu
        · rw [gn] at hu
          rw [zx, zy]
          by_cases z : u = c
          · rw [if_pos z, if_pos z, z, ga, gb]
            exact ⟨rfl, rfl⟩
          · rw [if_neg z, if_neg z, ev _ (by omega) (by omega) (by omega), ev _ (by omega) (by omega) (by omega)]
            exact a5 u (by omega)
        · rw [ev 7 (by omega) (by omega) (by omega)] at hu
          rw [yo 28 (by omega) (by omega) (by omega), yo 29 (by omega) (by omega) (by omega), ev _ (by omega) (by omega) (by omega), ev _ (by omega) (by omega) (by omega)]
          exact a6 u hu
        · rw [ev 8 (by omega) (by omega) (by omega)] at hu
          rw [yo 30 (by omega) (by omega) (by omega), yo 31 (by omega) (by omega) (by omega), ev _ (by omega) (by omega) (by omega), ev _ (by omega) (by omega) (by omega)]
          exact a7 u hu
        · rw [yo 32 (by omega) (by omega) (by omega), ev _ (by omega) (by omega) (by omega)]
          exact a8 u hu
        · rw [ev 9 (by omega) (by omega) (by omega)] at hs'
          rw [yo 33 (by omega) (by omega) (by omega), ev _ (by omega) (by omega) (by omega)]
          exact a9 s hs' w' hw'
        · rw [yo 34 (by omega) (by omega) (by omega)]
          exact c4 u

theorem line_tide (hb : hBy B n) (hs : hS F o N ln) {i : Nat} (hi : i ≤ n) (hg : ¬ gD B (upto isB B n i)) (hk : kAt B n i = 8) : lBad B n F o N ln i ∨ lOk B n F o N ln i := by
  have h12 := hb.1
  have hT := hs.1
  have b6 : 0 ≤ F 6 ∧ F 6 ≤ 8 := hT.2.2.2.2.2.2.1
  have b7 : 0 ≤ F 7 ∧ F 7 ≤ 8 := hT.2.2.2.2.2.2.2.1
  have b8 : 0 ≤ F 8 ∧ F 8 ≤ 30 := hT.2.2.2.2.2.2.2.2.1
  have cb : 0 ≤ F 8 ∧ F 8 ≤ 30 := hT.2.2.2.2.2.2.2.2.1
  obtain ⟨c, hc⟩ : ∃ c : Nat, F 8 = c := ⟨(F 8).toNat, by omega⟩
  have c8 : c ≤ 30 := by omega
  have rT : ∀ u, u < c → qR (F (43 + u)) := fun u hu => by
    have := (hT.2.2.2.2.2.2.2.2.2.2.2.2.1 u (by omega)).1
    exact ⟨by omega, by omega⟩
  have hne : kAt B n i ≠ -1 := by omega
  have eM : ∀ S, tok B n i S → M_line S = Option.bind (M_tideLine S) mTail := fun S ht => by
    rw [M_line_e hi ht hg, hk]
    rw [if_neg (by omega), if_pos (by omega), if_neg (by omega), if_neg (by omega), if_pos rfl]
    rw [b_some]
  -- the reference behind the first number, behind the second one
  obtain ⟨H1, hH1⟩ : ∃ H1 : Int → qSto → Option qSto, H1 = fun x S => mTail (qup (qup S 71 (73 + c) x) 71 8 ((c : Int) + 1)) := ⟨_, rfl⟩
  obtain ⟨H0, hH0⟩ : ∃ H0 : Int → qSto → Option qSto, H0 = fun x S => Option.bind (qk (qRb (S 70 11)) (if (S 70 11) = 0 then (Option.bind (M_isTold 43 (c : Int) x S) (fun q2341 => qk (qRb q2341.1) (if q2341.1 = 0 then some q2341.2 else (Option.bind (M_fail 3 (q2341.2 70 13) q2341.2) (fun q2344 => some q2344))))) else some S) : Option qSto) (fun t2346 => Option.bind (M_number 0 99 (qup t2346 71 (43 + c) x)) (fun q => H1 q.1 q.2)) := ⟨_, rfl⟩
  have f1 : ∀ x S kk q, mF kk q S → ∃ S', H1 x S = some S' ∧ mF kk q S' ∧ fml S S' := fun x S kk q hf => by
    rw [hH1]
    exact ⟨_, mTail_f (mF_71 (mF_71 hf)), mF_71 (mF_71 hf), fml_tr fml_71 fml_71⟩
  have f0' : ∀ x S kk q, mF kk q S → ∃ S', Option.bind (M_number 0 99 (qup S 71 (43 + c) x)) (fun q => H1 q.1 q.2) = some S' ∧ mF kk q S' ∧ fml S S' := fun x S kk q hf => by
    obtain ⟨S', u1, u2, u3⟩ := f1 0 (qup S 71 (43 + c) x) kk q (mF_71 hf)
    exact ⟨S', by rw [number_f (mF_71 hf)]; exact u1, u2, fml_tr fml_71 u3⟩
  have f0 : ∀ x S kk q, mF kk q S → ∃ S', H0 x S = some S' ∧ mF kk q S' ∧ fml S S' := fun x S kk q hf => by
    obtain ⟨S', u1, u2, u3⟩ := f0' x S kk q hf
    have := hf.1
    refine ⟨S', ?_, u2, u3⟩
    rw [hH0]
    simp only
    rw [hf.2.1, qk_r (by omega) (by omega), if_neg (by omega)]
    exact u1
  have tl : ∀ x p S, qR x → mA B n F o N ln p S → (∃ u, u < c ∧ F (43 + u) = x) → ∃ S', H0 x S = some S' ∧ mF 3 (S 70 13) S' ∧ fml S S' := fun x p S hx hm ht => by
    have vf : mF 3 (S 70 13) (qup (qup S 70 11 3) 70 12 (S 70 13)) := mF_fail (by omega)
    obtain ⟨S', u1, u2, u3⟩ := f0' x _ _ _ vf
    have it := isTold_s (A := 43) (c := c) (x := x) hm.1.2.1 (by omega) hx rT
    have it' : M_isTold 43 (c : Int) x S = _ := it
    refine ⟨S', ?_, u2, fml_tr (gM_l (gM_fail (by omega))) u3⟩
    rw [hH0]
    simp only
    rw [hm.1.2.2.2.2, qk_r (by omega) (by omega), if_pos rfl, it', cI_t ht]
    simp only [ob_sn]
    rw [qk_r (by omega) (by omega), if_neg (by omega), fail_0 hm.1.2.2.2.2]
    simp only [ob_sn]
    exact u1
  have on : ∀ x p S, qR x → mA B n F o N ln p S → ¬ (∃ u, u < c ∧ F (43 + u) = x) → H0 x S = Option.bind (M_number 0 99 (qup S 71 (43 + c) x)) (fun q => H1 q.1 q.2) := fun x p S hx hm ht => by
    have it := isTold_s (A := 43) (c := c) (x := x) hm.1.2.1 (by omega) hx rT
    have it' : M_isTold 43 (c : Int) x S = _ := it
    rw [hH0]
    simp only
    rw [hm.1.2.2.2.2, qk_r (by omega) (by omega), if_pos rfl, it', cI_f ht]
    rfl
  refine RES_begin (b := if c = 30 then 1 else 0) (Gm := fun S => Option.bind (M_number 0 335 S) (fun q => H0 q.1 q.2)) hb hi (show 6 ≤ 8 by omega) (by omega) hk (by split <;> simp) (fun S1 h1 => ?_) (fun hb1 S hm ht => ?_) (fun hb0 S hm ht => ?_) (fun hb0 hpp hlt => ?_)
  · have e3 : S1 3 8 = c := by rw [← hc]; exact h1.2.1.2.2.2.1
    show Heard_isFull 8 S1 = _
    rw [Heard_isFull, qk_r (by omega) (by omega), if_neg (by omega), if_neg (by omega), if_pos rfl, e3, qk_r (by omega) (by omega)]
    by_cases w : c = 30
    · rw [if_neg (by omega), if_pos w]
    · rw [if_pos (by omega), if_neg w]
  · have w : c = 30 := by
      by_cases w : c = 30
      · exact w
      · rw [if_neg w] at hb1
        omega
    obtain ⟨S', u1, u2, u3⟩ := begins_full (c := 8) (mx := 30) (by omega) hm ht (by rw [hc, w]; rfl) ⟨by omega, by omega⟩
    have u1' : M_begins 8 30 S = some (0, S') := u1
    refine ⟨S', ?_, u2, u3⟩
    rw [eM S ht, M_tideLine, u1']
    simp only [ob_sn]
    rw [qk_r (by omega) (by omega), if_pos trivial]
    exact mTail_f u2
  · have w : c ≠ 30 := by
      intro w
      rw [if_pos w] at hb0
      omega
    obtain ⟨S1, u1, u2, u3⟩ := begins_ok hb (c := 8) (mx := 30) hi hne (by omega) hm ht (by rw [hc]; omega) ⟨by omega, by omega⟩ ⟨by omega, by omega⟩
    have u1' : M_begins 8 30 S = some (1, S1) := u1
    refine ⟨S1, u2, ?_, u3⟩
    have e6 : S1 71 8 = c := by rw [u2.1.2.1, hc]
    have i1 : ((43 : Int) + (c : Int)).toNat = 43 + c := by omega
    have i2 : ((73 : Int) + (c : Int)).toNat = 73 + c := by omega
    rw [eM S ht, M_tideLine, u1']
    simp only [ob_sn]
    rw [qk_r (by omega) (by omega), if_neg (by omega), e6, i1, i2]
    cases M_number 0 335 S1 with
    | none => rfl
    | some q =>
      simp only [ob_sn]
      rw [hH0]
      simp only
      cases (qk (qRb (q.2 70 11)) (if (q.2 70 11) = 0 then (Option.bind (M_isTold 43 (c : Int) q.1 q.2) (fun q2341 => qk (qRb q2341.1) (if q2341.1 = 0 then some q2341.2 else (Option.bind (M_fail 3 (q2341.2 70 13) q2341.2) (fun q2344 => some q2344))))) else some q.2) : Option qSto) with
      | none => rfl
      | some t =>
        simp only [ob_sn]
        rw [qk_ix (by omega) (by omega)]
        cases M_number 0 99 (qup t 71 (43 + c) q.1) with
        | none => rfl
        | some r =>
          simp only [ob_sn]
          rw [qk_ix (by omega) (by omega), hH1]
          rfl
  · have w : c < 30 := by
      by_cases w : c = 30
      · rw [if_pos w] at hb0
        omega
      · omega
    generalize hpd : upto isL B n (upto isB B n i) = p at hpp hlt
    refine RES_num (lo := 0) (hi := 335) (lo' := 0) (hi' := 335) (t := ∃ u, u < c ∧ F (43 + u) = vN B n p) (H := H0) hb hpp (by unfold qF; omega) (by omega) (by omega) (by decide) (fun S' _ => rfl) ⟨by omega, by omega⟩ (by decide) ⟨by omega, by omega⟩ ⟨by omega, by omega⟩ ⟨by omega, by omega⟩ (fun ok _ _ S3 hq hn => ?_) f0 (fun _ a b => ⟨a, b⟩) (fun _ a => Or.inl a) (fun ok _ _ ht S hm h13 => ?_) (fun ok v1 v2 nt hpp2 hlt2 => ?_)
    · have vb := vN_b hpp.1.2 ok
      have e3 : S3 3 8 = c := by rw [← hc]; exact hq.2.2.2.1
      have e35 : S3 35 0 = vN B n p := by rw [hn 0 (by omega)]; exact fU_on
      have e26 : ∀ u, u < c → S3 30 u = F (43 + u) := fun u hu => (hq.2.2.2.2.2.2.2.1 u (by omega)).1
      have hh := holds30_s (S := S3) (c := c) (x := vN B n p) (by omega) ⟨by omega, by omega⟩ (fun u hu => by rw [e26 u hu]; exact rT u hu)
      have ep : (∃ u, u < c ∧ S3 30 u = vN B n p) = (∃ u, u < c ∧ F (43 + u) = vN B n p) := propext ⟨fun ⟨u, a, b⟩ => ⟨u, a, by rw [← e26 u a]; exact b⟩, fun ⟨u, a, b⟩ => ⟨u, a, by rw [e26 u a]; exact b⟩⟩
      rw [ep] at hh
      show Heard_isToldAlready_35 8 0 S3 = _
      rw [Heard_isToldAlready_35, qk_r (by omega) (by omega), if_neg (by omega), if_neg (by omega), if_pos rfl, qk_r (by omega) (by omega), if_pos rfl, e3, e35, hh]
      simp only [ob_sn]
      by_cases g : ∃ u, u < c ∧ F (43 + u) = vN B n p
      · rw [cI_t g, qk_r (by omega) (by omega), if_neg (by omega)]
      · rw [cI_f g, qk_r (by omega) (by omega), if_pos rfl]
    · have vb := vN_b hpp.1.2 ok
      obtain ⟨S', u1, u2, u3⟩ := tl (vN B n p) _ S ⟨by omega, by omega⟩ hm ht
      rw [h13] at u2
      exact ⟨S', u1, u2, u3⟩
    · have vb := vN_b hpp.1.2 ok
      refine RES_step (Ac' := cA B n F o N (eD B n p) 1 (fU (fun _ => 0) 0 (vN B n p))) (Gc' := cGo (qF - 1) 8 1) (Am' := mA B n (fU F (43 + c) (vN B n p)) o N ln (eD B n p)) (Gm' := fun S => Option.bind (M_number 0 99 S) (fun q => H1 q.1 q.2)) (fun S hc' => ⟨S, hc', rfl, fun _ _ => rfl, rfl, rfl⟩) (fun S hm => ⟨qup S 71 (43 + c) (vN B n p), mA_up hm.1 (by omega), on _ _ S ⟨by omega, by omega⟩ hm.1 nt, fml_71⟩) ?_
      generalize hqd : eD B n p = q at hpp2 hlt2
      refine RES_num (lo := 0) (hi := 99) (lo' := 0) (hi' := 99) (t := False) (H := H1) hb hpp2 (by unfold qF; omega) (by omega) (by omega) (by decide) (fun S' _ => rfl) ⟨by omega, by omega⟩ (by decide) ⟨by omega, by omega⟩ ⟨by omega, by omega⟩ ⟨by omega, by omega⟩ (fun _ _ _ S3 _ _ => by rw [cI_f (fun z => z)]; rfl) f1 (fun _ a b => ⟨a, b⟩) (fun _ a => Or.inl a) (fun _ _ _ z => z.elim) (fun ok2 w1 w2 _ hpp3 hlt3 => ?_)
      obtain ⟨G, hG⟩ : ∃ G, G = fU (fU (fU F (43 + c) (vN B n p)) (73 + c) (vN B n q)) 8 ((c : Int) + 1) := ⟨_, rfl⟩
      have g10 : F 10 = G 10 := by rw [hG, fU_off (by omega), fU_off (by omega), fU_off (by omega)]
      have gn : G 8 = (c : Int) + 1 := by rw [hG, fU_on]
      have ev : ∀ j, j ≠ 43 + c → j ≠ 73 + c → j ≠ 8 → G j = F j := fun j a b d => by rw [hG, fU_off d, fU_off b, fU_off a]
      have ga : G (43 + c) = vN B n p := by rw [hG, fU_off (by omega), fU_off (by omega), fU_on]
      have gb : G (73 + c) = vN B n q := by rw [hG, fU_off (by omega), fU_on]
      have vb2 := vN_b hpp2.1.2 ok2
      rw [g10]
      refine RES_step (Ac' := cA B n F o N (eD B n q) 2 (fU (fU (fun _ => 0) 0 (vN B n p)) 1 (vN B n q))) (Gc' := cGo (qF - 1 - 1) 8 2) (Am' := mA B n G o N ln (eD B n q)) (Gm' := mTail) (fun S hc' => ⟨S, hc', rfl, fun _ _ => rfl, rfl, rfl⟩) (fun S hm => ⟨qup (qup S 71 (73 + c) (vN B n q)) 71 8 ((c : Int) + 1), by rw [hG]; exact mA_up (mA_up hm.1 (by omega)) (by omega), by rw [hH1], fml_tr fml_71 fml_71⟩) ?_
      refine RES_end hb (eD_b (B := B) hpp2.1.2).2.2 (by omega) (by unfold qF; omega) (by omega) (by omega) (by decide) (fun _ => ?_) (fun S hcv hn => ?_)
      · refine ⟨?_, hs.2.1, by rw [ev 10 (by omega) (by omega) (by omega)]; exact hs.2.2.1, by rw [ev 9 (by omega) (by omega) (by omega)]; exact hs.2.2.2⟩
        obtain ⟨h0, h1, h2, h3, h4, h5, h6, h7, h8, h9, hS', hC', hT', hG', hH'⟩ := hT
        unfold bT
        rw [ev 0 (by omega) (by omega) (by omega), ev 1 (by omega) (by omega) (by omega), ev 2 (by omega) (by omega) (by omega), ev 3 (by omega) (by omega) (by omega), ev 4 (by omega) (by omega) (by omega), ev 5 (by omega) (by omega) (by omega), ev 6 (by omega) (by omega) (by omega), ev 7 (by omega) (by omega) (by omega), ev 9 (by omega) (by omega) (by omega), gn]
        refine ⟨h0, h1, h2, h3, h4, h5, h6, h7, by omega, h9, fun u hu => ?_, fun u hu => ?_, fun u hu => ?_, fun u hu => ?_, fun s hs' => ?_⟩
        · rw [ev _ (by omega) (by omega) (by omega), ev _ (by omega) (by omega) (by omega)]
          refine ⟨(hS' u hu).1, (hS' u hu).2.1, fun j hj => ?_⟩
          rw [ev _ (by omega) (by omega) (by omega)]
          exact (hS' u hu).2.2 j hj
        · rw [ev _ (by omega) (by omega) (by omega), ev _ (by omega) (by omega) (by omega)]
          exact hC' u hu
        · by_cases z : u = c
          · rw [z, ga, gb]
            omega
          · rw [ev _ (by omega) (by omega) (by omega), ev _ (by omega) (by omega) (by omega)]
            exact hT' u (by omega)
        · rw [ev _ (by omega) (by omega) (by omega)]
          exact hG' u hu
        · rw [ev _ (by omega) (by omega) (by omega), ev _ (by omega) (by omega) (by omega), ev _ (by omega) (by omega) (by omega), ev _ (by omega) (by omega) (by omega), ev _ (by omega) (by omega) (by omega), ev _ (by omega) (by omega) (by omega), ev _ (by omega) (by omega) (by omega), ev _ (by omega) (by omega) (by omega), ev _ (by omega) (by omega) (by omega)]
          exact hH' s hs'
      · obtain ⟨c1, c2, c3, c4⟩ := id hcv
        obtain ⟨a0, a1, a2, a3, a4, a5, a6, a7, a8, a9⟩ := c2
        have e3 : S 3 8 = c := by rw [← hc]; exact a3
        have x0 : S 35 0 = vN B n p := by rw [hn 0 (by omega), fU_off (by omega)]; exact fU_on
        have x1 : S 35 1 = vN B n q := by rw [hn 1 (by omega)]; exact fU_on
        have y1 : (qup S 30 c (vN B n p)) 3 8 = c := by rw [qup_off (by omega), e3]
        have y2 : (qup S 30 c (vN B n p)) 35 1 = vN B n q := by rw [qup_off (by omega), x1]
        have y3 : (qup (qup S 30 c (vN B n p)) 31 c (vN B n q)) 3 8 = c := by rw [qup_off (by omega), y1]
        obtain ⟨S', hS'⟩ : ∃ S', S' = qup (qup (qup S 30 c (vN B n p)) 31 c (vN B n q)) 3 8 ((c : Int) + 1) := ⟨_, rfl⟩
        have yo : ∀ d, d ≠ 3 → d ≠ 30 → d ≠ 31 → S' d = S d := fun d h1 h2 h3 => by rw [hS', qup_off h1, qup_off h3, qup_off h2]
        have z3 : ∀ u, u ≠ 8 → S' 3 u = S 3 u := fun u hu => by rw [hS', qup_on, if_neg hu, qup_off (by omega), qup_off (by omega)]
        have zc : S' 3 8 = (c : Int) + 1 := by rw [hS', qup_on, if_pos rfl]
        have zx : ∀ u, S' 30 u = if u = c then vN B n p else S 30 u := fun u => by rw [hS', qup_off (by omega), qup_off (by omega), qup_on]
        have zy : ∀ u, S' 31 u = if u = c then vN B n q else S 31 u := fun u => by rw [hS', qup_off (by omega), qup_on, qup_off (by omega)]
        refine ⟨S', ?_, ⟨⟨by rw [yo 4 (by omega) (by omega) (by omega)]; exact c1.1, by rw [yo 1 (by omega) (by omega) (by omega)]; exact c1.2⟩, ⟨fun u hu => ?_, by rw [z3 2 (by omega), ev 6 (by omega) (by omega) (by omega)]; exact a1, by rw [z3 5 (by omega), ev 7 (by omega) (by omega) (by omega)]; exact a2, by rw [zc, gn], by rw [z3 12 (by omega), ev 9 (by omega) (by omega) (by omega)]; exact a4, fun u hu => ?_, fun u hu => ?_, fun u hu => ?_, fun u hu => ?_, fun s hs' w' hw' => ?_⟩, by rw [z3 1 (by omega)]; exact c3, fun u => ?_⟩, yo 4 (by omega) (by omega) (by omega), fun d hd => yo d (by omega) (by omega) (by omega)⟩
        · show Heard_take_35 8 S = _
          rw [Heard_take_35, qk_r (by omega) (by omega), if_pos (by omega), qk_r (by omega) (by omega), if_neg (by omega), qk_r (by omega) (by omega), if_neg (by omega), qk_r (by omega) (by omega), if_pos rfl, e3, x0, Int.toNat_natCast, y1, y2, Int.toNat_natCast, y3, qk_ix (by omega) (by omega), qk_ix (by omega) (by omega), ← hS']
        · rw [yo 25 (by omega) (by omega) (by omega), ev _ (by omega) (by omega) (by omega)]
          exact a0 u hu
        · rw [ev 6 (by omega) (by omega) (by omega)] at hu
          rw [yo 26 (by omega) (by omega) (by omega), yo 27 (by omega) (by omega) (by omega), ev _ (by omega) (by omega) (by omega), ev _ (by omega) (by omega) (by omega)]
          exact a5 u hu
        · rw [ev 7 (by omega) (by omega) (by omega)] at hu
          rw [yo 28 (by omega) (by omega) (by omega), yo 29 (by omega) (by omega) (by omega), ev _ (by omega) (by omega) (by omega), ev _ (by omega) (by omega) (by omega)]
          exact a6 u hu
        · rw [gn] at hu
          rw [zx, zy]
          by_cases z : u = c
          · rw [if_pos z, if_pos z, z, ga, gb]
            exact ⟨rfl, rfl⟩
          · rw [if_neg z, if_neg z, ev _ (by omega) (by omega) (by omega), ev _ (by omega) (by omega) (by omega)]
            exact a7 u (by omega)
        · rw [yo 32 (by omega) (by omega) (by omega), ev _ (by omega) (by omega) (by omega)]
          exact a8 u hu
        · rw [ev 9 (by omega) (by omega) (by omega)] at hs'
          rw [yo 33 (by omega) (by omega) (by omega), ev _ (by omega) (by omega) (by omega)]
          exact a9 s hs' w' hw'
        · rw [yo 34 (by omega) (by omega) (by omega)]
          exact c4 u

end PST2
