/-! lines with more numbers: both go on side by side -/
section PRS
variable {B : Nat → Int} {n : Nat} {F : Nat → Int} {o : Int} {N : Nat → Int} {ln : Nat → Int}
/-- from stores of Ac the class goes on by Gc, from stores of Am the reference by Gm: both fail alike, or both end the line alike -/
def RES (B : Nat → Int) (n : Nat) (l0 : Int) (i : Nat) (Ac : qSto → Prop) (Gc : qSto → Option (Int × qSto)) (Am : qSto → Prop) (Gm : qSto → Option qSto) : Prop :=
  (∃ (k q : Int), (1 ≤ k ∧ k ≤ 4) ∧ (0 ≤ q ∧ q ≤ 1200) ∧ (∀ S, Ac S → ∃ S', Gc S = some (0, S') ∧ cF k q S' ∧ fcl S S') ∧ (∀ S, Am S → ∃ S', Gm S = some S' ∧ mF k q S' ∧ fml S S')) ∨
  (∃ (F' : Nat → Int) (o' : Int) (N' : Nat → Int) (ln' : Nat → Int) (i' : Nat), (l0 ≤ 1999 → hS F' o' N' ln') ∧ (i < i' ∧ i' ≤ n) ∧ B (i' - 1) = 59 ∧ F' 10 = l0 + 1 ∧ (∀ S, Ac S → ∃ S', Gc S = some (1, S') ∧ cV B n F' o' N' S' ∧ S' 4 4 = (i' : Int) ∧ (S' 4 5 = S 4 5 ∧ S' 4 6 = S 4 6) ∧ fcl S S') ∧ (∀ S, Am S → ∃ S', Gm S = some S' ∧ mV B n F' o' N' ln' S' ∧ tok B n i' S' ∧ fml S S'))
theorem RES_line {i : Nat} (h : RES B n (F 10) i (fun S => cV B n F o N S ∧ S 4 4 = ((upto isB B n i : Nat) : Int)) Reader_readLine (fun S => mV B n F o N ln S ∧ tok B n i S) M_line) : lBad B n F o N ln i ∨ lOk B n F o N ln i := by
  rcases h with ⟨k, q, h1, h2, h3, h4⟩ | ⟨F', o', N', ln', i', h1, h2, h3, h4, h5, h6⟩
  · exact Or.inl ⟨k, q, h1, h2, fun S a b => h3 S ⟨a, b⟩, fun S a b => h4 S ⟨a, b⟩⟩
  · exact Or.inr ⟨F', o', N', ln', i', h1, h2, h3, h4, fun S a b => h5 S ⟨a, b⟩, fun S a b => h6 S ⟨a, b⟩⟩
theorem RES_step {l0 : Int} {i : Nat} {Ac Ac' Am Am' : qSto → Prop} {Gc Gc' : qSto → Option (Int × qSto)} {Gm Gm' : qSto → Option qSto} (hc : ∀ S, Ac S → ∃ S1, Ac' S1 ∧ Gc S = Gc' S1 ∧ fcl S S1 ∧ S1 4 5 = S 4 5 ∧ S1 4 6 = S 4 6) (hm : ∀ S, Am S → ∃ S1, Am' S1 ∧ Gm S = Gm' S1 ∧ fml S S1) (h : RES B n l0 i Ac' Gc' Am' Gm') : RES B n l0 i Ac Gc Am Gm := by
  rcases h with ⟨k, q, h1, h2, h3, h4⟩ | ⟨F', o', N', ln', i', h1, h2, h3, h4, h5, h6⟩
  · refine Or.inl ⟨k, q, h1, h2, fun S a => ?_, fun S a => ?_⟩
    · obtain ⟨S1, u1, u2, u3, u4⟩ := hc S a
      obtain ⟨S', v1, v2, v3⟩ := h3 S1 u1
      exact ⟨S', by rw [u2, v1], v2, fcl_tr u3 v3⟩
    · obtain ⟨S1, u1, u2, u3⟩ := hm S a
      obtain ⟨S', v1, v2, v3⟩ := h4 S1 u1
      exact ⟨S', by rw [u2, v1], v2, fml_tr u3 v3⟩
  · refine Or.inr ⟨F', o', N', ln', i', h1, h2, h3, h4, fun S a => ?_, fun S a => ?_⟩
    · obtain ⟨S1, u1, u2, u3, u4, u5⟩ := hc S a
      obtain ⟨S', v1, v2, v3, ⟨v4, v4'⟩, v5⟩ := h5 S1 u1
      exact ⟨S', by rw [u2, v1], v2, v3, ⟨v4.trans u4, v4'.trans u5⟩, fcl_tr u3 v5⟩
    · obtain ⟨S1, u1, u2, u3⟩ := hm S a
      obtain ⟨S', v1, v2, v3, v4⟩ := h6 S1 u1
      exact ⟨S', by rw [u2, v1], v2, v3, fml_tr u3 v4⟩
/-- the class' way behind the word: numbers from i on, then the end -/
def cGo (f k i : Nat) (S : qSto) : Option (Int × qSto) := Option.bind (Reader_readLine_L84 f (k : Int) (i : Int) S) (fun q193 => Sum.elim (fun t195 => Option.bind (Reader_skipBlanks t195) (fun q196 => qk (qRb (q196 4 4)) (qk (qRb (q196 4 3)) (if (q196 4 3) ≤ (q196 4 4) then (Option.bind (Reader_refuse 1 (q196 4 4) q196) (fun q200 => qk (qZb q200.1) (some (q200.1, q200.2)))) else (qk (qIx (q196 4 4) 1200) (qk (qRb (q196 1 (Int.toNat (q196 4 4)))) (if (q196 1 (Int.toNat (q196 4 4))) = 59 then (Option.bind (Heard_take_35 (k : Int) (qup q196 4 4 ((q196 4 4) + 1))) (fun q220 => some (1, q220))) else (Option.bind (Reader_refuse 1 (q196 4 4) q196) (fun q222 => qk (qZb q222.1) (some (q222.1, q222.2))))))))))) (fun w => some w) q193)
/-- the class: heard F, at p, the numbers a so far -/
def cA (B : Nat → Int) (n : Nat) (F : Nat → Int) (o : Int) (N : Nat → Int) (p i : Nat) (a : Nat → Int) (S : qSto) : Prop := cV B n F o N S ∧ S 4 4 = (p : Int) ∧ ∀ u, u < i → S 35 u = a u
/-- the reference: heard G, the token from p on -/
def mA (B : Nat → Int) (n : Nat) (G : Nat → Int) (o : Int) (N : Nat → Int) (ln : Nat → Int) (p : Nat) (S : qSto) : Prop := mV B n G o N ln S ∧ tok B n p S
theorem RES_num (hb : hBy B n) {l0 : Int} {i0 f k i p : Nat} {a : Nat → Int} {G : Nat → Int} {lo hi lo' hi' : Int} {t : Prop} {H : Int → qSto → Option qSto} (hpp : hp B n p) (hf0 : 0 < f) (hk : k < 11) (hi9 : i < 9) (hq : (i : Int) < (qsl 0).getD k 0)
    (hlo : ∀ S', (∀ u, u < i → S' 35 u = a u) → Reader_leastNumber (k : Int) (i : Int) S' = some (lo, S')) (hl : qR lo) (hhi : (qsl 3).getD ((qsl 1).getD k 0 + (i : Int)).toNat 0 = hi) (hh : qR hi) (hl' : qR lo') (hh' : qR hi')
    (ht : okN B n p → lo ≤ vN B n p → vN B n p ≤ hi → ∀ S3, rQ S3 F → (∀ u, u < i + 1 → S3 35 u = fU a i (vN B n p) u) → Heard_isToldAlready_35 (k : Int) (i : Int) S3 = some (cI t 1 0, S3))
    (hH : ∀ x S kk q, mF kk q S → ∃ S', H x S = some S' ∧ mF kk q S' ∧ fml S S')
    (hin : okN B n p → lo ≤ vN B n p → vN B n p ≤ hi → lo' ≤ vN B n p ∧ vN B n p ≤ hi')
    (hout : okN B n p → ¬ (lo ≤ vN B n p ∧ vN B n p ≤ hi) → ¬ (lo' ≤ vN B n p ∧ vN B n p ≤ hi') ∨ ∀ S, mA B n G o N ln (eD B n p) S → S 70 13 = ((upto isB B n p : Nat) : Int) → ∃ S', H (vN B n p) S = some S' ∧ mF 2 ((upto isB B n p : Nat) : Int) S' ∧ fml S S')
    (htold : okN B n p → lo ≤ vN B n p → vN B n p ≤ hi → t → ∀ S, mA B n G o N ln (eD B n p) S → S 70 13 = ((upto isB B n p : Nat) : Int) → ∃ S', H (vN B n p) S = some S' ∧ mF 3 ((upto isB B n p : Nat) : Int) S' ∧ fml S S')
    (hgo : okN B n p → lo ≤ vN B n p → vN B n p ≤ hi → ¬ t → hp B n (eD B n p) → p < eD B n p → RES B n l0 i0 (cA B n F o N (eD B n p) (i + 1) (fU a i (vN B n p))) (cGo (f - 1) k (i + 1)) (fun S => mA B n G o N ln (eD B n p) S ∧ S 70 13 = ((upto isB B n p : Nat) : Int)) (H (vN B n p))) :
    RES B n l0 i0 (cA B n F o N p i a) (cGo f k i) (mA B n G o N ln p) (fun S => Option.bind (M_number lo' hi' S) (fun q => H q.1 q.2)) := by
  have h12 := hb.1
  have ab := eD_b (B := B) hpp.1.2
  have qb := qsl0_b k hk
  have nums : ∀ S S' : qSto, S' 35 = S 35 → (∀ u, u < i → S 35 u = a u) → ∀ u, u < i → S' 35 u = a u := fun S S' e h u hu => by rw [e]; exact h u hu
  by_cases ok : okN B n p
  · by_cases rg : lo ≤ vN B n p ∧ vN B n p ≤ hi
    · have tt : ∀ S, cA B n F o N p i a S → _ := fun S hc => rn_in hb (lo := lo) (hi := hi) hpp hc.1.1 hc.2.1 ok hk hi9 hq (fun S' e => hlo S' (nums S S' e hc.2.2)) hl hhi hh rg (t := t) (fun S3 o1 o2 => ht ok rg.1 rg.2 S3 (by
        have z := hc.1.2.1
        unfold rQ at z ⊢
        rw [o1 25 (by omega) (by omega), o1 3 (by omega) (by omega), o1 26 (by omega) (by omega), o1 27 (by omega) (by omega), o1 28 (by omega) (by omega), o1 29 (by omega) (by omega), o1 30 (by omega) (by omega), o1 31 (by omega) (by omega), o1 32 (by omega) (by omega), o1 33 (by omega) (by omega)]
        exact z) (fun u hu => by
        rw [o2]
        unfold fU
        by_cases w : u = i
        · rw [if_pos w, if_pos w]
        · rw [if_neg w, if_neg w]
          exact hc.2.2 u (by omega)))
      obtain ⟨hlo1, hhi1⟩ := hin ok rg.1 rg.2
      have mok : ∀ S, mA B n G o N ln p S → ∃ S1, M_number lo' hi' S = some (vN B n p, S1) ∧ mA B n G o N ln (eD B n p) S1 ∧ S1 70 13 = ((upto isB B n p : Nat) : Int) ∧ fml S S1 := fun S hm => by
        obtain ⟨S1, v1, v2, v3, v4, v5⟩ := number_ok hb (lo := lo') (hi := hi') hm.2 hpp ok hm.1.2.2.2.2 hl' hh' ⟨hlo1, hhi1⟩ hm.1.1
        exact ⟨S1, v1, ⟨gM_V hm.1 v5 v3, v2⟩, v4, gM_l v5⟩
      by_cases q : t
      · refine Or.inl ⟨3, ((upto isB B n p : Nat) : Int), by omega, by omega, fun S hc => ?_, fun S hm => ?_⟩
        · obtain ⟨S2, v1, v2, v3⟩ := (tt S hc).1 q
          refine ⟨S2, ?_, v2, gC_l v3⟩
          rw [cGo, l84_bad hf0 hk (by omega) hq (by omega) v1]
          rfl
        · obtain ⟨S1, v1, v2, v3, v4⟩ := mok S hm
          obtain ⟨S', w1, w2, w3⟩ := htold ok rg.1 rg.2 q S1 v2 v3
          exact ⟨S', by show Option.bind (M_number lo' hi' S) (fun q => H q.1 q.2) = _; rw [v1]; exact w1, w2, fml_tr v4 w3⟩
      · have hnx := hp_next hpp.1.2 ok
        have := ok.2.1
        refine RES_step (fun S hc => ?_) (fun S hm => ?_) (hgo ok rg.1 rg.2 q hnx (by omega))
        · obtain ⟨S2, v1, v2, v3, v4, v5⟩ := (tt S hc).2 q
          refine ⟨S2, ⟨cV_g hc.1 v4 (v5 3 (by omega)), v2, fun u hu => ?_⟩, ?_, gC_l v4, v5 5 (by omega), v5 6 (by omega)⟩
          · rw [v3]
            unfold fU
            by_cases w : u = i
            · rw [if_pos w, if_pos w]
            · rw [if_neg w, if_neg w]
              exact hc.2.2 u (by omega)
          · unfold cGo
            rw [l84_ok hf0 hk (by omega) hq (by omega) v1]
        · obtain ⟨S1, v1, v2, v3, v4⟩ := mok S hm
          exact ⟨S1, ⟨v2, v3⟩, by rw [v1]; rfl, v4⟩
    · refine Or.inl ⟨2, ((upto isB B n p : Nat) : Int), by omega, by omega, fun S hc => ?_, fun S hm => ?_⟩
      · obtain ⟨S2, v1, v2, v3⟩ := rn_out hb (lo := lo) (hi := hi) hpp hc.1.1 hc.2.1 ok hk hi9 hq (fun S' e => hlo S' (nums S S' e hc.2.2)) hl hhi hh rg
        refine ⟨S2, ?_, v2, gC_l v3⟩
        rw [cGo, l84_bad hf0 hk (by omega) hq (by omega) v1]
        rfl
      · by_cases rg' : lo' ≤ vN B n p ∧ vN B n p ≤ hi'
        · obtain ⟨S1, v1, v2, v3, v4, v5⟩ := number_ok hb (lo := lo') (hi := hi') hm.2 hpp ok hm.1.2.2.2.2 hl' hh' rg' hm.1.1
          rcases hout ok rg with w | w
          · exact absurd rg' w
          · obtain ⟨S', w1, w2, w3⟩ := w S1 ⟨gM_V hm.1 v5 v3, v2⟩ v4
            exact ⟨S', by show Option.bind (M_number lo' hi' S) (fun q => H q.1 q.2) = _; rw [v1]; exact w1, w2, fml_tr (gM_l v5) w3⟩
        · obtain ⟨x, S1, v1, v2, v3⟩ := number_out (lo := lo') (hi := hi') hm.2 hpp ok hm.1.2.2.2.2 hl' hh' rg'
          obtain ⟨S', w1, w2, w3⟩ := hH x S1 _ _ v2
          exact ⟨S', by show Option.bind (M_number lo' hi' S) (fun q => H q.1 q.2) = _; rw [v1]; exact w1, w2, fml_tr (gM_l v3) w3⟩
  · refine Or.inl ⟨1, ((upto isB B n p : Nat) : Int), by omega, by omega, fun S hc => ?_, fun S hm => ?_⟩
    · obtain ⟨S2, v1, v2, v3⟩ := rn_bad hb (k := (k : Int)) (i := (i : Int)) hpp hc.1.1 hc.2.1 ok
      refine ⟨S2, ?_, v2, gC_l v3⟩
      rw [cGo, l84_bad hf0 hk (by omega) hq (by omega) v1]
      rfl
    · obtain ⟨x, S1, v1, v2, v3⟩ := number_bad (lo := lo') (hi := hi') hm.2 hpp ok hm.1.2.2.2.2
      obtain ⟨S', w1, w2, w3⟩ := hH x S1 _ _ v2
      exact ⟨S', by show Option.bind (M_number lo' hi' S) (fun q => H q.1 q.2) = _; rw [v1]; exact w1, w2, fml_tr (gM_l v3) w3⟩
/-- the end of a line -/
theorem RES_end (hb : hBy B n) {i0 f k i p : Nat} {a : Nat → Int} {G : Nat → Int} {o' : Int} {N' : Nat → Int} {ln' : Nat → Int} (hpn : p ≤ n) (hip : i0 ≤ p) (hf0 : 0 < f) (hk : k < 11) (hi9 : i ≤ 9) (hq : (qsl 0).getD k 0 ≤ (i : Int)) (hh : G 10 ≤ 1999 → hS G o' N' ln') (htk : ∀ S, cV B n F o N S → (∀ u, u < i → S 35 u = a u) → ∃ S', Heard_take_35 (k : Int) S = some S' ∧ cV B n G o' N' S' ∧ S' 4 = S 4 ∧ fcl S S') : RES B n (G 10) i0 (cA B n F o N p i a) (cGo f k i) (mA B n G o' N' ln' p) mTail := by
  have h12 := hb.1
  have ub := upto_b (P := isB) (B := B) hpn
  have qb := qsl0_b k hk
  by_cases sm : upto isB B n p < n ∧ B (upto isB B n p) = 59
  · refine Or.inr ⟨fU G 10 (G 10 + 1), o', N', ln', upto isB B n p + 1, fun hF => hS_10 (hh hF) hF, ⟨by omega, by omega⟩, by rw [Nat.add_sub_cancel]; exact sm.2, fU_on, fun S hc => ?_, fun S hm => ?_⟩
    · obtain ⟨S1, w1, w2, w3⟩ := tail_ok hb (k := (k : Int)) hc.1.1 hc.2.1 hpn sm
      obtain ⟨S', x1, x2, x3, x4⟩ := htk S1 (cV_4 hc.1 w3) (fun u hu => by rw [w3.1 35 (by omega)]; exact hc.2.2 u hu)
      refine ⟨S', ?_, cV_10 x2, by rw [x3]; exact w2, by rw [x3, w3.2 5 (by omega), w3.2 6 (by omega)]; exact ⟨rfl, rfl⟩, fcl_tr (f4_l w3) x4⟩
      rw [cGo, l84_end hf0 hk (by omega) hq (by omega)]
      simp only [ob_sn, Sum.elim_inl]
      rw [w1, x1]
      rfl
    · exact mTail_ok hb hpn hm.2 hm.1 sm
  · refine Or.inl ⟨1, ((upto isB B n p : Nat) : Int), by omega, by omega, fun S hc => ?_, fun S hm => ?_⟩
    · obtain ⟨S1, w1, w2, w3⟩ := tail_bad hb (k := (k : Int)) hc.1.1 hc.2.1 hpn sm
      refine ⟨S1, ?_, w2, gC_l w3⟩
      rw [cGo, l84_end hf0 hk (by omega) hq (by omega)]
      simp only [ob_sn, Sum.elim_inl]
      exact w1
    · exact mTail_bad hm.2 hm.1.2.2.2.2 sm
/-- a line of which there may be so many: its beginning -/
theorem RES_begin (hb : hBy B n) {i k : Nat} (hi : i ≤ n) (hk6 : 6 ≤ k) (hk9 : k < 10) (hk : kAt B n i = k) {b : Int} (hbb : b = 0 ∨ b = 1) (hfull : ∀ S1, cV B n F o N S1 → Heard_isFull (k : Int) S1 = some (b, S1)) (hMb : b = 1 → ∀ S, mV B n F o N ln S → tok B n i S → ∃ S', M_line S = some S' ∧ mF 4 ((upto isB B n i : Nat) : Int) S' ∧ fml S S') {Gm : qSto → Option qSto} (hMo : b = 0 → ∀ S, mV B n F o N ln S → tok B n i S → ∃ S1, mA B n F o N ln (upto isL B n (upto isB B n i)) S1 ∧ M_line S = Gm S1 ∧ fml S S1) (hgo : b = 0 → hp B n (upto isL B n (upto isB B n i)) → i < upto isL B n (upto isB B n i) → RES B n (F 10) i (cA B n F o N (upto isL B n (upto isB B n i)) 0 (fun _ => 0)) (cGo qF k 0) (mA B n F o N ln (upto isL B n (upto isB B n i))) Gm) : lBad B n F o N ln i ∨ lOk B n F o N ln i := by
  apply RES_line
  have h12 := hb.1
  obtain ⟨kw1, kw2, kw3, kw4⟩ := kAt_w hi (show kAt B n i ≠ -1 by omega)
  have ub := upto_b (P := isB) (B := B) hi
  rcases hbb with g | g
  · refine RES_step (fun S hc => ?_) (fun S hm => hMo g S hm.1 hm.2) (hgo g kw4 (by omega))
    obtain ⟨S1, t1, t2, t3, t4⟩ := rl_e hb hi hk (by omega) hc.1 hc.2 (a := 0) (Or.inl rfl) (Or.inl g) (fun S1 _ => set_n hk6 (by omega)) hfull
    refine ⟨S1, ⟨t3, t1, fun u hu => by omega⟩, ?_, f4_l t2, t2.2 5 (by omega), t2.2 6 (by omega)⟩
    rw [t4, if_pos rfl, if_pos g]
    rfl
  · refine Or.inl ⟨4, ((upto isB B n i : Nat) : Int), by omega, by omega, fun S hc => ?_, fun S hm => hMb g S hm.1 hm.2⟩
    obtain ⟨S1, t1, t2, t3, t4⟩ := rl_e hb hi hk (by omega) hc.1 hc.2 (a := 0) (Or.inl rfl) (Or.inr g) (fun S1 _ => set_n hk6 (by omega)) hfull
    refine ⟨_, ?_, cF_up, fcl_tr (f4_l t2) (gC_l (gC_up gC_rfl))⟩
    rw [t4, if_pos rfl, if_neg (by omega)]
/-- so many already: the reference -/
theorem begins_full {S : qSto} {i c : Nat} {mx : Int} (hc : c < 250) (hm : mV B n F o N ln S) (ht : tok B n i S) (h : F c = mx) (hr : qR mx) : ∃ S', M_begins (c : Int) mx S = some (0, S') ∧ mF 4 ((upto isB B n i : Nat) : Int) S' ∧ fml S S' := by
  have vf : mF 4 ((upto isB B n i : Nat) : Int) (qup (qup S 70 11 4) 70 12 ((upto isB B n i : Nat) : Int)) := mF_fail (by omega)
  refine ⟨_, ?_, vf, gM_l (gM_fail (by omega))⟩
  rw [M_begins, qk_ix (by omega) (by omega), Int.toNat_natCast, hm.2.1, h, qk_r hr.1 hr.2, qk_r hr.1 hr.2, if_pos rfl, fail_0 hm.2.2.2.2, ht.1]
  simp only [ob_sn]
  rw [vf.2.1, qk_r (by omega) (by omega), if_neg (by omega)]
  simp only [ob_sn]
  rw [vf.2.1, qk_r (by omega) (by omega), if_neg (by omega)]
theorem begins_ok (hb : hBy B n) {S : qSto} {i c : Nat} {mx : Int} (hi : i ≤ n) (hk : kAt B n i ≠ -1) (hc : c < 250) (hm : mV B n F o N ln S) (ht : tok B n i S) (h : F c ≠ mx) (hr : qR mx) (hr2 : qR (F c)) : ∃ S', M_begins (c : Int) mx S = some (1, S') ∧ mA B n F o N ln (upto isL B n (upto isB B n i)) S' ∧ fml S S' := by
  obtain ⟨S1, u1, u2, u3, u4⟩ := word_on hb hi hk hm ht
  refine ⟨S1, ?_, ⟨u3, u2⟩, f7_l u4⟩
  rw [M_begins, qk_ix (by omega) (by omega), Int.toNat_natCast, hm.2.1, qk_r hr2.1 hr2.2, qk_r hr.1 hr.2, if_neg h]
  simp only [ob_sn]
  rw [hm.2.2.2.2, qk_r (by omega) (by omega), if_pos rfl, u1]
  simp only [ob_sn]
  rw [u3.2.2.2.2, qk_r (by omega) (by omega), if_pos rfl]
theorem b_some {α : Type} {x : Option α} : Option.bind x (fun q => some q) = x := by
  cases x <;> rfl
theorem mA_up {S : qSto} {G : Nat → Int} {p j : Nat} {v : Int} (h : mA B n G o N ln p S) (_ : j ≠ 9) : mA B n (fU G j v) o N ln p (qup S 71 j v) := by
  obtain ⟨⟨m1, m2, m3, m4, m5⟩, ht⟩ := h
  refine ⟨⟨⟨by rw [qup_off (by omega)]; exact m1.1, by rw [qup_off (by omega)]; exact m1.2⟩, fun u => ?_, by rw [qup_off (by omega)]; exact m3, fun s => ?_, by rw [qup_off (by omega)]; exact m5⟩, ?_⟩
  · rw [qup_on, m2]
    rfl
  · rw [qup_off (by omega)]
    exact m4 s
  · unfold tok
    rw [qup_off (by omega)]
    exact ht
theorem mF_71 {S : qSto} {k q v : Int} {j : Nat} (h : mF k q S) : mF k q (qup S 71 j v) := mF_off h (by rw [qup_off (by omega)]) (by rw [qup_off (by omega)])
theorem isTold_L {S : qSto} {G : Nat → Int} (h : ∀ k, S 71 k = G k) {A c : Nat} {x : Int} (hA : A + c ≤ 250) (hx : qR x) (hr : ∀ u, u < c → qR (G (A + u))) : ∀ (r f i : Nat), i + r = c → r < f → (∀ u, u < i → G (A + u) ≠ x) → M_isTold_L3 f (A : Int) (c : Int) x (i : Int) S = some (cI (∃ u, u < c ∧ G (A + u) = x) (.inr (1, S)) (.inl S))
  | 0, f + 1, i, e, _, hn => by
    rw [M_isTold_L3, qk_r (by omega) (by omega), qk_r (by omega) (by omega), if_pos (by omega), cI_f (fun ⟨u, h1, h2⟩ => hn u (by omega) h2)]
  | r + 1, f + 1, i, e, hf, hn => by
    have e1 : ((A : Int) + (i : Int)).toNat = A + i := by omega
    have rr := hr i (by omega)
    rw [M_isTold_L3, qk_r (by omega) (by omega), qk_r (by omega) (by omega), if_neg (by omega), qk_ix (by omega) (by omega), e1, h, qk_r rr.1 rr.2, qk_r hx.1 hx.2]
    by_cases g : G (A + i) = x
    · rw [if_pos g, cI_t ⟨i, by omega, g⟩]
    · rw [if_neg g]
      exact isTold_L h hA hx hr r f (i + 1) (by omega) (by omega) (fun u hu => by
        by_cases w : u = i
        · rw [w]
          exact g
        · exact hn u (by omega))
theorem isTold_s {S : qSto} {G : Nat → Int} (h : ∀ k, S 71 k = G k) {A c : Nat} {x : Int} (hA : A + c ≤ 250) (hx : qR x) (hr : ∀ u, u < c → qR (G (A + u))) : M_isTold (A : Int) (c : Int) x S = some (cI (∃ u, u < c ∧ G (A + u) = x) 1 0, S) := by
  have w := isTold_L h hA hx hr c qF 0 (by omega) (by unfold qF; omega) (fun u hu => by omega)
  have w' : M_isTold_L3 qF (A : Int) (c : Int) x 0 S = _ := w
  rw [M_isTold, w']
  by_cases g : ∃ u, u < c ∧ G (A + u) = x
  · rw [cI_t g, cI_t g]
    rfl
  · rw [cI_f g, cI_f g]
    rfl
theorem holds26_L {S : qSto} {c : Nat} {x : Int} (hc : c ≤ 8) (hx : qR x) (hr : ∀ u, u < c → qR (S 26 u)) : ∀ (r f i : Nat), i + r = c → r < f → (∀ u, u < i → S 26 u ≠ x) → Told_holds_26_L2 f (c : Int) x (i : Int) S = some (cI (∃ u, u < c ∧ S 26 u = x) (.inr (1, S)) (.inl S))
  | 0, f + 1, i, e, _, hn => by
    rw [Told_holds_26_L2, qk_r (by omega) (by omega), qk_r (by omega) (by omega), if_pos (by omega), cI_f (fun ⟨u, h1, h2⟩ => hn u (by omega) h2)]
  | r + 1, f + 1, i, e, hf, hn => by
    have rr := hr i (by omega)
    rw [Told_holds_26_L2, qk_r (by omega) (by omega), qk_r (by omega) (by omega), if_neg (by omega), qk_ix (by omega) (by omega), Int.toNat_natCast, qk_r rr.1 rr.2, qk_r hx.1 hx.2]
    by_cases g : S 26 i = x
    · rw [if_pos g, cI_t ⟨i, by omega, g⟩]
    · rw [if_neg g]
      exact holds26_L hc hx hr r f (i + 1) (by omega) (by omega) (fun u hu => by
        by_cases w : u = i
        · rw [w]
          exact g
        · exact hn u (by omega))
theorem holds26_s {S : qSto} {c : Nat} {x : Int} (hc : c ≤ 8) (hx : qR x) (hr : ∀ u, u < c → qR (S 26 u)) : Told_holds_26 (c : Int) x S = some (cI (∃ u, u < c ∧ S 26 u = x) 1 0, S) := by
  have w := holds26_L hc hx hr c qF 0 (by omega) (by unfold qF; omega) (fun u hu => by omega)
  have w' : Told_holds_26_L2 qF (c : Int) x 0 S = _ := w
  rw [Told_holds_26, w']
  by_cases g : ∃ u, u < c ∧ S 26 u = x
  · rw [cI_t g, cI_t g]
    rfl
  · rw [cI_f g, cI_f g]
    rfl
theorem holds30_L {S : qSto} {c : Nat} {x : Int} (hc : c ≤ 30) (hx : qR x) (hr : ∀ u, u < c → qR (S 30 u)) : ∀ (r f i : Nat), i + r = c → r < f → (∀ u, u < i → S 30 u ≠ x) → Told_holds_30_L2 f (c : Int) x (i : Int) S = some (cI (∃ u, u < c ∧ S 30 u = x) (.inr (1, S)) (.inl S))
  | 0, f + 1, i, e, _, hn => by
    rw [Told_holds_30_L2, qk_r (by omega) (by omega), qk_r (by omega) (by omega), if_pos (by omega), cI_f (fun ⟨u, h1, h2⟩ => hn u (by omega) h2)]
  | r + 1, f + 1, i, e, hf, hn => by
    have rr := hr i (by omega)
    rw [Told_holds_30_L2, qk_r (by omega) (by omega), qk_r (by omega) (by omega), if_neg (by omega), qk_ix (by omega) (by omega), Int.toNat_natCast, qk_r rr.1 rr.2, qk_r hx.1 hx.2]
    by_cases g : S 30 i = x
    · rw [if_pos g, cI_t ⟨i, by omega, g⟩]
    · rw [if_neg g]
      exact holds30_L hc hx hr r f (i + 1) (by omega) (by omega) (fun u hu => by
        by_cases w : u = i
        · rw [w]
          exact g
        · exact hn u (by omega))
theorem holds30_s {S : qSto} {c : Nat} {x : Int} (hc : c ≤ 30) (hx : qR x) (hr : ∀ u, u < c → qR (S 30 u)) : Told_holds_30 (c : Int) x S = some (cI (∃ u, u < c ∧ S 30 u = x) 1 0, S) := by
  have w := holds30_L hc hx hr c qF 0 (by omega) (by unfold qF; omega) (fun u hu => by omega)
  have w' : Told_holds_30_L2 qF (c : Int) x 0 S = _ := w
  rw [Told_holds_30, w']
  by_cases g : ∃ u, u < c ∧ S 30 u = x
  · rw [cI_t g, cI_t g]
    rfl
  · rw [cI_f g, cI_f g]
    rfl
end PRS
