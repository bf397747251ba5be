/-! lines of the text: what both have heard so far -/
def fU (F : Nat → Int) (i : Nat) (v : Int) : Nat → Int := fun j => if j = i then v else F j
theorem fU_on {F : Nat → Int} {i : Nat} {v : Int} : fU F i v i = v := if_pos rfl
theorem fU_off {F : Nat → Int} {i j : Nat} {v : Int} (h : j ≠ i) : fU F i v j = F j := if_neg h
/-- the class' cells of what is heard say what F says -/
def rQ (S : qSto) (F : Nat → Int) : Prop :=
  (∀ i : Nat, i < 6 → S 25 i = F i) ∧ S 3 2 = F 6 ∧ S 3 5 = F 7 ∧ S 3 8 = F 8 ∧ S 3 12 = F 9 ∧
  (∀ k : Nat, (k : Int) < F 6 → S 26 k = F (11 + k) ∧ S 27 k = F (19 + k)) ∧
  (∀ k : Nat, (k : Int) < F 7 → S 28 k = F (27 + k) ∧ S 29 k = F (35 + k)) ∧
  (∀ k : Nat, (k : Int) < F 8 → S 30 k = F (43 + k) ∧ S 31 k = F (73 + k)) ∧
  (∀ k : Nat, k < 21 → S 32 k = F (103 + k)) ∧
  (∀ s : Nat, (s : Int) < F 9 → ∀ w : Nat, w < 9 → S 33 (9 * s + w) = F (124 + 9 * s + w))
/-- what is heard: numbers, which settings, names and their lengths -/
def hS (F : Nat → Int) (o : Int) (N : Nat → Int) (ln : Nat → Int) : Prop :=
  bT F ∧ (0 ≤ o ∧ o ≤ 63) ∧ (0 ≤ F 10 ∧ F 10 ≤ 2000) ∧ ∀ s : Nat, (s : Int) < F 9 → ∃ l, (1 ≤ l ∧ l ≤ 8) ∧ (∀ i, i < l → 97 ≤ N (8 * s + i) ∧ N (8 * s + i) ≤ 122) ∧ (∀ i, l ≤ i → i < 8 → N (8 * s + i) = 0) ∧ ln s = nmW (fun i => N (8 * s + i)) l
def cV (B : Nat → Int) (n : Nat) (F : Nat → Int) (o : Int) (N : Nat → Int) (S : qSto) : Prop := bP S B n ∧ rQ S F ∧ S 3 1 = o ∧ ∀ j, S 34 j = N j
def mV (B : Nat → Int) (n : Nat) (F : Nat → Int) (o : Int) (N : Nat → Int) (ln : Nat → Int) (S : qSto) : Prop := bQ S B n ∧ (∀ k, S 71 k = F k) ∧ S 70 14 = o ∧ (∀ s, S 73 s = ln s) ∧ S 70 11 = 0
/-- frames -/
def fcl (S S' : qSto) : Prop := ∀ c, ¬ (c = 3 ∨ c = 4 ∨ (25 ≤ c ∧ c ≤ 35)) → S' c = S c
def fml (S S' : qSto) : Prop := (∀ c, ¬ (c = 70 ∨ c = 71 ∨ c = 73) → S' c = S c) ∧ (∀ u, ¬ ((7 ≤ u ∧ u ≤ 14) ∨ u = 17) → S' 70 u = S 70 u) ∧ (S' 70 11 = 0 → S 70 11 = 0 ∧ S' 70 12 = S 70 12)
theorem gC_l {S S1 : qSto} (h : gC S S1) : fcl S S1 := fun c hc => h c (by omega) (by omega)
theorem f4_l {S S1 : qSto} (h : f4 S S1) : fcl S S1 := fun c hc => h.1 c (by omega)
theorem fcl_tr {S S1 S2 : qSto} (h1 : fcl S S1) (h2 : fcl S1 S2) : fcl S S2 := fun c h => (h2 c h).trans (h1 c h)
theorem gM_l {S S1 : qSto} (h : gM S S1) : fml S S1 := ⟨fun c hc => h.1 c (by omega), fun u hu => h.2.1 u (by omega), h.2.2⟩
theorem f7_l {S S1 : qSto} (h : f7 S S1) : fml S S1 := gM_l (f7_M h)
theorem fml_tr {S S1 S2 : qSto} (h1 : fml S S1) (h2 : fml S1 S2) : fml S S2 := ⟨fun c h => (h2.1 c h).trans (h1.1 c h), fun c h => (h2.2.1 c h).trans (h1.2.1 c h), fun h => ⟨(h1.2.2 (h2.2.2 h).1).1, (h2.2.2 h).2.trans (h1.2.2 (h2.2.2 h).1).2⟩⟩
theorem fml_rfl {S : qSto} : fml S S := ⟨fun _ _ => rfl, fun _ _ => rfl, fun h => ⟨h, rfl⟩⟩
theorem fml_71 {S : qSto} {i : Nat} {v : Int} : fml S (qup S 71 i v) := ⟨fun c h => qup_off (by omega), fun u _ => by rw [qup_off (by omega)], fun h => ⟨by rw [qup_off (by omega)] at h; exact h, by rw [qup_off (by omega)]⟩⟩
theorem fml_73 {S : qSto} {i : Nat} {v : Int} : fml S (qup S 73 i v) := ⟨fun c h => qup_off (by omega), fun u _ => by rw [qup_off (by omega)], fun h => ⟨by rw [qup_off (by omega)] at h; exact h, by rw [qup_off (by omega)]⟩⟩
theorem fml_14 {S : qSto} {v : Int} : fml S (qup S 70 14 v) := ⟨fun c h => qup_off (by omega), fun w h => by rw [qup_on, if_neg (by omega)], fun h => ⟨by rw [qup_on, if_neg (by omega)] at h; exact h, by rw [qup_on, if_neg (by omega)]⟩⟩
section PLN
variable {B : Nat → Int} {n : Nat} {F : Nat → Int} {o : Int} {N : Nat → Int} {ln : Nat → Int}
/-- both refuse the line that begins from i on; both take it -/
def lBad (B : Nat → Int) (n : Nat) (F : Nat → Int) (o : Int) (N : Nat → Int) (ln : Nat → Int) (i : Nat) : Prop := ∃ (k q : Int), (1 ≤ k ∧ k ≤ 4) ∧ (0 ≤ q ∧ q ≤ 1200) ∧ (∀ S, cV B n F o N S → S 4 4 = ((upto isB B n i : Nat) : Int) → ∃ S', Reader_readLine S = some (0, S') ∧ cF k q S' ∧ fcl S S') ∧ (∀ S, mV B n F o N ln S → tok B n i S → ∃ S', M_line S = some S' ∧ mF k q S' ∧ fml S S')
def lOk (B : Nat → Int) (n : Nat) (F : Nat → Int) (o : Int) (N : Nat → Int) (ln : Nat → Int) (i : Nat) : Prop := ∃ (F' : Nat → Int) (o' : Int) (N' : Nat → Int) (ln' : Nat → Int) (i' : Nat), (F 10 ≤ 1999 → hS F' o' N' ln') ∧ (i < i' ∧ i' ≤ n) ∧ B (i' - 1) = 59 ∧ F' 10 = F 10 + 1 ∧ (∀ S, cV B n F o N S → S 4 4 = ((upto isB B n i : Nat) : Int) → ∃ S', Reader_readLine S = some (1, S') ∧ cV B n F' o' N' S' ∧ S' 4 4 = (i' : Int) ∧ (S' 4 5 = S 4 5 ∧ S' 4 6 = S 4 6) ∧ fcl S S') ∧ (∀ S, mV B n F o N ln S → tok B n i S → ∃ S', M_line S = some S' ∧ mV B n F' o' N' ln' S' ∧ tok B n i' S' ∧ fml S S')
theorem cV_off {S S' : qSto} (h : cV B n F o N S) (e : ∀ c, c = 1 ∨ c = 3 ∨ (25 ≤ c ∧ c ≤ 34) → S' c = S c) (e2 : S' 4 3 = S 4 3) : cV B n F o N S' := by
  obtain ⟨⟨h1, h2⟩, h3, h4, h5⟩ := h
  refine ⟨⟨e2.trans h1, by rw [e 1 (by omega)]; exact h2⟩, ?_, by rw [e 3 (by omega)]; exact h4, by rw [e 34 (by omega)]; exact h5⟩
  unfold rQ
  rw [e 25 (by omega), e 3 (by omega), e 26 (by omega), e 27 (by omega), e 28 (by omega), e 29 (by omega), e 30 (by omega), e 31 (by omega), e 32 (by omega), e 33 (by omega)]
  exact h3
theorem cV_4 {S S' : qSto} (h : cV B n F o N S) (f : f4 S S') : cV B n F o N S' := cV_off h (fun c hc => f.1 c (by omega)) (f.2 3 (by omega))
theorem mV_7 {S S' : qSto} (h : mV B n F o N ln S) (f : f7 S S') : mV B n F o N ln S' := by
  obtain ⟨h1, h2, h3, h4, h5⟩ := h
  refine ⟨f7_b h1 f, ?_, ?_, ?_, ?_⟩
  · rw [f.1 71 (by omega)]
    exact h2
  · rw [f.2 14 (by omega)]
    exact h3
  · rw [f.1 73 (by omega)]
    exact h4
  · rw [f.2 11 (by omega)]
    exact h5
/-- the class: the word that begins a line -/
theorem rl_head (hb : hBy B n) {S : qSto} {i : Nat} (hi : i ≤ n) (h : cV B n F o N S) (h4 : S 4 4 = ((upto isB B n i : Nat) : Int)) : ∃ S1, Reader_passRow 97 122 S = some (((upto isL B n (upto isB B n i) - upto isB B n i : Nat) : Int), S1) ∧ Reader_lineKind (S 4 4) ((upto isL B n (upto isB B n i) - upto isB B n i : Nat) : Int) S1 = some (kAt B n i, S1) ∧ S1 4 4 = ((upto isL B n (upto isB B n i) : Nat) : Int) ∧ f4 S S1 ∧ cV B n F o N S1 := by
  have ub := upto_b (P := isB) (B := B) hi
  have ul := upto_b (P := isL) (B := B) ub.2
  obtain ⟨S1, t1, t2, t3⟩ := pass_s (P := isL) hb (lo := 97) (hi' := 122) (by omega) isL_iff ub.2 h.1 h4
  refine ⟨S1, t1, ?_, t2, t3, cV_4 h t3⟩
  rw [h4]
  exact lineKind_s hb (f4_b h.1 t3) (by omega)
theorem kAt_b (B : Nat → Int) (n i : Nat) : -1 ≤ kAt B n i ∧ kAt B n i ≤ 10 := by
  unfold kAt
  rcases kdF_rng (Q := isK B (upto isB B n i) (upto isL B n (upto isB B n i) - upto isB B n i)) 11 0 with ⟨q, -⟩ | ⟨k, q, h1, h2, h3⟩ <;> omega
theorem kAt_w {i : Nat} (hi : i ≤ n) (h : kAt B n i ≠ -1) : (upto isB B n i < n ∧ isL (B (upto isB B n i)) = true) ∧ upto isB B n i < upto isL B n (upto isB B n i) ∧ upto isL B n (upto isB B n i) ≤ n ∧ hp B n (upto isL B n (upto isB B n i)) := by
  have ub := upto_b (P := isB) (B := B) hi
  have ul := upto_b (P := isL) (B := B) ub.2
  have w : upto isB B n i < n ∧ isL (B (upto isB B n i)) = true := by
    by_cases q : upto isB B n i < n ∧ isL (B (upto isB B n i)) = true
    · exact q
    · exact absurd (kAt_no hi q) h
  have lt : upto isB B n i < upto isL B n (upto isB B n i) := by
    rw [upto_y w.1 w.2]
    have := upto_b (P := isL) (B := B) (show upto isB B n i + 1 ≤ n by omega)
    omega
  exact ⟨w, lt, ul.2, ⟨by omega, ul.2⟩, Or.inl (upto_in (P := isL) ub.2 (by omega) (by omega))⟩
/-- the token of that word -/
theorem tok_w {i : Nat} {S : qSto} (hi : i ≤ n) (h : tok B n i S) (hk : kAt B n i ≠ -1) : S 70 7 = ((upto isL B n (upto isB B n i) : Nat) : Int) := by
  obtain ⟨w, -⟩ := kAt_w hi hk
  rcases h.2 with q | ⟨-, -, q, -⟩ | ⟨-, q2, -⟩ | ⟨-, q2, -⟩
  · omega
  · exact q
  · have a := (isL_iff _).mp w.2
    have b := (isD_iff _).mp q2
    omega
  · rw [w.2] at q2
    cases q2
/-- a line's end: the class -/
theorem tail_bad (hb : hBy B n) {S : qSto} {p : Nat} {k : Int} (hP : bP S B n) (h4 : S 4 4 = p) (hn : p ≤ n) (h : ¬ (upto isB B n p < n ∧ B (upto isB B n p) = 59)) : ∃ S', Option.bind (Reader_skipBlanks S) (fun q196 => qk (qRb (q196 4 4)) (qk (qRb (q196 4 3)) (if (q196 4 3) ≤ (q196 4 4) then (Option.bind (Reader_refuse 1 (q196 4 4) q196) (fun q200 => qk (qZb q200.1) (some (q200.1, q200.2)))) else (qk (qIx (q196 4 4) 1200) (qk (qRb (q196 1 (Int.toNat (q196 4 4)))) (if (q196 1 (Int.toNat (q196 4 4))) = 59 then (Option.bind (Heard_take_35 k (qup q196 4 4 ((q196 4 4) + 1))) (fun q220 => some (1, q220))) else (Option.bind (Reader_refuse 1 (q196 4 4) q196) (fun q222 => qk (qZb q222.1) (some (q222.1, q222.2)))))))))) = some (0, S') ∧ cF 1 (upto isB B n p) S' ∧ gC S S' := by
  have h12 := hb.1
  have ub := upto_b (P := isB) (B := B) hn
  obtain ⟨S1, t1, t2, t3⟩ := skip_s hb hn hP h4
  have hP1 := f4_b hP t3
  rw [t1]
  simp only [ob_sn]
  rw [t2, hP1.1, qk_r (by omega) (by omega), qk_r (by omega) (by omega)]
  by_cases g : (n : Int) ≤ ((upto isB B n p : Nat) : Int)
  · rw [if_pos g, refuse_s]
    exact ⟨_, rfl, cF_up, gC_up (f4_C t3)⟩
  · have bb := hb.2 (upto isB B n p) (by omega)
    have s1 := hP1.2 (upto isB B n p) (by omega)
    have sg := sgn bb
    have br := bmod_b (x := B (upto isB B n p))
    rw [if_neg g, qk_ix (by omega) (by omega), Int.toNat_natCast, s1, qk_r (by omega) (by omega), if_neg (by
      rw [sg]
      split <;> omega), refuse_s]
    exact ⟨_, rfl, cF_up, gC_up (f4_C t3)⟩
theorem tail_ok (hb : hBy B n) {S : qSto} {p : Nat} {k : Int} (hP : bP S B n) (h4 : S 4 4 = p) (hn : p ≤ n) (h : upto isB B n p < n ∧ B (upto isB B n p) = 59) : ∃ S1, Option.bind (Reader_skipBlanks S) (fun q196 => qk (qRb (q196 4 4)) (qk (qRb (q196 4 3)) (if (q196 4 3) ≤ (q196 4 4) then (Option.bind (Reader_refuse 1 (q196 4 4) q196) (fun q200 => qk (qZb q200.1) (some (q200.1, q200.2)))) else (qk (qIx (q196 4 4) 1200) (qk (qRb (q196 1 (Int.toNat (q196 4 4)))) (if (q196 1 (Int.toNat (q196 4 4))) = 59 then (Option.bind (Heard_take_35 k (qup q196 4 4 ((q196 4 4) + 1))) (fun q220 => some (1, q220))) else (Option.bind (Reader_refuse 1 (q196 4 4) q196) (fun q222 => qk (qZb q222.1) (some (q222.1, q222.2)))))))))) = Option.bind (Heard_take_35 k S1) (fun q220 => some (1, q220)) ∧ S1 4 4 = ((upto isB B n p + 1 : Nat) : Int) ∧ f4 S S1 := by
  have h12 := hb.1
  have ub := upto_b (P := isB) (B := B) hn
  obtain ⟨S1, t1, t2, t3⟩ := skip_s hb hn hP h4
  have hP1 := f4_b hP t3
  have bb := hb.2 (upto isB B n p) (by omega)
  have s1 := hP1.2 (upto isB B n p) (by omega)
  have sg := sgn bb
  rw [if_pos (by omega)] at sg
  refine ⟨qup S1 4 4 (((upto isB B n p : Nat) : Int) + 1), ?_, by rw [qup_on, if_pos rfl]; omega, f4_tr t3 f4_up⟩
  rw [t1]
  simp only [ob_sn]
  rw [t2, hP1.1, qk_r (by omega) (by omega), qk_r (by omega) (by omega), if_neg (by omega), qk_ix (by omega) (by omega), Int.toNat_natCast, s1, sg, h.2, qk_r (by omega) (by omega), if_pos rfl]
/-- a line's end: the reference -/
def mTail (t : qSto) : Option qSto := qk (qRb (t 70 11)) (if (t 70 11) ≤ 0 then (Option.bind (qk (qRb (t 70 9)) (if (t 70 9) = 3 then (Option.bind (M_goOn t) (fun q2381 => some q2381)) else (Option.bind (M_fail 1 (t 70 8) t) (fun q2383 => some q2383))) : Option qSto) (fun t2385 => some (qup t2385 71 10 ((t2385 71 10) + 1)))) else some t)
theorem mTail_f {S : qSto} {k q : Int} (h : mF k q S) : mTail S = some S := by
  have := h.1
  rw [mTail, h.2.1, qk_r (by omega) (by omega), if_neg (by omega)]
theorem tok_semi {p : Nat} {S : qSto} (h : tok B n p S) : S 70 9 = 3 ↔ (upto isB B n p < n ∧ B (upto isB B n p) = 59) := by
  rcases h.2 with q | ⟨q1, q2, -, q4⟩ | ⟨q1, q2, -, q4⟩ | ⟨q1, q2, q3, -, q5⟩
  · constructor <;> intro z <;> omega
  · have := (isL_iff _).mp q2
    constructor
    · intro z
      rcases q4 with q | q <;> omega
    · intro z
      omega
  · have := (isD_iff _).mp q2
    constructor
    · intro z
      rcases q4 with q | q <;> omega
    · intro z
      omega
  · rw [q5]
    constructor
    · intro z
      split at z
      · next w => exact ⟨q1, w⟩
      · omega
    · intro z
      rw [if_pos z.2]
theorem mTail_bad {S : qSto} {p : Nat} (h : tok B n p S) (h0 : S 70 11 = 0) (hs : ¬ (upto isB B n p < n ∧ B (upto isB B n p) = 59)) : ∃ S', mTail S = some S' ∧ mF 1 (upto isB B n p) S' ∧ fml S S' := by
  have t9 := tok_9 h
  rw [mTail, h0, qk_r (by omega) (by omega), if_pos (by omega), qk_r (by omega) (by omega), if_neg (fun q => hs ((tok_semi h).mp q)), fail_0 h0]
  simp only [ob_sn]
  refine ⟨_, rfl, mF_off (mF_fail (S := S) (k := 1) (q := upto isB B n p) (by omega)) ?_ ?_, fml_tr (gM_l (gM_fail (by omega))) fml_71⟩
  · rw [qup_off (by omega), qup_on, if_neg (by omega), qup_on, if_pos rfl, qup_on, if_neg (by omega), qup_on, if_pos rfl]
  · rw [qup_off (by omega), qup_on, if_pos rfl, qup_on, if_pos rfl, h.1]
theorem mTail_ok (hb : hBy B n) {S : qSto} {p : Nat} {G : Nat → Int} {o' : Int} {N' : Nat → Int} {ln' : Nat → Int} (hp' : p ≤ n) (h : tok B n p S) (hm : mV B n G o' N' ln' S) (hs : upto isB B n p < n ∧ B (upto isB B n p) = 59) : ∃ S', mTail S = some S' ∧ mV B n (fU G 10 (G 10 + 1)) o' N' ln' S' ∧ tok B n (upto isB B n p + 1) S' ∧ fml S S' := by
  have t9 := tok_9 h
  have h0 := hm.2.2.2.2
  have e7 : S 70 7 = ((upto isB B n p + 1 : Nat) : Int) := by
    rcases h.2 with q | ⟨q1, q2, -, q4⟩ | ⟨q1, q2, -, q4⟩ | ⟨q1, q2, q3, q4, q5⟩
    · omega
    · have := (isL_iff _).mp q2
      omega
    · have := (isD_iff _).mp q2
      omega
    · exact q4
  obtain ⟨S1, u1, u2, u3⟩ := goOn_s hb (show upto isB B n p + 1 ≤ n by omega) hm.1 e7
  obtain ⟨m1, m2, m3, m4, m5⟩ := mV_7 hm u3
  rw [mTail, h0, qk_r (by omega) (by omega), if_pos (by omega), qk_r (by omega) (by omega), if_pos ((tok_semi h).mpr hs), u1]
  simp only [ob_sn]
  have o70 : (qup S1 71 10 (S1 71 10 + 1)) 70 = S1 70 := qup_off (by omega)
  refine ⟨_, rfl, ⟨⟨by rw [o70]; exact m1.1, by rw [qup_off (by omega)]; exact m1.2⟩, fun k => ?_, by rw [o70]; exact m3, fun s => ?_, by rw [o70]; exact m5⟩, ?_, fml_tr (f7_l u3) fml_71⟩
  · rw [qup_on, m2, m2]
    rfl
  · rw [qup_off (by omega)]
    exact m4 s
  · unfold tok
    rw [o70]
    exact u2
/-- the reference's line, once the word is known -/
theorem M_line_e {i : Nat} {S : qSto} (hi : i ≤ n) (h : tok B n i S) (hg : ¬ gD B (upto isB B n i)) : M_line S = Option.bind (if kAt B n i = (-1) then (Option.bind (M_fail 1 (S 70 8) S) (fun q2376 => some q2376)) else (if 6 ≤ kAt B n i then (if kAt B n i = 6 then (Option.bind (M_sectionLine S) (fun q2351 => some q2351)) else (if kAt B n i = 7 then (Option.bind (M_craneLine S) (fun q2333 => some q2333)) else (if kAt B n i = 8 then (Option.bind (M_tideLine S) (fun q2316 => some q2316)) else (if kAt B n i = 9 then (Option.bind (M_gangsLine S) (fun q2290 => some q2290)) else (Option.bind (M_shipLine S) (fun q2273 => some q2273)))))) else (Option.bind (M_plainLine (kAt B n i) S) (fun q2374 => some q2374))) : Option qSto) mTail := by
  have kb := kAt_b B n i
  rw [M_line, key_s hi h hg]
  simp only [ob_sn]
  simp (disch := omega) only [qk_r]
  rfl
/-- no word that begins a line -/
theorem line_no (hb : hBy B n) {i : Nat} (hi : i ≤ n) (hg : ¬ gD B (upto isB B n i)) (hk : kAt B n i = -1) : lBad B n F o N ln i := by
  have h12 := hb.1
  have ub := upto_b (P := isB) (B := B) hi
  refine ⟨1, ((upto isB B n i : Nat) : Int), by omega, by omega, fun S hc h4 => ?_, fun S hm ht => ?_⟩
  · obtain ⟨S1, t1, t2, t3, t4, t5⟩ := rl_head hb hi hc h4
    rw [Reader_readLine, t1]
    simp only [ob_sn]
    rw [t2]
    simp only [ob_sn]
    rw [hk, qk_r (by omega) (by omega), if_pos rfl, refuse_s, h4]
    exact ⟨_, rfl, cF_up, gC_l (gC_up (f4_C t4))⟩
  · rw [M_line_e hi ht hg, hk, if_pos rfl, fail_0 hm.2.2.2.2, ht.1]
    simp only [ob_sn]
    rw [mTail_f (mF_fail (by omega))]
    exact ⟨_, rfl, mF_fail (by omega), gM_l (gM_fail (by omega))⟩
end PLN
