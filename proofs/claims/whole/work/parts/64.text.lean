/-! all lines of a text -/
section PTX
variable {B : Nat → Int} {n : Nat} {F : Nat → Int} {o : Int} {N : Nat → Int} {ln : Nat → Int}
theorem line_any (hb : hBy B n) (hs : hS F o N ln) {i : Nat} (hi : i ≤ n) (hg : ¬ gD B (upto isB B n i)) : lBad B n F o N ln i ∨ lOk B n F o N ln i := by
  have kb := kAt_b B n i
  by_cases g : kAt B n i = -1
  · exact Or.inl (line_no hb hi hg g)
  · obtain ⟨k, hk⟩ : ∃ k : Nat, kAt B n i = k := ⟨(kAt B n i).toNat, by omega⟩
    by_cases g6 : k < 6
    · exact line_plain hb hs hi hg g6 hk
    · have : k = 6 ∨ k = 7 ∨ k = 8 ∨ k = 9 ∨ k = 10 := by omega
      rcases this with q | q | q | q | q
      · exact line_section hb hs hi hg (by rw [hk, q]; rfl)
      · exact line_crane hb hs hi hg (by rw [hk, q]; rfl)
      · exact line_tide hb hs hi hg (by rw [hk, q]; rfl)
      · exact line_gangs hb hs hi hg (by rw [hk, q]; rfl)
      · exact line_ship hb hs hi hg (by rw [hk, q]; rfl)
/-- both read the lines from i on, l of them are read: both fail alike, or both take all -/
def tRes (B : Nat → Int) (n r : Nat) (F : Nat → Int) (o : Int) (N : Nat → Int) (ln : Nat → Int) (i l : Nat) : Prop :=
  (∃ (k q : Int), (1 ≤ k ∧ k ≤ 4) ∧ (0 ≤ q ∧ q ≤ 1200) ∧ (∀ f S, r < f → cV B n F o N S → S 4 4 = (i : Int) → ∃ S', Reader_readText_L39 f (l : Int) (l : Int) S = some (.inr (-1, S')) ∧ cF k q S' ∧ fcl S S') ∧ (∀ f S, r + 1 < f → mV B n F o N ln S → tok B n i S → ∃ S', M_text_L48 f S = some S' ∧ mF k q S' ∧ fml S S')) ∨
  (∃ (F' : Nat → Int) (o' : Int) (N' : Nat → Int) (ln' : Nat → Int), hS F' o' N' ln' ∧ F' 10 ≤ 1200 ∧ (∀ f S, r < f → cV B n F o N S → S 4 4 = (i : Int) → ∃ S', Reader_readText_L39 f (l : Int) (l : Int) S = some (.inl (F' 10, S')) ∧ cV B n F' o' N' S' ∧ (S' 4 5 = S 4 5 ∧ S' 4 6 = S 4 6) ∧ fcl S S') ∧ (∀ f S, r + 1 < f → mV B n F o N ln S → tok B n i S → ∃ S', M_text_L48 f S = some S' ∧ mV B n F' o' N' ln' S' ∧ fml S S'))
theorem L48_f {f : Nat} {S : qSto} {k q : Int} (hf : 0 < f) (h : mF k q S) : M_text_L48 f S = some S := by
  have := h.1
  cases f with
  | zero => omega
  | succ f => rw [M_text_L48, h.2.1, qk_r (by omega) (by omega), if_neg (by omega)]
theorem text_L (hb : hBy B n) : ∀ (r : Nat) (F : Nat → Int) (o : Int) (N : Nat → Int) (ln : Nat → Int) (i l : Nat), n - i ≤ r → i ≤ n → hS F o N ln → F 10 = l → l ≤ i → (i = 0 ∨ B (i - 1) = 59) → tRes B n r F o N ln i l := by
  intro r
  induction r with
  | zero =>
    intro F o N ln i l hr hi hs hl hli hst
    have h12 := hb.1
    have ei : i = n := by omega
    have ub := upto_b (P := isB) (B := B) hi
    refine Or.inr ⟨F, o, N, ln, hs, by omega, fun f S hf hc h4 => ?_, fun f S hf hm ht => ?_⟩
    · obtain ⟨S1, t1, t2, t3⟩ := skip_s hb hi hc.1 h4
      have e3 := hc.1.1
      have e31 := (f4_b hc.1 t3).1
      refine ⟨S1, ?_, cV_4 hc t3, ⟨t3.2 5 (by omega), t3.2 6 (by omega)⟩, f4_l t3⟩
      cases f with
      | zero => omega
      | succ f =>
        rw [Reader_readText_L39, qk_r (by omega) (by omega), e3, qk_r (by omega) (by omega), if_neg (by omega), t1]
        simp only [ob_sn]
        rw [t2, e31, qk_r (by omega) (by omega), qk_r (by omega) (by omega), if_neg (by omega), hl]
    · refine ⟨S, ?_, hm, fml_rfl⟩
      have e9 : S 70 9 = 4 := by
        rcases ht.2 with q | q | q | q
        · exact q.2.1
        · omega
        · omega
        · omega
      cases f with
      | zero => omega
      | succ f => rw [M_text_L48, hm.2.2.2.2, qk_r (by omega) (by omega), if_pos rfl, e9, qk_r (by omega) (by omega), if_pos rfl]
  | succ r ih =>
    intro F o N ln i l hr hi hs hl hli hst
    have h12 := hb.1
    have ub := upto_b (P := isB) (B := B) hi
    by_cases ge : upto isB B n i < n
    · have hg : ¬ gD B (upto isB B n i) := fun q => by
        by_cases w : upto isB B n i = i
        · rw [w] at q
          have b := (isD_iff _).mp q.2
          rcases hst with z | z
          · have := q.1
            omega
          · omega
        · have a := (isB_iff _).mp (gap_B (B := B) hi (by omega))
          have b := (isD_iff _).mp q.2
          omega
      have e9 : ∀ S, tok B n i S → S 70 9 ≠ 4 := fun S ht => by
        rcases ht.2 with q | ⟨-, -, -, q⟩ | ⟨-, -, -, q⟩ | ⟨-, -, -, -, q⟩
        · omega
        · rcases q with q | q <;> omega
        · rcases q with q | q <;> omega
        · rw [q]
          split <;> omega
      have cstep : ∀ f S, cV B n F o N S → S 4 4 = (i : Int) → ∃ S1, cV B n F o N S1 ∧ S1 4 4 = ((upto isB B n i : Nat) : Int) ∧ f4 S S1 ∧ Reader_readText_L39 (f + 1) (l : Int) (l : Int) S = Option.bind (Reader_readLine S1) (fun q306 => qk (qRb q306.1) (if q306.1 = 0 then some (Sum.inr ((-1), q306.2)) else Reader_readText_L39 f ((l : Int) + 1) ((l : Int) + 1) q306.2)) := fun f S hc h4 => by
        obtain ⟨S1, t1, t2, t3⟩ := skip_s hb hi hc.1 h4
        have e3 := hc.1.1
        have e31 := (f4_b hc.1 t3).1
        refine ⟨S1, cV_4 hc t3, t2, t3, ?_⟩
        rw [Reader_readText_L39, qk_r (by omega) (by omega), e3, qk_r (by omega) (by omega), if_neg (by omega), t1]
        simp only [ob_sn]
        rw [t2, e31, qk_r (by omega) (by omega), qk_r (by omega) (by omega), if_pos (by omega)]
      have mstep : ∀ f S, mV B n F o N ln S → tok B n i S → M_text_L48 (f + 1) S = Option.bind (M_line S) (fun q2386 => M_text_L48 f q2386) := fun f S hm ht => by
        have t9 := tok_9 ht
        rw [M_text_L48, hm.2.2.2.2, qk_r (by omega) (by omega), if_pos rfl, qk_r (by omega) (by omega), if_neg (e9 S ht)]
      rcases line_any hb hs hi hg with ⟨k, q, h1, h2, h3, h4⟩ | ⟨F', o', N', ln', i', h1, h2, h3, h4, h5, h6⟩
      · refine Or.inl ⟨k, q, h1, h2, fun f S hf hc h4' => ?_, fun f S hf hm ht => ?_⟩
        · cases f with
          | zero => omega
          | succ f =>
            obtain ⟨S1, t1, t2, t3, t4⟩ := cstep f S hc h4'
            obtain ⟨S', u1, u2, u3⟩ := h3 S1 t1 t2
            refine ⟨S', ?_, u2, fcl_tr (f4_l t3) u3⟩
            rw [t4, u1]
            rfl
        · cases f with
          | zero => omega
          | succ f =>
            obtain ⟨S', u1, u2, u3⟩ := h4 S hm ht
            refine ⟨S', ?_, u2, u3⟩
            rw [mstep f S hm ht, u1]
            simp only [ob_sn]
            exact L48_f (by omega) u2
      · have e10 : F' 10 = ((l + 1 : Nat) : Int) := by omega
        have el : ((l : Int) + 1) = ((l + 1 : Nat) : Int) := by omega
        have ihh := ih F' o' N' ln' i' (l + 1) (by omega) h2.2 (h1 (by omega)) e10 (by omega) (Or.inr h3)
        have cn : ∀ f S, cV B n F o N S → S 4 4 = (i : Int) → ∃ S1, cV B n F' o' N' S1 ∧ S1 4 4 = (i' : Int) ∧ (S1 4 5 = S 4 5 ∧ S1 4 6 = S 4 6) ∧ fcl S S1 ∧ Reader_readText_L39 (f + 1) (l : Int) (l : Int) S = Reader_readText_L39 f ((l + 1 : Nat) : Int) ((l + 1 : Nat) : Int) S1 := fun f S hc h4' => by
          obtain ⟨S1, t1, t2, t3, t4⟩ := cstep f S hc h4'
          obtain ⟨S', u1, u2, u3, ⟨u4, u4'⟩, u5⟩ := h5 S1 t1 t2
          refine ⟨S', u2, u3, ⟨u4.trans (t3.2 5 (by omega)), u4'.trans (t3.2 6 (by omega))⟩, fcl_tr (f4_l t3) u5, ?_⟩
          rw [t4, u1]
          simp only [ob_sn]
          rw [qk_r (by omega) (by omega), if_neg (by omega), el]
        have mn : ∀ f S, mV B n F o N ln S → tok B n i S → ∃ S1, mV B n F' o' N' ln' S1 ∧ tok B n i' S1 ∧ fml S S1 ∧ M_text_L48 (f + 1) S = M_text_L48 f S1 := fun f S hm ht => by
          obtain ⟨S', u1, u2, u3, u4⟩ := h6 S hm ht
          refine ⟨S', u2, u3, u4, ?_⟩
          rw [mstep f S hm ht, u1]
          rfl
        rcases ihh with ⟨k, q, g1, g2, g3, g4⟩ | ⟨F2, o2, N2, ln2, g1, g2, g3, g4⟩
        · refine Or.inl ⟨k, q, g1, g2, fun f S hf hc h4' => ?_, fun f S hf hm ht => ?_⟩
          · cases f with
            | zero => omega
            | succ f =>
              obtain ⟨S1, t1, t2, t3, t4, t5⟩ := cn f S hc h4'
              obtain ⟨S', u1, u2, u3⟩ := g3 f S1 (by omega) t1 t2
              exact ⟨S', by rw [t5, u1], u2, fcl_tr t4 u3⟩
          · cases f with
            | zero => omega
            | succ f =>
              obtain ⟨S1, t1, t2, t3, t4⟩ := mn f S hm ht
              obtain ⟨S', u1, u2, u3⟩ := g4 f S1 (by omega) t1 t2
              exact ⟨S', by rw [t4, u1], u2, fml_tr t3 u3⟩
        · refine Or.inr ⟨F2, o2, N2, ln2, g1, g2, fun f S hf hc h4' => ?_, fun f S hf hm ht => ?_⟩
          · cases f with
            | zero => omega
            | succ f =>
              obtain ⟨S1, t1, t2, t3, t4, t5⟩ := cn f S hc h4'
              obtain ⟨S', u1, u2, u3, u4⟩ := g3 f S1 (by omega) t1 t2
              exact ⟨S', by rw [t5, u1], u2, ⟨u3.1.trans t3.1, u3.2.trans t3.2⟩, fcl_tr t4 u4⟩
          · cases f with
            | zero => omega
            | succ f =>
              obtain ⟨S1, t1, t2, t3, t4⟩ := mn f S hm ht
              obtain ⟨S', u1, u2, u3⟩ := g4 f S1 (by omega) t1 t2
              exact ⟨S', by rw [t4, u1], u2, fml_tr t3 u3⟩
    · refine Or.inr ⟨F, o, N, ln, hs, by omega, fun f S hf hc h4 => ?_, fun f S hf hm ht => ?_⟩
      · obtain ⟨S1, t1, t2, t3⟩ := skip_s hb hi hc.1 h4
        have e3 := hc.1.1
        have e31 := (f4_b hc.1 t3).1
        refine ⟨S1, ?_, cV_4 hc t3, ⟨t3.2 5 (by omega), t3.2 6 (by omega)⟩, f4_l t3⟩
        cases f with
        | zero => omega
        | succ f =>
          rw [Reader_readText_L39, qk_r (by omega) (by omega), e3, qk_r (by omega) (by omega), if_neg (by omega), t1]
          simp only [ob_sn]
          rw [t2, e31, qk_r (by omega) (by omega), qk_r (by omega) (by omega), if_neg (by omega), hl]
      · refine ⟨S, ?_, hm, fml_rfl⟩
        have e9 : S 70 9 = 4 := by
          rcases ht.2 with q | q | q | q
          · exact q.2.1
          · omega
          · omega
          · omega
        cases f with
        | zero => omega
        | succ f => rw [M_text_L48, hm.2.2.2.2, qk_r (by omega) (by omega), if_pos rfl, e9, qk_r (by omega) (by omega), if_pos rfl]
/-! nothing is heard yet -/
def tN0 : Nat → Int := fun x => if x = 0 then 300 else if x = 3 then 100 else if x = 4 then 12 else if 103 ≤ x ∧ x < 124 then -1 else 0
theorem tN0_z {x : Nat} (h0 : x ≠ 0) (h3 : x ≠ 3) (h4 : x ≠ 4) (h : ¬ (103 ≤ x ∧ x < 124)) : tN0 x = 0 := by
  unfold tN0
  rw [if_neg h0, if_neg h3, if_neg h4, if_neg h]
theorem tN0_g {k : Nat} (h : k < 21) : tN0 (103 + k) = -1 := by
  unfold tN0
  rw [if_neg (by omega), if_neg (by omega), if_neg (by omega), if_pos (by omega)]
theorem hS_0 (N ln : Nat → Int) : hS tN0 0 N ln := by
  have z6 : tN0 6 = 0 := rfl
  have z7 : tN0 7 = 0 := rfl
  have z8 : tN0 8 = 0 := rfl
  have z9 : tN0 9 = 0 := rfl
  have z10 : tN0 10 = 0 := rfl
  refine ⟨?_, by omega, by omega, fun s h => by omega⟩
  unfold bT
  rw [z6, z7, z8, z9]
  refine ⟨by decide, by decide, by decide, by decide, by decide, by decide, by omega, by omega, by omega, by omega, fun k h => by omega, fun k h => by omega, fun k h => by omega, fun k h => ?_, fun k h => by omega⟩
  rw [tN0_g h]
  omega
theorem fill32_L {v : Int} : ∀ (r f i : Nat) (S : qSto), i + r = 21 → r < f → ∃ S', Ja_fill_32_L5 f v (i : Int) S = some S' ∧ (∀ c, c ≠ 32 → S' c = S c) ∧ ∀ u, S' 32 u = if i ≤ u ∧ u < 21 then v else S 32 u
  | 0, f + 1, i, S, e, _ => by
    rw [Ja_fill_32_L5, qk_r (by omega) (by omega), if_pos (by omega)]
    exact ⟨S, rfl, fun _ _ => rfl, fun u => by rw [if_neg (by omega)]⟩
  | r + 1, f + 1, i, S, e, hf => by
    rw [Ja_fill_32_L5, qk_r (by omega) (by omega), if_neg (by omega), qk_ix (by omega) (by omega), Int.toNat_natCast]
    obtain ⟨S', t1, t2, t3⟩ := fill32_L (v := v) r f (i + 1) (qup S 32 i v) (by omega) (by omega)
    refine ⟨S', t1, fun c hc => (t2 c hc).trans (qup_off hc), fun u => ?_⟩
    rw [t3, qup_on]
    by_cases g : u = i
    · rw [if_neg (by omega), if_pos g, if_pos (by omega)]
    · by_cases w : i + 1 ≤ u ∧ u < 21
      · rw [if_pos w, if_pos (by omega)]
      · rw [if_neg w, if_neg g, if_neg (by omega)]
theorem forget_s {S : qSto} : ∃ S', Heard_forget S = some S' ∧ rQ S' tN0 ∧ S' 3 1 = 0 ∧ ∀ c, c ≠ 3 → c ≠ 25 → c ≠ 32 → S' c = S c := by
  obtain ⟨S1, hS1⟩ : ∃ S1, S1 = qup (qup (qup (qup (qua S 25 (qcpt S 4 25 0 0 6)) 3 1 0) 3 2 0) 3 5 0) 3 8 0 := ⟨_, rfl⟩
  obtain ⟨S2, t1, t2, t3⟩ := fill32_L (v := -1) 21 qF 0 S1 (by omega) (by unfold qF; omega)
  have t1' : Ja_fill_32_L5 qF (-1) 0 S1 = some S2 := t1
  have o1 : ∀ c, c ≠ 3 → c ≠ 25 → S1 c = S c := fun c h1 h2 => by rw [hS1, qup_off h1, qup_off h1, qup_off h1, qup_off h1, qua_off c h2]
  have o25 : ∀ u, u < 6 → S1 25 u = tN0 u := fun u hu => by
    rw [hS1, qup_off (by omega), qup_off (by omega), qup_off (by omega), qup_off (by omega), qua_on]
    show (if 0 ≤ u ∧ u < 0 + 6 then (qsl 4).getD (0 + (u - 0)) 0 else S 25 u) = _
    rw [if_pos (by omega)]
    rcases six hu with rfl | rfl | rfl | rfl | rfl | rfl <;> rfl
  have o3 : S1 3 1 = 0 ∧ S1 3 2 = 0 ∧ S1 3 5 = 0 ∧ S1 3 8 = 0 := by
    rw [hS1]
    exact ⟨rfl, rfl, rfl, rfl⟩
  refine ⟨qup S2 3 12 0, ?_, ⟨fun i hi => ?_, ?_, ?_, ?_, ?_, fun k h => ?_, fun k h => ?_, fun k h => ?_, fun k h => ?_, fun s h => ?_⟩, ?_, fun c h1 h2 h3 => ?_⟩
  · rw [Heard_forget, Ja_fill_32, ← hS1, t1']
    rfl
  · rw [qup_off (by omega), t2 25 (by omega)]
    exact o25 i hi
  · rw [qup_on, if_neg (by omega), t2 3 (by omega), o3.2.1]
    rfl
  · rw [qup_on, if_neg (by omega), t2 3 (by omega), o3.2.2.1]
    rfl
  · rw [qup_on, if_neg (by omega), t2 3 (by omega), o3.2.2.2]
    rfl
  · rw [qup_on, if_pos rfl]
    rfl
  · have z : tN0 6 = 0 := rfl
    omega
  · have z : tN0 7 = 0 := rfl
    omega
  · have z : tN0 8 = 0 := rfl
    omega
  · rw [qup_off (by omega), t3, if_pos (by omega), tN0_g h]
  · have z : tN0 9 = 0 := rfl
    omega
  · rw [qup_on, if_neg (by omega), t2 3 (by omega), o3.1]
  · rw [qup_off h1, t2 c h3, o1 c h1 h2]
theorem blank2_L : ∀ (r f i : Nat) (S : qSto), i + r = 250 → r < f → ∃ S', M_blank_L2 f (i : Int) S = some S' ∧ (∀ c, c ≠ 71 → S' c = S c) ∧ ∀ u, S' 71 u = if i ≤ u ∧ u < 250 then 0 else S 71 u
  | 0, f + 1, i, S, e, _ => by
    rw [M_blank_L2, qk_r (by omega) (by omega), if_pos (by omega)]
    exact ⟨S, rfl, fun _ _ => rfl, fun u => by rw [if_neg (by omega)]⟩
  | r + 1, f + 1, i, S, e, hf => by
    rw [M_blank_L2, qk_r (by omega) (by omega), if_neg (by omega), qk_ix (by omega) (by omega), Int.toNat_natCast]
    obtain ⟨S', t1, t2, t3⟩ := blank2_L r f (i + 1) (qup S 71 i 0) (by omega) (by omega)
    refine ⟨S', t1, fun c hc => (t2 c hc).trans (qup_off hc), fun u => ?_⟩
    rw [t3, qup_on]
    by_cases g : u = i
    · rw [if_neg (by omega), if_pos g, if_pos (by omega)]
    · by_cases w : i + 1 ≤ u ∧ u < 250
      · rw [if_pos w, if_pos (by omega)]
      · rw [if_neg w, if_neg g, if_neg (by omega)]
theorem blank24_L : ∀ (r f i : Nat) (S : qSto), i + r = 21 → r < f → ∃ S', M_blank_L24 f (i : Int) S = some S' ∧ (∀ c, c ≠ 71 → S' c = S c) ∧ ∀ u, S' 71 u = if 103 + i ≤ u ∧ u < 124 then -1 else S 71 u
  | 0, f + 1, i, S, e, _ => by
    rw [M_blank_L24, qk_r (by omega) (by omega), if_pos (by omega)]
    exact ⟨S, rfl, fun _ _ => rfl, fun u => by rw [if_neg (by omega)]⟩
  | r + 1, f + 1, i, S, e, hf => by
    have ix : ((103 : Int) + (i : Int)).toNat = 103 + i := by omega
    rw [M_blank_L24, qk_r (by omega) (by omega), if_neg (by omega), qk_ix (by omega) (by omega), ix]
    obtain ⟨S', t1, t2, t3⟩ := blank24_L r f (i + 1) (qup S 71 (103 + i) (-1)) (by omega) (by omega)
    refine ⟨S', t1, fun c hc => (t2 c hc).trans (qup_off hc), fun u => ?_⟩
    rw [t3, qup_on]
    by_cases g : u = 103 + i
    · rw [if_neg (by omega), if_pos g, if_pos (by omega)]
    · by_cases w : 103 + (i + 1) ≤ u ∧ u < 124
      · rw [if_pos w, if_pos (by omega)]
      · rw [if_neg w, if_neg g, if_neg (by omega)]
/-- as tN0, but behind the table's end as it was -/
theorem blank_s {S : qSto} : ∃ S', M_blank S = some S' ∧ (∀ u, S' 71 u = if u < 250 then tN0 u else S 71 u) ∧ S' 70 14 = 0 ∧ (∀ c, c ≠ 70 → c ≠ 71 → S' c = S c) ∧ ∀ u, u ≠ 14 → S' 70 u = S 70 u := by
  obtain ⟨S1, t1, t2, t3⟩ := blank2_L 250 qF 0 S (by omega) (by unfold qF; omega)
  obtain ⟨S2, u1, u2, u3⟩ := blank24_L 21 qF 0 S1 (by omega) (by unfold qF; omega)
  have t1' : M_blank_L2 qF 0 S = some S1 := t1
  have u1' : M_blank_L24 qF 0 S1 = some S2 := u1
  refine ⟨qup (qup (qup (qup S2 71 0 300) 71 3 100) 71 4 12) 70 14 0, ?_, fun u => ?_, ?_, fun c h1 h2 => ?_, fun u hu => ?_⟩
  · rw [M_blank, t1']
    simp only [ob_sn]
    rw [u1']
    rfl
  · rw [qup_off (by omega), qup_on, qup_on, qup_on, u3, t3]
    unfold tN0
    by_cases g4 : u = 4
    · rw [if_pos g4, if_pos (by omega), if_neg (by omega), if_neg (by omega), if_pos g4]
    · rw [if_neg g4]
      by_cases g3 : u = 3
      · rw [if_pos g3, if_pos (by omega), if_neg (by omega), if_pos g3]
      · rw [if_neg g3]
        by_cases g0 : u = 0
        · rw [if_pos g0, if_pos (by omega), if_pos g0]
        · rw [if_neg g0]
          by_cases w : 103 ≤ u ∧ u < 124
          · rw [if_pos (by omega), if_pos (by omega), if_neg g0, if_neg g3, if_neg g4, if_pos w]
          · rw [if_neg (by omega)]
            by_cases w2 : u < 250
            · rw [if_pos (by omega), if_pos w2, if_neg g0, if_neg g3, if_neg g4, if_neg w]
            · rw [if_neg (by omega), if_neg w2]
  · rw [qup_on, if_pos rfl]
  · rw [qup_off h1, qup_off h2, qup_off h2, qup_off h2, u2 c h2, t2 c h2]
  · rw [qup_on, if_neg hu, qup_off (by omega), qup_off (by omega), qup_off (by omega), u2 70 (by omega), t2 70 (by omega)]
end PTX
