/-! lines with one number -/
section PPL
variable {B : Nat → Int} {n : Nat} {F : Nat → Int} {o : Int} {N : Nat → Int} {ln : Nat → Int}
theorem l84_end {f k i : Nat} {S : qSto} (hf : 0 < f) (hk : k < 11) (hi : i ≤ 100) (h : (qsl 0).getD k 0 ≤ (i : Int)) (hr : 0 ≤ (qsl 0).getD k 0 ∧ (qsl 0).getD k 0 ≤ 9) : Reader_readLine_L84 f (k : Int) (i : Int) S = some (.inl S) := by
  cases f with
  | zero => omega
  | succ f =>
    rw [Reader_readLine_L84, qk_ix (by omega) (by omega), qk_r (by omega) (by omega), Int.toNat_natCast, qk_r (by omega) (by omega), if_pos h]
theorem l84_bad {f k i : Nat} {S S' : qSto} (hf : 0 < f) (hk : k < 11) (hi : i ≤ 100) (h : (i : Int) < (qsl 0).getD k 0) (hr : 0 ≤ (qsl 0).getD k 0 ∧ (qsl 0).getD k 0 ≤ 9) (e : Reader_readNumber (k : Int) (i : Int) S = some (0, S')) : Reader_readLine_L84 f (k : Int) (i : Int) S = some (.inr (0, S')) := by
  cases f with
  | zero => omega
  | succ f =>
    rw [Reader_readLine_L84, qk_ix (by omega) (by omega), qk_r (by omega) (by omega), Int.toNat_natCast, qk_r (by omega) (by omega), if_neg (by omega), e]
    rfl
theorem l84_ok {f k i : Nat} {S S' : qSto} (hf : 0 < f) (hk : k < 11) (hi : i ≤ 100) (h : (i : Int) < (qsl 0).getD k 0) (hr : 0 ≤ (qsl 0).getD k 0 ∧ (qsl 0).getD k 0 ≤ 9) (e : Reader_readNumber (k : Int) (i : Int) S = some (1, S')) : Reader_readLine_L84 f (k : Int) (i : Int) S = Reader_readLine_L84 (f - 1) (k : Int) ((i + 1 : Nat) : Int) S' := by
  cases f with
  | zero => omega
  | succ f =>
    rw [Reader_readLine_L84, qk_ix (by omega) (by omega), qk_r (by omega) (by omega), Int.toNat_natCast, qk_r (by omega) (by omega), if_neg (by omega), e]
    simp only [ob_sn]
    rw [qk_r (by omega) (by omega), if_neg (by omega)]
    rfl
theorem qsl0_b : ∀ k, k < 11 → 1 ≤ (qsl 0).getD k 0 ∧ (qsl 0).getD k 0 ≤ 9 := by decide +kernel
theorem qsl1_b : ∀ k : Nat, k < 11 → ∀ i : Nat, i < 9 → (i : Int) < (qsl 0).getD k 0 → 0 ≤ (qsl 1).getD k 0 ∧ (qsl 1).getD k 0 + (i : Int) < 24 := by decide +kernel
/-- the class reads number i of a line: out of bounds, told already, taken -/
theorem rn_out (hb : hBy B n) {S : qSto} {p k i : Nat} {lo hi : Int} (hpp : hp B n p) (hP : bP S B n) (h4 : S 4 4 = p) (ok : okN B n p) (hk : k < 11) (hi9 : i < 9) (hq : (i : Int) < (qsl 0).getD k 0) (hlo : ∀ S', S' 35 = S 35 → Reader_leastNumber (k : Int) (i : Int) S' = some (lo, S')) (hl : qR lo) (hhi : (qsl 3).getD ((qsl 1).getD k 0 + (i : Int)).toNat 0 = hi) (hh : qR hi) (ho : ¬ (lo ≤ vN B n p ∧ vN B n p ≤ hi)) : ∃ S', Reader_readNumber (k : Int) (i : Int) S = some (0, S') ∧ cF 2 (upto isB B n p) S' ∧ gC S S' := by
  obtain ⟨S2, t1, t2, t3⟩ := rn_go hb hpp hP h4 ok hk hi9 (qsl1_b k hk i hi9 hq) hlo hl hhi hh
  rw [t3]
  by_cases g : vN B n p < lo
  · rw [if_pos g]
    exact ⟨_, rfl, cF_up, gC_up (f4_C t2)⟩
  · rw [if_neg g, if_neg (fun q => ho ⟨by omega, q⟩)]
    exact ⟨_, rfl, cF_up, gC_up (f4_C t2)⟩
theorem rn_in (hb : hBy B n) {S : qSto} {p k i : Nat} {lo hi : Int} (hpp : hp B n p) (hP : bP S B n) (h4 : S 4 4 = p) (ok : okN B n p) (hk : k < 11) (hi9 : i < 9) (hq : (i : Int) < (qsl 0).getD k 0) (hlo : ∀ S', S' 35 = S 35 → Reader_leastNumber (k : Int) (i : Int) S' = some (lo, S')) (hl : qR lo) (hhi : (qsl 3).getD ((qsl 1).getD k 0 + (i : Int)).toNat 0 = hi) (hh : qR hi) (ho : lo ≤ vN B n p ∧ vN B n p ≤ hi) {t : Prop} (ht : ∀ S3, (∀ c, c ≠ 4 → c ≠ 35 → S3 c = S c) → (∀ u, S3 35 u = if u = i then vN B n p else S 35 u) → Heard_isToldAlready_35 (k : Int) (i : Int) S3 = some (cI t 1 0, S3)) : (t → ∃ S', Reader_readNumber (k : Int) (i : Int) S = some (0, S') ∧ cF 3 (upto isB B n p) S' ∧ gC S S') ∧ (¬ t → ∃ S', Reader_readNumber (k : Int) (i : Int) S = some (1, S') ∧ S' 4 4 = ((eD B n p : Nat) : Int) ∧ (∀ u, S' 35 u = if u = i then vN B n p else S 35 u) ∧ gC S S' ∧ ∀ u, u ≠ 4 → S' 4 u = S 4 u) := by
  obtain ⟨S2, t1, t2, t3⟩ := rn_go hb hpp hP h4 ok hk hi9 (qsl1_b k hk i hi9 hq) hlo hl hhi hh
  have o1 : ∀ c, c ≠ 4 → c ≠ 35 → (qup S2 35 i (vN B n p)) c = S c := fun c h1 h2 => by rw [qup_off h2, t2.1 c h1]
  have o2 : ∀ u, (qup S2 35 i (vN B n p)) 35 u = if u = i then vN B n p else S 35 u := fun u => by rw [qup_on, t2.1 35 (by omega)]
  rw [t3, if_neg (by omega), if_pos ho.2, ht _ o1 o2]
  simp only [ob_sn]
  constructor
  · intro q
    rw [cI_t q, qk_r (by omega) (by omega), if_neg (by omega)]
    exact ⟨_, rfl, cF_up, gC_up o1⟩
  · intro q
    rw [cI_f q, qk_r (by omega) (by omega), if_pos rfl]
    exact ⟨_, rfl, by rw [qup_off (by omega), t1], o2, o1, fun u hu => by rw [qup_off (by omega), t2.2 u hu]⟩
/-- what the class does behind the word -/
theorem rl_e (hb : hBy B n) {i k : Nat} (hi : i ≤ n) (hk : kAt B n i = k) (hk10 : k < 10) {S : qSto} (h : cV B n F o N S) (h4 : S 4 4 = ((upto isB B n i : Nat) : Int)) {a b : Int} (ha : a = 0 ∨ a = 1) (hbb : b = 0 ∨ b = 1) (hset : ∀ S1, cV B n F o N S1 → Heard_isSetAlready (k : Int) S1 = some (a, S1)) (hfull : ∀ S1, cV B n F o N S1 → Heard_isFull (k : Int) S1 = some (b, S1)) : ∃ S1, S1 4 4 = ((upto isL B n (upto isB B n i) : Nat) : Int) ∧ f4 S S1 ∧ cV B n F o N S1 ∧ Reader_readLine S = (if a = 0 then (if b = 0 then (Option.bind (Reader_readLine_L84 qF (k : Int) 0 S1) (fun q193 => Sum.elim (fun t195 => Option.bind (Reader_skipBlanks t195) (fun q196 => qk (qRb (q196 4 4)) (qk (qRb (q196 4 3)) (if (q196 4 3) ≤ (q196 4 4) then (Option.bind (Reader_refuse 1 (q196 4 4) q196) (fun q200 => qk (qZb q200.1) (some (q200.1, q200.2)))) else (qk (qIx (q196 4 4) 1200) (qk (qRb (q196 1 (Int.toNat (q196 4 4)))) (if (q196 1 (Int.toNat (q196 4 4))) = 59 then (Option.bind (Heard_take_35 (k : Int) (qup q196 4 4 ((q196 4 4) + 1))) (fun q220 => some (1, q220))) else (Option.bind (Reader_refuse 1 (q196 4 4) q196) (fun q222 => qk (qZb q222.1) (some (q222.1, q222.2))))))))))) (fun w => some w) q193)) else some (0, qup (qup S1 4 5 4) 4 6 ((upto isB B n i : Nat) : Int))) else some (0, qup (qup S1 4 5 3) 4 6 ((upto isB B n i : Nat) : Int))) := by
  obtain ⟨S1, t1, t2, t3, t4, t5⟩ := rl_head hb hi h h4
  refine ⟨S1, t3, t4, t5, ?_⟩
  rw [Reader_readLine, t1]
  simp only [ob_sn]
  rw [t2]
  simp only [ob_sn]
  rw [hk, qk_r (by omega) (by omega), if_neg (by omega), hset S1 t5]
  simp only [ob_sn]
  rw [qk_r (by omega) (by omega), hfull S1 t5]
  simp only [ob_sn]
  rw [qk_r (by omega) (by omega), qk_r (by omega) (by omega), if_neg (show ¬ (k : Int) = 10 by omega), h4]
  rfl
theorem cV_g {S S' : qSto} (h : cV B n F o N S) (g : gC S S') (e : S' 4 3 = S 4 3) : cV B n F o N S' := cV_off h (fun c hc => g c (by omega) (by omega)) e
/-! settings -/
def pLo (k : Nat) : Int := if k = 0 then 50 else if k = 4 then 1 else 0
def pHi (k : Nat) : Int := if k = 0 then 999 else if k = 1 then 50 else if k = 2 then 30 else if k = 3 then 300 else if k = 4 then 99 else 10
theorem six {k : Nat} (h : k < 6) : k = 0 ∨ k = 1 ∨ k = 2 ∨ k = 3 ∨ k = 4 ∨ k = 5 := by omega
theorem low_s {S : qSto} {k : Nat} (hk : k < 6) : M_lowOf (k : Int) S = some (pLo k, S) ∧ M_highOf (k : Int) S = some (pHi k, S) ∧ Reader_leastNumber (k : Int) 0 S = some (pLo k, S) ∧ Heard_isFull (k : Int) S = some (0, S) ∧ Heard_isToldAlready_35 (k : Int) 0 S = some (0, S) := by
  rcases six hk with rfl | rfl | rfl | rfl | rfl | rfl <;> exact ⟨rfl, rfl, rfl, rfl, rfl⟩
theorem pHi_s : ∀ k, k < 6 → (qsl 3).getD ((qsl 1).getD k 0 + ((0 : Nat) : Int)).toNat 0 = pHi k ∧ (qsl 0).getD k 0 = 1 ∧ (0 ≤ pLo k ∧ pHi k ≤ 999 ∧ 0 ≤ pHi k ∧ pLo k ≤ 50) := by decide +kernel
theorem bits6 : ∀ (m : Fin 64) (k : Fin 6), (qb_iand (qb_ishr (m.val : Int) (k.val : Int)) 1 = 0 ∨ qb_iand (qb_ishr (m.val : Int) (k.val : Int)) 1 = 1) ∧ (0 ≤ qb_ior (m.val : Int) (qb_ishl 1 (k.val : Int)) ∧ qb_ior (m.val : Int) (qb_ishl 1 (k.val : Int)) ≤ 63) := by decide +kernel
theorem bits6_s {m : Int} (h0 : 0 ≤ m ∧ m ≤ 63) {k : Nat} (hk : k < 6) : (qb_iand (qb_ishr m (k : Int)) 1 = 0 ∨ qb_iand (qb_ishr m (k : Int)) 1 = 1) ∧ (0 ≤ qb_ior m (qb_ishl 1 (k : Int)) ∧ qb_ior m (qb_ishl 1 (k : Int)) ≤ 63) := by
  have z := bits6 ⟨m.toNat, by omega⟩ ⟨k, hk⟩
  have f : ((m.toNat : Nat) : Int) = m := by omega
  simp only [f] at z
  exact z
theorem set_s {S : qSto} (h : cV B n F o N S) {k : Nat} (hk : k < 6) (ho : 0 ≤ o ∧ o ≤ 63) : Heard_isSetAlready (k : Int) S = some (qb_iand (qb_ishr o (k : Int)) 1, S) := by
  obtain ⟨b1, -⟩ := bits6_s ho hk
  rw [Heard_isSetAlready, qk_r (by omega) (by omega), if_neg (by omega), h.2.2.1, qk_r (by omega) (by omega)]
  rcases b1 with q | q
  · rw [q, if_pos rfl]
  · rw [q, if_neg (by omega)]
theorem set_n {S : qSto} {k : Nat} (hk : 6 ≤ k) (hk2 : k < 11) : Heard_isSetAlready (k : Int) S = some (0, S) := by
  rw [Heard_isSetAlready, qk_r (by omega) (by omega), if_pos (by omega)]
theorem bT_set {k : Nat} {v : Int} (hk : k < 6) (hv : pLo k ≤ v ∧ v ≤ pHi k) (h : bT F) : bT (fU F k v) := by
  obtain ⟨h0, h1, h2, h3, h4, h5, h6, h7, h8, h9, hs, hc, ht, hg, hh⟩ := h
  have off : ∀ j, 6 ≤ j → fU F k v j = F j := fun j hj => fU_off (by omega)
  have rest : ∀ P : Prop, P → P := fun _ h => h
  unfold bT
  rw [off 6 (by omega), off 7 (by omega), off 8 (by omega), off 9 (by omega)]
  have hs' : ∀ k_1 : Nat, (k_1 : Int) < F 6 → (0 ≤ fU F k v (11 + k_1) ∧ fU F k v (11 + k_1) ≤ 999) ∧ (0 ≤ fU F k v (19 + k_1) ∧ fU F k v (19 + k_1) ≤ 300) ∧ ∀ j : Nat, j < k_1 → fU F k v (11 + j) ≠ fU F k v (11 + k_1) := fun u hu => by
    rw [off (11 + u) (by omega), off (19 + u) (by omega)]
    refine ⟨(hs u hu).1, (hs u hu).2.1, fun j hj => ?_⟩
    rw [off (11 + j) (by omega)]
    exact (hs u hu).2.2 j hj
  have hc' : ∀ k_1 : Nat, (k_1 : Int) < F 7 → 0 ≤ fU F k v (27 + k_1) ∧ fU F k v (27 + k_1) ≤ fU F k v (35 + k_1) ∧ fU F k v (35 + k_1) ≤ 999 := fun u hu => by
    rw [off (27 + u) (by omega), off (35 + u) (by omega)]
    exact hc u hu
  have ht' : ∀ k_1 : Nat, (k_1 : Int) < F 8 → (0 ≤ fU F k v (43 + k_1) ∧ fU F k v (43 + k_1) ≤ 335) ∧ (0 ≤ fU F k v (73 + k_1) ∧ fU F k v (73 + k_1) ≤ 99) := fun u hu => by
    rw [off (43 + u) (by omega), off (73 + u) (by omega)]
    exact ht u hu
  have hg' : ∀ k_1 : Nat, k_1 < 21 → -1 ≤ fU F k v (103 + k_1) ∧ fU F k v (103 + k_1) ≤ 9 := fun u hu => by
    rw [off (103 + u) (by omega)]
    exact hg u hu
  refine ⟨?_, ?_, ?_, ?_, ?_, ?_, h6, h7, h8, h9, hs', hc', ht', hg', fun s hs => ?_⟩
  · rcases six hk with rfl | rfl | rfl | rfl | rfl | rfl
    · rw [fU_on]; exact hv
    all_goals (rw [fU_off (by omega)]; exact h0)
  · rcases six hk with rfl | rfl | rfl | rfl | rfl | rfl
    · rw [fU_off (by omega)]; exact h1
    · rw [fU_on]; exact hv
    all_goals (rw [fU_off (by omega)]; exact h1)
  · rcases six hk with rfl | rfl | rfl | rfl | rfl | rfl
    · rw [fU_off (by omega)]; exact h2
    · rw [fU_off (by omega)]; exact h2
    · rw [fU_on]; exact hv
    all_goals (rw [fU_off (by omega)]; exact h2)
  · rcases six hk with rfl | rfl | rfl | rfl | rfl | rfl
    · rw [fU_off (by omega)]; exact h3
    · rw [fU_off (by omega)]; exact h3
    · rw [fU_off (by omega)]; exact h3
    · rw [fU_on]; exact hv
    all_goals (rw [fU_off (by omega)]; exact h3)
  · rcases six hk with rfl | rfl | rfl | rfl | rfl | rfl
    · rw [fU_off (by omega)]; exact h4
    · rw [fU_off (by omega)]; exact h4
    · rw [fU_off (by omega)]; exact h4
    · rw [fU_off (by omega)]; exact h4
    · rw [fU_on]; exact hv
    · rw [fU_off (by omega)]; exact h4
  · rcases six hk with rfl | rfl | rfl | rfl | rfl | rfl
    · rw [fU_off (by omega)]; exact h5
    · rw [fU_off (by omega)]; exact h5
    · rw [fU_off (by omega)]; exact h5
    · rw [fU_off (by omega)]; exact h5
    · rw [fU_off (by omega)]; exact h5
    · rw [fU_on]; exact hv
  · rw [off _ (by omega), off _ (by omega), off _ (by omega), off _ (by omega), off _ (by omega), off _ (by omega), off _ (by omega), off _ (by omega), off _ (by omega)]
    exact hh s hs
theorem bT_eq {G : Nat → Int} (e : ∀ j, j < 250 → j ≠ 10 → G j = F j) (h : bT F) : bT G := by
  obtain ⟨h0, h1, h2, h3, h4, h5, h6, h7, h8, h9, hs, hc, ht, hg, hh⟩ := h
  unfold bT
  rw [e 0 (by omega) (by omega), e 1 (by omega) (by omega), e 2 (by omega) (by omega), e 3 (by omega) (by omega), e 4 (by omega) (by omega), e 5 (by omega) (by omega), e 6 (by omega) (by omega), e 7 (by omega) (by omega), e 8 (by omega) (by omega), e 9 (by omega) (by omega)]
  refine ⟨h0, h1, h2, h3, h4, h5, h6, h7, h8, h9, fun k hk => ?_, fun k hk => ?_, fun k hk => ?_, fun k hk => ?_, fun s hs => ?_⟩
  · rw [e (11 + k) (by omega) (by omega), e (19 + k) (by omega) (by omega)]
    refine ⟨(hs k hk).1, (hs k hk).2.1, fun j hj => ?_⟩
    rw [e (11 + j) (by omega) (by omega)]
    exact (hs k hk).2.2 j hj
  · rw [e (27 + k) (by omega) (by omega), e (35 + k) (by omega) (by omega)]
    exact hc k hk
  · rw [e (43 + k) (by omega) (by omega), e (73 + k) (by omega) (by omega)]
    exact ht k hk
  · rw [e (103 + k) (by omega) (by omega)]
    exact hg k hk
  · rw [e _ (by omega) (by omega), e _ (by omega) (by omega), e _ (by omega) (by omega), e _ (by omega) (by omega), e _ (by omega) (by omega), e _ (by omega) (by omega), e _ (by omega) (by omega), e _ (by omega) (by omega), e _ (by omega) (by omega)]
    exact hh s hs
theorem bT_10 {v : Int} (h : bT F) : bT (fU F 10 v) := bT_eq (fun j _ hj => fU_off hj) h
theorem hS_10 (h : hS F o N ln) (h2 : F 10 ≤ 1999) : hS (fU F 10 (F 10 + 1)) o N ln := by
  obtain ⟨h1, h3, h4, h5⟩ := h
  refine ⟨bT_10 h1, h3, by rw [fU_on]; omega, ?_⟩
  rw [fU_off (by omega)]
  exact h5
theorem cV_10 {S : qSto} {v : Int} (h : cV B n F o N S) : cV B n (fU F 10 v) o N S := by
  obtain ⟨h1, h2, h3, h4⟩ := h
  refine ⟨h1, ?_, h3, h4⟩
  obtain ⟨a0, a1, a2, a3, a4, a5, a6, a7, a8, a9⟩ := h2
  refine ⟨fun i hi => by rw [fU_off (by omega)]; exact a0 i hi, by rw [fU_off (by omega)]; exact a1, by rw [fU_off (by omega)]; exact a2, by rw [fU_off (by omega)]; exact a3, by rw [fU_off (by omega)]; exact a4, fun k hk => ?_, fun k hk => ?_, fun k hk => ?_, fun k hk => ?_, fun s hs w hw => ?_⟩
  · rw [fU_off (by omega)] at hk
    rw [fU_off (by omega), fU_off (by omega)]
    exact a5 k hk
  · rw [fU_off (by omega)] at hk
    rw [fU_off (by omega), fU_off (by omega)]
    exact a6 k hk
  · rw [fU_off (by omega)] at hk
    rw [fU_off (by omega), fU_off (by omega)]
    exact a7 k hk
  · rw [fU_off (by omega)]
    exact a8 k hk
  · rw [fU_off (by omega)] at hs
    rw [fU_off (by omega)]
    exact a9 s hs w hw
/-- the reference: behind the word -/
theorem word_on (hb : hBy B n) {i : Nat} {S : qSto} (hi : i ≤ n) (hk : kAt B n i ≠ -1) (hm : mV B n F o N ln S) (ht : tok B n i S) : ∃ S', M_goOn S = some S' ∧ tok B n (upto isL B n (upto isB B n i)) S' ∧ mV B n F o N ln S' ∧ f7 S S' := by
  obtain ⟨-, -, h3, -⟩ := kAt_w hi hk
  obtain ⟨S', u1, u2, u3⟩ := goOn_s hb h3 hm.1 (tok_w hi ht hk)
  exact ⟨S', u1, u2, mV_7 hm u3, u3⟩
theorem gM_V {S S' : qSto} (h : mV B n F o N ln S) (g : gM S S') (h0 : S' 70 11 = 0) : mV B n F o N ln S' := by
  obtain ⟨h1, h2, h3, h4, h5⟩ := h
  refine ⟨gM_b h1 g, ?_, ?_, ?_, h0⟩
  · rw [g.1 71 (by omega)]
    exact h2
  · rw [g.2.1 14 (by omega)]
    exact h3
  · rw [g.1 73 (by omega)]
    exact h4
theorem line_plain (hb : hBy B n) (hs : hS F o N ln) {i k : Nat} (hi : i ≤ n) (hg : ¬ gD B (upto isB B n i)) (hk6 : k < 6) (hk : kAt B n i = k) : lBad B n F o N ln i ∨ lOk B n F o N ln i := by
  have h12 := hb.1
  have hne : kAt B n i ≠ -1 := by omega
  obtain ⟨kw1, kw2, kw3, kw4⟩ := kAt_w hi hne
  have ub := upto_b (P := isB) (B := B) hi
  obtain ⟨b1, b2⟩ := bits6_s hs.2.1 hk6
  obtain ⟨ph1, ph2, ph3⟩ := pHi_s k hk6
  have qb := qsl0_b k (by omega)
  have eM : ∀ S, tok B n i S → M_line S = Option.bind (Option.bind (M_plainLine (k : Int) S) (fun q2374 => some q2374)) mTail := fun S ht => by
    rw [M_line_e hi ht hg, hk, if_neg (by omega), if_neg (by omega)]
  have hset : ∀ S1, cV B n F o N S1 → Heard_isSetAlready (k : Int) S1 = some (qb_iand (qb_ishr o (k : Int)) 1, S1) := fun S1 h1 => set_s h1 hk6 hs.2.1
  have hfull : ∀ S1, cV B n F o N S1 → Heard_isFull (k : Int) S1 = some (0, S1) := fun S1 _ => (low_s hk6).2.2.2.1
  obtain ⟨p, hpd⟩ : ∃ p, p = upto isL B n (upto isB B n i) := ⟨_, rfl⟩
  rw [← hpd] at kw2 kw3 kw4
  have ab := eD_b (B := B) kw4.1.2
  have abn := eD_b (B := B) ab.2.2
  rcases b1 with g | g
  · -- not set yet
    have mdl : ∀ S, mV B n F o N ln S → tok B n i S → ∃ S1, mV B n F (qb_ior o (qb_ishl 1 (k : Int))) N ln S1 ∧ tok B n p S1 ∧ fml S S1 ∧ M_plainLine (k : Int) S = Option.bind (M_number (pLo k) (pHi k) S1) (fun q2371 => qk (qIx (k : Int) 250) (some (qup q2371.2 71 (Int.toNat (k : Int)) q2371.1))) := fun S hm ht => by
      obtain ⟨m1, m2, m3, m4, m5⟩ := id hm
      have o70 : (qup S 70 14 (qb_ior (S 70 14) (qb_ishl 1 (k : Int)))) 70 11 = 0 := by rw [qup_on, if_neg (by omega)]; exact m5
      have hm1 : mV B n F (qb_ior o (qb_ishl 1 (k : Int))) N ln (qup S 70 14 (qb_ior (S 70 14) (qb_ishl 1 (k : Int)))) := ⟨⟨by rw [qup_on, if_neg (by omega)]; exact m1.1, by rw [qup_off (by omega)]; exact m1.2⟩, by rw [qup_off (by omega)]; exact m2, by rw [qup_on, if_pos rfl, m3], by rw [qup_off (by omega)]; exact m4, o70⟩
      have ht1 : tok B n i (qup S 70 14 (qb_ior (S 70 14) (qb_ishl 1 (k : Int)))) := by
        unfold tok
        rw [qup_on, if_neg (by omega), qup_on, if_neg (by omega), qup_on, if_neg (by omega), qup_on, if_neg (by omega), qup_on, if_neg (by omega)]
        exact ht
      obtain ⟨S1, u1, u2, u3, u4⟩ := word_on hb hi hne hm1 ht1
      rw [← hpd] at u2
      refine ⟨S1, u3, u2, fml_tr fml_14 (f7_l u4), ?_⟩
      rw [M_plainLine, M_has, m3, g, qk_r (by omega) (by omega), if_neg (by omega)]
      simp only [ob_sn]
      rw [qk_r (by omega) (by omega), if_pos trivial]
      simp only [ob_sn]
      rw [o70, qk_r (by omega) (by omega), if_pos rfl, u1]
      simp only [ob_sn]
      rw [(low_s hk6).1]
      simp only [ob_sn]
      rw [(low_s hk6).2.1]
      rfl
    by_cases ok : okN B n p
    · by_cases rg : pLo k ≤ vN B n p ∧ vN B n p ≤ pHi k
      · by_cases sm : upto isB B n (eD B n p) < n ∧ B (upto isB B n (eD B n p)) = 59
        · right
          refine ⟨fU (fU F k (vN B n p)) 10 (fU F k (vN B n p) 10 + 1), qb_ior o (qb_ishl 1 (k : Int)), N, ln, upto isB B n (eD B n p) + 1, fun hF => ?_, ⟨by omega, by omega⟩, by rw [Nat.add_sub_cancel]; exact sm.2, by rw [fU_on, fU_off (by omega)], fun S hc h4 => ?_, fun S hm ht => ?_⟩
          · refine hS_10 ⟨bT_set hk6 rg hs.1, b2, by rw [fU_off (by omega)]; exact hs.2.2.1, by rw [fU_off (by omega)]; exact hs.2.2.2⟩ (by rw [fU_off (by omega)]; exact hF)
          · obtain ⟨S1, t1, t2, t3, t4⟩ := rl_e hb hi hk (by omega) hc h4 (Or.inl g) (Or.inl rfl) hset hfull
            rw [← hpd] at t1
            obtain ⟨-, r2⟩ := rn_in hb (k := k) (i := 0) kw4 t3.1 t1 ok (by omega) (by omega) (by omega) (fun S' _ => (low_s hk6).2.2.1) ⟨by omega, by omega⟩ ph1 ⟨by omega, by omega⟩ rg (t := False) (fun S3 _ _ => by rw [cI_f (fun q => q)]; exact (low_s hk6).2.2.2.2)
            obtain ⟨S2, v1, v2, v3, v4, v5⟩ := r2 (fun q => q)
            have hP2 : bP S2 B n := ⟨by rw [v5 3 (by omega)]; exact t3.1.1, by rw [v4 1 (by omega) (by omega)]; exact t3.1.2⟩
            obtain ⟨S3, w1, w2, w3⟩ := tail_ok hb (k := (k : Int)) hP2 v2 (by omega) sm
            have hc3 : cV B n F o N S3 := cV_4 (cV_g t3 v4 (v5 3 (by omega))) w3
            have l0 := l84_ok (f := qF) (by unfold qF; omega) (show k < 11 by omega) (by omega) (show ((0 : Nat) : Int) < (qsl 0).getD k 0 by omega) (by omega) v1
            have l1 := l84_end (f := qF - 1) (i := 0 + 1) (S := S2) (by unfold qF; omega) (show k < 11 by omega) (by omega) (by omega) (by omega)
            have l0' : Reader_readLine_L84 qF (k : Int) 0 S1 = some (.inl S2) := l0.trans l1
            have x35 : S3 35 0 = vN B n p := by rw [w3.1 35 (by omega), v3, if_pos rfl]
            have tk : Heard_take_35 (k : Int) S3 = some (qup (qup S3 25 k (vN B n p)) 3 1 (qb_ior o (qb_ishl 1 (k : Int)))) := by
              have z : (qup S3 25 k (vN B n p)) 3 1 = o := by rw [qup_off (by omega)]; exact hc3.2.2.1
              rw [Heard_take_35, qk_r (by omega) (by omega), if_neg (by omega), qk_ix (by omega) (by omega), Int.toNat_natCast, x35, z]
            refine ⟨qup (qup S3 25 k (vN B n p)) 3 1 (qb_ior o (qb_ishl 1 (k : Int))), ?_, ?_, ?_, ?_, ?_⟩
            · rw [t4, if_pos g, if_pos rfl, l0']
              simp only [ob_sn, Sum.elim_inl]
              rw [w1, tk]
              rfl
            · apply cV_10
              obtain ⟨c1, c2, c3, c4⟩ := hc3
              obtain ⟨a0, a1, a2, a3, a4, a5, a6, a7, a8, a9⟩ := c2
              have y3 : ∀ u, u ≠ 1 → (qup (qup S3 25 k (vN B n p)) 3 1 (qb_ior o (qb_ishl 1 (k : Int)))) 3 u = S3 3 u := fun u hu => by rw [qup_on, if_neg hu, qup_off (by omega)]
              have yo : ∀ c, c ≠ 3 → c ≠ 25 → (qup (qup S3 25 k (vN B n p)) 3 1 (qb_ior o (qb_ishl 1 (k : Int)))) c = S3 c := fun c h1 h2 => by rw [qup_off h1, qup_off h2]
              refine ⟨⟨by rw [yo 4 (by omega) (by omega)]; exact c1.1, by rw [yo 1 (by omega) (by omega)]; exact c1.2⟩, ⟨fun u hu => ?_, by rw [y3 2 (by omega), fU_off (by omega)]; exact a1, by rw [y3 5 (by omega), fU_off (by omega)]; exact a2, by rw [y3 8 (by omega), fU_off (by omega)]; exact a3, by rw [y3 12 (by omega), fU_off (by omega)]; exact a4, fun u hu => ?_, fun u hu => ?_, fun u hu => ?_, fun u hu => ?_, fun s hs' w hw => ?_⟩, by rw [qup_on, if_pos rfl], fun u => ?_⟩
              · rw [qup_off (by omega), qup_on]
                unfold fU
                split
                · rfl
                · exact a0 u hu
              · rw [fU_off (by omega)] at hu
                rw [yo 26 (by omega) (by omega), yo 27 (by omega) (by omega), fU_off (by omega), fU_off (by omega)]
                exact a5 u hu
              · rw [fU_off (by omega)] at hu
                rw [yo 28 (by omega) (by omega), yo 29 (by omega) (by omega), fU_off (by omega), fU_off (by omega)]
                exact a6 u hu
              · rw [fU_off (by omega)] at hu
                rw [yo 30 (by omega) (by omega), yo 31 (by omega) (by omega), fU_off (by omega), fU_off (by omega)]
                exact a7 u hu
              · rw [yo 32 (by omega) (by omega), fU_off (by omega)]
                exact a8 u hu
              · rw [fU_off (by omega)] at hs'
                rw [yo 33 (by omega) (by omega), fU_off (by omega)]
                exact a9 s hs' w hw
              · rw [yo 34 (by omega) (by omega)]
                exact c4 u
            · rw [qup_off (by omega), qup_off (by omega), w2]
            · rw [qup_off (by omega), qup_off (by omega), w3.2 5 (by omega), w3.2 6 (by omega), v5 5 (by omega), v5 6 (by omega), t2.2 5 (by omega), t2.2 6 (by omega)]
              exact ⟨rfl, rfl⟩
            · refine fcl_tr (f4_l t2) (fcl_tr (gC_l v4) (fcl_tr (f4_l w3) (fun c hc => ?_)))
              rw [qup_off (by omega), qup_off (by omega)]
          · obtain ⟨S1, t1, t2, t3, t4⟩ := mdl S hm ht
            obtain ⟨S2, v1, v2, v3, v4, v5⟩ := number_ok hb (lo := pLo k) (hi := pHi k) t2 kw4 ok t1.2.2.2.2 ⟨by omega, by omega⟩ ⟨by omega, by omega⟩ rg t1.1
            have hm2 := gM_V t1 v5 v3
            have hm3 : mV B n (fU F k (vN B n p)) (qb_ior o (qb_ishl 1 (k : Int))) N ln (qup S2 71 k (vN B n p)) := by
              obtain ⟨m1, m2, m3, m4, m5⟩ := hm2
              refine ⟨⟨by rw [qup_off (by omega)]; exact m1.1, by rw [qup_off (by omega)]; exact m1.2⟩, fun u => ?_, by rw [qup_off (by omega)]; exact m3, fun s => ?_, by rw [qup_off (by omega)]; exact m5⟩
              · rw [qup_on, m2]
                rfl
              · rw [qup_off (by omega)]
                exact m4 s
            have ht3 : tok B n (eD B n p) (qup S2 71 k (vN B n p)) := by
              unfold tok
              rw [qup_off (by omega)]
              exact v2
            obtain ⟨S4, w1, w2, w3, w4⟩ := mTail_ok hb ab.2.2 ht3 hm3 sm
            refine ⟨S4, ?_, w2, w3, fml_tr t3 (fml_tr (gM_l v5) (fml_tr fml_71 w4))⟩
            rw [eM S ht, t4, v1]
            simp only [ob_sn]
            rw [qk_ix (by omega) (by omega), Int.toNat_natCast]
            simp only [ob_sn]
            exact w1
        · left
          refine ⟨1, ((upto isB B n (eD B n p) : Nat) : Int), by omega, by omega, fun S hc h4 => ?_, fun S hm ht => ?_⟩
          · obtain ⟨S1, t1, t2, t3, t4⟩ := rl_e hb hi hk (by omega) hc h4 (Or.inl g) (Or.inl rfl) hset hfull
            rw [← hpd] at t1
            obtain ⟨-, r2⟩ := rn_in hb (k := k) (i := 0) kw4 t3.1 t1 ok (by omega) (by omega) (by omega) (fun S' _ => (low_s hk6).2.2.1) ⟨by omega, by omega⟩ ph1 ⟨by omega, by omega⟩ rg (t := False) (fun S3 _ _ => by rw [cI_f (fun q => q)]; exact (low_s hk6).2.2.2.2)
            obtain ⟨S2, v1, v2, v3, v4, v5⟩ := r2 (fun q => q)
            have hP2 : bP S2 B n := ⟨by rw [v5 3 (by omega)]; exact t3.1.1, by rw [v4 1 (by omega) (by omega)]; exact t3.1.2⟩
            obtain ⟨S3, w1, w2, w3⟩ := tail_bad hb (k := (k : Int)) hP2 v2 (by omega) sm
            have l0 := l84_ok (f := qF) (by unfold qF; omega) (show k < 11 by omega) (by omega) (show ((0 : Nat) : Int) < (qsl 0).getD k 0 by omega) (by omega) v1
            have l1 := l84_end (f := qF - 1) (i := 0 + 1) (S := S2) (by unfold qF; omega) (show k < 11 by omega) (by omega) (by omega) (by omega)
            have l0' : Reader_readLine_L84 qF (k : Int) 0 S1 = some (.inl S2) := l0.trans l1
            refine ⟨S3, ?_, w2, fcl_tr (f4_l t2) (fcl_tr (gC_l v4) (gC_l w3))⟩
            rw [t4, if_pos g, if_pos rfl, l0']
            simp only [ob_sn, Sum.elim_inl]
            exact w1
          · obtain ⟨S1, t1, t2, t3, t4⟩ := mdl S hm ht
            obtain ⟨S2, v1, v2, v3, v4, v5⟩ := number_ok hb (lo := pLo k) (hi := pHi k) t2 kw4 ok t1.2.2.2.2 ⟨by omega, by omega⟩ ⟨by omega, by omega⟩ rg t1.1
            have ht3 : tok B n (eD B n p) (qup S2 71 k (vN B n p)) := by
              unfold tok
              rw [qup_off (by omega)]
              exact v2
            obtain ⟨S4, w1, w2, w3⟩ := mTail_bad ht3 (by rw [qup_off (by omega)]; exact v3) sm
            refine ⟨S4, ?_, w2, fml_tr t3 (fml_tr (gM_l v5) (fml_tr fml_71 w3))⟩
            rw [eM S ht, t4, v1]
            simp only [ob_sn]
            rw [qk_ix (by omega) (by omega), Int.toNat_natCast]
            simp only [ob_sn]
            exact w1
      · left
        refine ⟨2, ((upto isB B n p : Nat) : Int), by omega, by omega, fun S hc h4 => ?_, fun S hm ht => ?_⟩
        · obtain ⟨S1, t1, t2, t3, t4⟩ := rl_e hb hi hk (by omega) hc h4 (Or.inl g) (Or.inl rfl) hset hfull
          rw [← hpd] at t1
          obtain ⟨S2, v1, v2, v3⟩ := rn_out hb (k := k) (i := 0) kw4 t3.1 t1 ok (by omega) (by omega) (by omega) (fun S' _ => (low_s hk6).2.2.1) ⟨by omega, by omega⟩ ph1 ⟨by omega, by omega⟩ rg
          have l0 := l84_bad (f := qF) (by unfold qF; omega) (show k < 11 by omega) (by omega) (show ((0 : Nat) : Int) < (qsl 0).getD k 0 by omega) (by omega) v1
          have l0' : Reader_readLine_L84 qF (k : Int) 0 S1 = some (.inr (0, S2)) := l0
          refine ⟨S2, ?_, v2, fcl_tr (f4_l t2) (gC_l v3)⟩
          rw [t4, if_pos g, if_pos rfl, l0']
          rfl
        · obtain ⟨S1, t1, t2, t3, t4⟩ := mdl S hm ht
          obtain ⟨x, S2, v1, v2, v3⟩ := number_out (lo := pLo k) (hi := pHi k) t2 kw4 ok t1.2.2.2.2 ⟨by omega, by omega⟩ ⟨by omega, by omega⟩ rg
          have vf : mF 2 ((upto isB B n p : Nat) : Int) (qup S2 71 k x) := mF_off v2 (by rw [qup_off (by omega)]) (by rw [qup_off (by omega)])
          refine ⟨qup S2 71 k x, ?_, vf, fml_tr t3 (fml_tr (gM_l v3) fml_71)⟩
          rw [eM S ht, t4, v1]
          simp only [ob_sn]
          rw [qk_ix (by omega) (by omega), Int.toNat_natCast]
          simp only [ob_sn]
          exact mTail_f vf
    · left
      refine ⟨1, ((upto isB B n p : Nat) : Int), by omega, by omega, fun S hc h4 => ?_, fun S hm ht => ?_⟩
      · obtain ⟨S1, t1, t2, t3, t4⟩ := rl_e hb hi hk (by omega) hc h4 (Or.inl g) (Or.inl rfl) hset hfull
        rw [← hpd] at t1
        obtain ⟨S2, v1, v2, v3⟩ := rn_bad hb (k := (k : Int)) (i := ((0 : Nat) : Int)) kw4 t3.1 t1 ok
        have l0 := l84_bad (f := qF) (by unfold qF; omega) (show k < 11 by omega) (by omega) (show ((0 : Nat) : Int) < (qsl 0).getD k 0 by omega) (by omega) v1
        have l0' : Reader_readLine_L84 qF (k : Int) 0 S1 = some (.inr (0, S2)) := l0
        refine ⟨S2, ?_, v2, fcl_tr (f4_l t2) (gC_l v3)⟩
        rw [t4, if_pos g, if_pos rfl, l0']
        rfl
      · obtain ⟨S1, t1, t2, t3, t4⟩ := mdl S hm ht
        obtain ⟨x, S2, v1, v2, v3⟩ := number_bad (lo := pLo k) (hi := pHi k) t2 kw4 ok t1.2.2.2.2
        have vf : mF 1 ((upto isB B n p : Nat) : Int) (qup S2 71 k x) := mF_off v2 (by rw [qup_off (by omega)]) (by rw [qup_off (by omega)])
        refine ⟨qup S2 71 k x, ?_, vf, fml_tr t3 (fml_tr (gM_l v3) fml_71)⟩
        rw [eM S ht, t4, v1]
        simp only [ob_sn]
        rw [qk_ix (by omega) (by omega), Int.toNat_natCast]
        simp only [ob_sn]
        exact mTail_f vf
  · -- told already
    left
    refine ⟨3, ((upto isB B n i : Nat) : Int), by omega, by omega, fun S hc h4 => ?_, fun S hm ht => ?_⟩
    · obtain ⟨S1, t1, t2, t3, t4⟩ := rl_e hb hi hk (by omega) hc h4 (Or.inr g) (Or.inl rfl) hset hfull
      refine ⟨_, ?_, cF_up, fcl_tr (f4_l t2) (gC_l (gC_up gC_rfl))⟩
      rw [t4, if_neg (by omega)]
    · obtain ⟨m1, m2, m3, m4, m5⟩ := id hm
      have vf0 : mF 3 ((upto isB B n i : Nat) : Int) (qup (qup S 70 11 3) 70 12 ((upto isB B n i : Nat) : Int)) := mF_fail (by omega)
      obtain ⟨S2, hS2⟩ : ∃ S2, S2 = qup (qup (qup S 70 11 3) 70 12 ((upto isB B n i : Nat) : Int)) 70 14 (qb_ior ((qup (qup S 70 11 3) 70 12 ((upto isB B n i : Nat) : Int)) 70 14) (qb_ishl 1 (k : Int))) := ⟨_, rfl⟩
      have vf : mF 3 ((upto isB B n i : Nat) : Int) S2 := mF_off vf0 (by rw [hS2, qup_on, if_neg (by omega)]) (by rw [hS2, qup_on, if_neg (by omega)])
      have vf2 : mF 3 ((upto isB B n i : Nat) : Int) (qup S2 71 k (pLo k)) := mF_off vf (by rw [qup_off (by omega)]) (by rw [qup_off (by omega)])
      refine ⟨qup S2 71 k (pLo k), ?_, vf2, ?_⟩
      · rw [eM S ht, M_plainLine, M_has, m3, g, qk_r (by omega) (by omega), if_pos rfl]
        simp only [ob_sn]
        rw [qk_r (by omega) (by omega), if_neg (by omega), fail_0 m5, ht.1]
        simp only [ob_sn]
        rw [← hS2, vf.2.1, qk_r (by omega) (by omega), if_neg (by omega)]
        simp only [ob_sn]
        rw [(low_s hk6).1]
        simp only [ob_sn]
        rw [(low_s hk6).2.1]
        simp only [ob_sn]
        rw [number_f vf]
        simp only [ob_sn]
        rw [qk_ix (by omega) (by omega), Int.toNat_natCast]
        simp only [ob_sn]
        exact mTail_f vf2
      · rw [hS2]
        exact fml_tr (gM_l (gM_fail (by omega))) (fml_tr fml_14 fml_71)
end PPL
