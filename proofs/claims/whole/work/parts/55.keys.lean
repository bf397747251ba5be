/-! which word begins a line: the class by letters, the reference by a number -/
noncomputable def kdF (Q : Nat → Prop) : Nat → Nat → Int
  | 0, _ => -1
  | r + 1, i => cI (Q i) (i : Int) (kdF Q r (i + 1))
theorem kdF_cong {Q Q' : Nat → Prop} : ∀ (r i : Nat), (∀ k, i ≤ k → k < i + r → (Q k ↔ Q' k)) → kdF Q r i = kdF Q' r i
  | 0, _, _ => rfl
  | r + 1, i, h => by
    have e : Q i = Q' i := propext (h i (by omega) (by omega))
    rw [kdF, kdF, e, kdF_cong r (i + 1) (fun k a b => h k (by omega) (by omega))]
theorem kdF_rng {Q : Nat → Prop} : ∀ (r i : Nat), (kdF Q r i = -1 ∧ ∀ k, i ≤ k → k < i + r → ¬ Q k) ∨ ∃ k : Nat, kdF Q r i = k ∧ i ≤ k ∧ k < i + r ∧ Q k
  | 0, i => Or.inl ⟨rfl, fun k a b => by omega⟩
  | r + 1, i => by
    rw [kdF]
    by_cases g : Q i
    · rw [cI_t g]
      exact Or.inr ⟨i, rfl, by omega, by omega, g⟩
    · rw [cI_f g]
      rcases kdF_rng (Q := Q) r (i + 1) with ⟨e, h⟩ | ⟨k, e, h1, h2, h3⟩
      · refine Or.inl ⟨e, fun k a b => ?_⟩
        by_cases w : k = i
        · rw [w]
          exact g
        · exact h k (by omega) (by omega)
      · exact Or.inr ⟨k, e, by omega, by omega, h3⟩
/-- the letters of word k -/
def wLet (k i : Nat) : Int := (qsch.getD k []).getD i 0
def wLen (k : Nat) : Nat := qslen.getD k 0
def wK (k : Nat) : Int := nmW (wLet k) (wLen k)
theorem wLet_ok : ∀ k, k < 11 → ∀ i, i < wLen k → 97 ≤ wLet k i ∧ wLet k i ≤ 122 := by decide +kernel
theorem wLen_ok : ∀ k, k < 11 → 3 ≤ wLen k ∧ wLen k ≤ 7 := by decide +kernel
def isK (B : Nat → Int) (b m k : Nat) : Prop := wLen k = m ∧ ∀ i, i < m → wLet k i = B (b + i)
theorem nmW_inj {f g : Nat → Int} : ∀ (m m' : Nat), (∀ i, i < m → 97 ≤ f i ∧ f i ≤ 122) → (∀ i, i < m' → 97 ≤ g i ∧ g i ≤ 122) → nmW f m = nmW g m' → m = m' ∧ ∀ i, i < m → f i = g i
  | 0, 0, _, _, _ => ⟨rfl, fun i hi => by omega⟩
  | 0, m' + 1, _, hg, e => by
    have a := nmW_b (n := m') (fun i hi => hg i (by omega))
    have b := hg m' (by omega)
    rw [nmW, nmW] at e
    omega
  | m + 1, 0, hf, _, e => by
    have a := nmW_b (n := m) (fun i hi => hf i (by omega))
    have b := hf m (by omega)
    rw [nmW, nmW] at e
    omega
  | m + 1, m' + 1, hf, hg, e => by
    have a := nmW_b (n := m) (fun i hi => hf i (by omega))
    have b := hf m (by omega)
    have a' := nmW_b (n := m') (fun i hi => hg i (by omega))
    have b' := hg m' (by omega)
    rw [nmW, nmW] at e
    obtain ⟨h1, h2⟩ := nmW_inj m m' (fun i hi => hf i (by omega)) (fun i hi => hg i (by omega)) (by omega)
    subst h1
    refine ⟨rfl, fun i hi => ?_⟩
    by_cases w : i = m
    · rw [w]
      omega
    · exact h2 i (by omega)
theorem nmW_cong {f g : Nat → Int} : ∀ m : Nat, (∀ i, i < m → f i = g i) → nmW f m = nmW g m
  | 0, _ => rfl
  | m + 1, h => by rw [nmW, nmW, nmW_cong m (fun i hi => h i (by omega)), h m (by omega)]
theorem isK_W {B : Nat → Int} {b m k : Nat} (hk : k < 11) (hl : ∀ i, i < m → 97 ≤ B (b + i) ∧ B (b + i) ≤ 122) : nmW (fun u => B (b + u)) m = wK k ↔ isK B b m k := by
  constructor
  · intro e
    obtain ⟨h1, h2⟩ := nmW_inj m (wLen k) hl (wLet_ok k hk) e
    exact ⟨h1.symm, fun i hi => (h2 i hi).symm⟩
  · rintro ⟨h1, h2⟩
    unfold wK
    rw [h1]
    exact nmW_cong m (fun i hi => (h2 i hi).symm)
section PKY
variable {B : Nat → Int} {n : Nat}
theorem isWord_L (hb : hBy B n) {S : qSto} (h : bP S B n) {k b m : Nat} (hk : k < 11) (hm : wLen k = m) (hn : b + m ≤ n) : ∀ (r f i : Nat), i + r = m → r < f → (∀ u, u < i → wLet k u = B (b + u)) → Reader_isWord_x_L13 f (200 + k) (b : Int) (m : Int) (i : Int) S = some (cI (isK B b m k) (.inl S) (.inr (0, S)))
  | 0, f + 1, i, e, _, hu => by
    have h12 := hb.1
    have wl := wLen_ok k hk
    rw [Reader_isWord_x_L13, qk_r (by omega) (by omega), qk_r (by omega) (by omega), if_pos (by omega), cI_t ⟨hm, fun u hu' => hu u (by omega)⟩]
  | r + 1, f + 1, i, e, hr, hu => by
    have h12 := hb.1
    have wl := wLen_ok k hk
    have bi := hb.2 (b + i) (by omega)
    have sg := sgn bi
    have lt := wLet_ok k hk i (by omega)
    have s1 := h.2 (b + i) (by omega)
    have br := bmod_b (x := B (b + i))
    have e1 : ((b : Int) + (i : Int)).toNat = b + i := by omega
    have ec : Js_charAt (200 + k) (i : Int) S = some (wLet k i, S) := by
      have e2 : 200 + k - 200 = k := by omega
      have wl2 : qslen.getD k 0 = m := hm
      rw [Js_charAt, e2, wl2, Int.toNat_natCast, qk_of (decide_eq_true ⟨by omega, by omega⟩)]
      rfl
    rw [Reader_isWord_x_L13, qk_r (by omega) (by omega), qk_r (by omega) (by omega), if_neg (by omega), qk_of (qStr_of (by omega) (by omega)), ec]
    simp only [ob_sn]
    rw [qk_ix (by omega) (by omega), qk_r (by omega) (by omega), e1, s1, qk_r (by omega) (by omega)]
    by_cases g : wLet k i = B (b + i)
    · rw [if_pos (by rw [sg, if_pos (by omega)]; exact g)]
      exact isWord_L hb h hk hm hn r f (i + 1) (by omega) (by omega) (fun u hu' => by
        by_cases w : u = i
        · rw [w]
          exact g
        · exact hu u (by omega))
    · rw [if_neg (by rw [sg]; split <;> omega), cI_f (fun q => g (q.2 i (by omega)))]
theorem isWord_s (hb : hBy B n) {S : qSto} (h : bP S B n) {k b m : Nat} (hk : k < 11) (hn : b + m ≤ n) : Reader_isWord_x (200 + k) (b : Int) (m : Int) S = some (cI (isK B b m k) 1 0, S) := by
  have h12 := hb.1
  have wl := wLen_ok k hk
  have el : Js_length (200 + k) S = some (((wLen k : Nat) : Int), S) := by
    have e2 : 200 + k - 200 = k := by omega
    rw [Js_length, e2]
    rfl
  rw [Reader_isWord_x, qk_of (qStr_of (by omega) (by omega)), el]
  simp only [ob_sn]
  rw [qk_r (by omega) (by omega), qk_r (by omega) (by omega)]
  by_cases g : wLen k = m
  · have w := isWord_L hb h hk g hn m qF 0 (by omega) (by unfold qF; omega) (fun u hu => by omega)
    have w' : Reader_isWord_x_L13 qF (200 + k) (b : Int) (m : Int) 0 S = _ := w
    rw [if_pos (by omega), w']
    by_cases q : isK B b m k
    · rw [cI_t q, cI_t q]
      rfl
    · rw [cI_f q, cI_f q]
      rfl
  · rw [if_neg (by omega), cI_f (fun q => g q.1)]
theorem wordOf_s {S : qSto} {k : Nat} (hk : k < 11) : Reader_wordOf (k : Int) S = some (200 + k, S) := by
  have : k = 0 ∨ k = 1 ∨ k = 2 ∨ k = 3 ∨ k = 4 ∨ k = 5 ∨ k = 6 ∨ k = 7 ∨ k = 8 ∨ k = 9 ∨ k = 10 := by omega
  rcases this with rfl | rfl | rfl | rfl | rfl | rfl | rfl | rfl | rfl | rfl | rfl <;> rfl
theorem lineKind_L (hb : hBy B n) {S : qSto} (h : bP S B n) {b m : Nat} (hn : b + m ≤ n) : ∀ (r f i : Nat), i + r = 11 → r < f → Reader_lineKind_L2 f (b : Int) (m : Int) (i : Int) S = some (if kdF (isK B b m) r i = -1 then .inl S else .inr (kdF (isK B b m) r i, S))
  | 0, f + 1, i, e, _ => by
    rw [Reader_lineKind_L2, qk_r (by omega) (by omega), if_pos (by omega)]
    rfl
  | r + 1, f + 1, i, e, hr => by
    rw [Reader_lineKind_L2, qk_r (by omega) (by omega), if_neg (by omega), wordOf_s (by omega)]
    simp only [ob_sn]
    rw [isWord_s hb h (by omega) hn]
    simp only [ob_sn]
    rw [kdF]
    by_cases g : isK B b m i
    · rw [cI_t g, cI_t g, qk_r (by omega) (by omega), if_neg (by omega), if_neg (by omega)]
    · rw [cI_f g, cI_f g, qk_r (by omega) (by omega), if_pos rfl]
      exact lineKind_L hb h hn r f (i + 1) (by omega) (by omega)
theorem lineKind_s (hb : hBy B n) {S : qSto} (h : bP S B n) {b m : Nat} (hn : b + m ≤ n) : Reader_lineKind (b : Int) (m : Int) S = some (kdF (isK B b m) 11 0, S) := by
  have w := lineKind_L hb h hn 11 qF 0 (by omega) (by unfold qF; omega)
  have w' : Reader_lineKind_L2 qF (b : Int) (m : Int) 0 S = _ := w
  rw [Reader_lineKind, w']
  by_cases g : kdF (isK B b m) 11 0 = -1
  · rw [if_pos g, g]
    rfl
  · rw [if_neg g]
    rfl
end PKY
theorem wK_0 : wK 0 = 578617 := by decide +kernel
theorem wK_1 : wK 1 = 7216 := by decide +kernel
theorem wK_2 : wK 2 = 365740 := by decide +kernel
theorem wK_3 : wK 3 = 3491182764 := by decide +kernel
theorem wK_4 : wK 4 = 591493 := by decide +kernel
theorem wK_5 : wK 5 = 409203 := by decide +kernel
theorem wK_6 : wK 6 = 20572677614 := by decide +kernel
theorem wK_7 : wK 7 = 3737029 := by decide +kernel
theorem wK_8 : wK 8 = 664709 := by decide +kernel
theorem wK_9 : wK 9 = 7387379 := by decide +kernel
theorem wK_10 : wK 10 = 631088 := by decide +kernel
theorem M_key_s {S : qSto} (h9 : S 70 9 = 1) (hr : qRL (S 70 17)) : M_key S = some (kdF (fun k => S 70 17 = wK k) 11 0, S) := by
  rw [M_key, h9, qk_r (by omega) (by omega), if_pos rfl]
  rw [qk_rl hr.1 hr.2, kdF]
  by_cases g0 : S 70 17 = 578617
  · rw [if_pos g0, cI_t (show S 70 17 = wK 0 by rw [wK_0]; exact g0)]
    rfl
  · rw [if_neg g0, cI_f (show ¬ S 70 17 = wK 0 by rw [wK_0]; exact g0)]
    rw [qk_rl hr.1 hr.2, kdF]
    by_cases g1 : S 70 17 = 7216
    · rw [if_pos g1, cI_t (show S 70 17 = wK 1 by rw [wK_1]; exact g1)]
      rfl
    · rw [if_neg g1, cI_f (show ¬ S 70 17 = wK 1 by rw [wK_1]; exact g1)]
      rw [qk_rl hr.1 hr.2, kdF]
      by_cases g2 : S 70 17 = 365740
      · rw [if_pos g2, cI_t (show S 70 17 = wK 2 by rw [wK_2]; exact g2)]
        rfl
      · rw [if_neg g2, cI_f (show ¬ S 70 17 = wK 2 by rw [wK_2]; exact g2)]
        rw [qk_rl hr.1 hr.2, kdF]
        by_cases g3 : S 70 17 = 3491182764
        · rw [if_pos g3, cI_t (show S 70 17 = wK 3 by rw [wK_3]; exact g3)]
          rfl
        · rw [if_neg g3, cI_f (show ¬ S 70 17 = wK 3 by rw [wK_3]; exact g3)]
          rw [qk_rl hr.1 hr.2, kdF]
          by_cases g4 : S 70 17 = 591493
          · rw [if_pos g4, cI_t (show S 70 17 = wK 4 by rw [wK_4]; exact g4)]
            rfl
          · rw [if_neg g4, cI_f (show ¬ S 70 17 = wK 4 by rw [wK_4]; exact g4)]
            rw [qk_rl hr.1 hr.2, kdF]
            by_cases g5 : S 70 17 = 409203
            · rw [if_pos g5, cI_t (show S 70 17 = wK 5 by rw [wK_5]; exact g5)]
              rfl
            · rw [if_neg g5, cI_f (show ¬ S 70 17 = wK 5 by rw [wK_5]; exact g5)]
              rw [qk_rl hr.1 hr.2, kdF]
              by_cases g6 : S 70 17 = 20572677614
              · rw [if_pos g6, cI_t (show S 70 17 = wK 6 by rw [wK_6]; exact g6)]
                rfl
              · rw [if_neg g6, cI_f (show ¬ S 70 17 = wK 6 by rw [wK_6]; exact g6)]
                rw [qk_rl hr.1 hr.2, kdF]
                by_cases g7 : S 70 17 = 3737029
                · rw [if_pos g7, cI_t (show S 70 17 = wK 7 by rw [wK_7]; exact g7)]
                  rfl
                · rw [if_neg g7, cI_f (show ¬ S 70 17 = wK 7 by rw [wK_7]; exact g7)]
                  rw [qk_rl hr.1 hr.2, kdF]
                  by_cases g8 : S 70 17 = 664709
                  · rw [if_pos g8, cI_t (show S 70 17 = wK 8 by rw [wK_8]; exact g8)]
                    rfl
                  · rw [if_neg g8, cI_f (show ¬ S 70 17 = wK 8 by rw [wK_8]; exact g8)]
                    rw [qk_rl hr.1 hr.2, kdF]
                    by_cases g9 : S 70 17 = 7387379
                    · rw [if_pos g9, cI_t (show S 70 17 = wK 9 by rw [wK_9]; exact g9)]
                      rfl
                    · rw [if_neg g9, cI_f (show ¬ S 70 17 = wK 9 by rw [wK_9]; exact g9)]
                      rw [qk_rl hr.1 hr.2, kdF]
                      by_cases g10 : S 70 17 = 631088
                      · rw [if_pos g10, cI_t (show S 70 17 = wK 10 by rw [wK_10]; exact g10)]
                        rfl
                      · rw [if_neg g10, cI_f (show ¬ S 70 17 = wK 10 by rw [wK_10]; exact g10)]
                        rfl
theorem M_key_n {S : qSto} (h9 : S 70 9 ≠ 1) (hr : qR (S 70 9)) : M_key S = some (-1, S) := by
  rw [M_key, qk_r hr.1 hr.2, if_neg h9]
/-- a token's kind is what it says -/
theorem tok_9 {B : Nat → Int} {n i : Nat} {S : qSto} (h : tok B n i S) : 1 ≤ S 70 9 ∧ S 70 9 ≤ 5 := by
  rcases h.2 with q | ⟨-, -, -, q⟩ | ⟨-, -, -, q⟩ | ⟨-, -, -, -, q⟩
  · omega
  · rcases q with q | q <;> omega
  · rcases q with q | q <;> omega
  · rw [q]
    split <;> omega
/-- the word at i, where none is glued -/
noncomputable def kAt (B : Nat → Int) (n i : Nat) : Int := kdF (isK B (upto isB B n i) (upto isL B n (upto isB B n i) - upto isB B n i)) 11 0
theorem kAt_no {B : Nat → Int} {n i : Nat} (hi : i ≤ n) (h : ¬ (upto isB B n i < n ∧ isL (B (upto isB B n i)) = true)) : kAt B n i = -1 := by
  unfold kAt
  have e : upto isL B n (upto isB B n i) = upto isB B n i := upto_n h
  rw [e, Nat.sub_self]
  rcases kdF_rng (Q := isK B (upto isB B n i) 0) 11 0 with ⟨q, -⟩ | ⟨k, q, h1, h2, h3⟩
  · exact q
  · have := wLen_ok k (by omega)
    have := h3.1
    omega
theorem lets {B : Nat → Int} {n j : Nat} (hj : j ≤ n) : ∀ u, u < upto isL B n j - j → 97 ≤ B (j + u) ∧ B (j + u) ≤ 122 := fun u hu => (isL_iff _).mp (upto_in hj (by omega) (by omega))
theorem key_s {B : Nat → Int} {n i : Nat} {S : qSto} (hi : i ≤ n) (h : tok B n i S) (hg : ¬ gD B (upto isB B n i)) : M_key S = some (kAt B n i, S) := by
  have t9 := tok_9 h
  have ub := upto_b (P := isB) (B := B) hi
  have ul := upto_b (P := isL) (B := B) ub.2
  by_cases g : S 70 9 = 1
  · rcases h.2 with q | ⟨q1, q2, q3, q4⟩ | ⟨-, -, -, q⟩ | ⟨-, -, -, -, q⟩
    · omega
    · rcases q4 with ⟨-, m8, -, hw⟩ | q4
      · have lb := nmW_u m8 (lets (B := B) ub.2)
        rw [M_key_s g (by rw [hw]; exact ⟨by omega, by omega⟩)]
        unfold kAt
        rw [kdF_cong (Q' := isK B (upto isB B n i) (upto isL B n (upto isB B n i) - upto isB B n i)) 11 0 (fun k _ hk => by rw [hw]; exact isK_W (by omega) (lets ub.2))]
      · omega
    · rcases q with q | q <;> omega
    · rw [q] at g
      split at g <;> omega
  · rw [M_key_n g ⟨by omega, by omega⟩]
    have : kAt B n i = -1 := by
      by_cases w : upto isB B n i < n ∧ isL (B (upto isB B n i)) = true
      · rcases h.2 with q | ⟨q1, q2, q3, q4⟩ | ⟨-, q2, -, -⟩ | ⟨-, q2, -, -, -⟩
        · omega
        · rcases q4 with q4 | ⟨-, q5 | q5⟩
          · exact absurd q4.1 g
          · unfold kAt
            rcases kdF_rng (Q := isK B (upto isB B n i) (upto isL B n (upto isB B n i) - upto isB B n i)) 11 0 with ⟨q, -⟩ | ⟨k, q, h1, h2, h3⟩
            · exact q
            · have := wLen_ok k (by omega)
              have := h3.1
              omega
          · exact absurd q5 hg
        · have a := (isL_iff _).mp w.2
          have b := (isD_iff _).mp q2
          omega
        · rw [w.2] at q2
          cases q2
      · exact kAt_no hi w
    rw [this]
