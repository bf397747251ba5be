/-! numbers of the text -/
/-- behind a word or a number -/
def hp (B : Nat → Int) (n p : Nat) : Prop := (0 < p ∧ p ≤ n) ∧ (isL (B (p - 1)) = true ∨ (isD (B (p - 1)) = true ∧ (p < n → isD (B p) = false)))
def eD (B : Nat → Int) (n p : Nat) : Nat := upto isD B n (upto isB B n p)
def okN (B : Nat → Int) (n p : Nat) : Prop := p < upto isB B n p ∧ upto isB B n p < eD B n p ∧ eD B n p - upto isB B n p ≤ 4
def vN (B : Nat → Int) (n p : Nat) : Int := dvN (fun u => B (upto isB B n p + u)) (eD B n p - upto isB B n p)
theorem dv_b {f : Nat → Int} : ∀ {m : Nat}, (∀ i, i < m → 48 ≤ f i ∧ f i ≤ 57) → 0 ≤ dvN f m ∧ dvN f m + 1 ≤ ((10 ^ m : Nat) : Int)
  | 0, _ => by simp [dvN]
  | m + 1, h => by
    have ih := dv_b (m := m) (fun i hi => h i (by omega))
    have := h m (by omega)
    have e : ((10 ^ (m + 1) : Nat) : Int) = 10 * ((10 ^ m : Nat) : Int) := by
      rw [Nat.pow_succ]
      omega
    rw [dvN]
    omega
section PNM
variable {B : Nat → Int} {n p : Nat}
theorem eD_b (h : p ≤ n) : p ≤ upto isB B n p ∧ upto isB B n p ≤ eD B n p ∧ eD B n p ≤ n := by
  have a := upto_b (P := isB) (B := B) h
  have b := upto_b (P := isD) (B := B) a.2
  exact ⟨a.1, b.1, b.2⟩
theorem digs (h : p ≤ n) : ∀ u, u < eD B n p - upto isB B n p → 48 ≤ B (upto isB B n p + u) ∧ B (upto isB B n p + u) ≤ 57 := fun u hu => by
  have a := upto_b (P := isB) (B := B) h
  exact (isD_iff _).mp (upto_in a.2 (by omega) (by unfold eD at hu; omega))
theorem vN_b (h : p ≤ n) (ok : okN B n p) : 0 ≤ vN B n p ∧ vN B n p ≤ 9999 := by
  have z := dv_b (digs (B := B) h)
  have : ((10 ^ (eD B n p - upto isB B n p) : Nat) : Int) ≤ 10000 := by
    have := Nat.pow_le_pow_right (n := 10) (by omega) ok.2.2
    have e : 10 ^ 4 = 10000 := by decide
    omega
  unfold vN
  omega
theorem hp_next (h : p ≤ n) (ok : okN B n p) : hp B n (eD B n p) := by
  have a := eD_b (B := B) h
  have b := ok.2.1
  refine ⟨⟨by omega, a.2.2⟩, Or.inr ⟨?_, fun hn => ?_⟩⟩
  · exact upto_in (P := isD) (B := B) (show upto isB B n p ≤ n by omega) (by omega) (by unfold eD at b ⊢; omega)
  · exact upto_e (P := isD) (B := B) (show upto isB B n p ≤ n by omega) hn
theorem gap_B (h : p ≤ n) (hlt : p < upto isB B n p) : isB (B (upto isB B n p - 1)) = true := upto_in h (by omega) (by omega)
theorem tok_num {S : qSto} (h : tok B n p S) (hpp : hp B n p) (ok : okN B n p) : S 70 9 = 2 ∧ S 70 10 = vN B n p ∧ S 70 7 = eD B n p := by
  have hn := hpp.1.2
  have a := eD_b (B := B) hn
  obtain ⟨o1, o2, o3⟩ := ok
  have hd := digs (B := B) hn 0 (by omega)
  have hg : ¬ gL B (upto isB B n p) := fun q => by
    have z1 := (isB_iff _).mp (gap_B hn o1)
    have z2 := (isL_iff _).mp q.2
    omega
  rcases h.2 with q | ⟨q1, q2, q3, q4⟩ | ⟨q1, q2, q3, q4⟩ | ⟨q1, q2, q3, -, -⟩
  · omega
  · have := (isL_iff _).mp q2
    have e : upto isB B n p + 0 = upto isB B n p := by omega
    rw [e] at hd
    omega
  · rcases q4 with ⟨r1, r2, r3, r4⟩ | ⟨r1, r2 | r2⟩
    · exact ⟨r1, r4, q3⟩
    · unfold eD at o3
      omega
    · exact absurd r2 hg
  · have e : upto isB B n p + 0 = upto isB B n p := by omega
    rw [e] at hd
    rw [(isD_iff _).mpr hd] at q3
    cases q3
theorem tok_nonum {S : qSto} (h : tok B n p S) (hpp : hp B n p) (ok : ¬ okN B n p) : S 70 9 ≠ 2 := fun e9 => by
  have hn := hpp.1.2
  have a := eD_b (B := B) hn
  rcases h.2 with q | ⟨-, -, -, q4⟩ | ⟨q1, q2, q3, q4⟩ | ⟨-, -, -, -, q5⟩
  · omega
  · rcases q4 with q4 | q4 <;> omega
  · rcases q4 with ⟨r1, r2, r3, r4⟩ | q4
    · have e : upto isB B n p < eD B n p := by
        unfold eD
        rw [upto_y q1 q2]
        have := upto_b (P := isD) (B := B) (show upto isB B n p + 1 ≤ n by omega)
        omega
      have hlt : ¬ p < upto isB B n p := fun w => ok ⟨w, e, r2⟩
      have ep : upto isB B n p = p := by omega
      rw [ep] at q1 q2 r3
      rcases hpp.2 with w | ⟨w1, w2⟩
      · exact r3 ⟨hpp.1.1, w⟩
      · rw [w2 q1] at q2
        cases q2
    · omega
  · rw [q5] at e9
    split at e9 <;> omega
/-! the reference reads a number -/
def gM (S S' : qSto) : Prop := (∀ c, c ≠ 70 → S' c = S c) ∧ (∀ u, ¬ ((7 ≤ u ∧ u ≤ 13) ∨ u = 17) → S' 70 u = S 70 u) ∧ (S' 70 11 = 0 → S 70 11 = 0 ∧ S' 70 12 = S 70 12)
theorem gM_rfl {S : qSto} : gM S S := ⟨fun _ _ => rfl, fun _ _ => rfl, fun h => ⟨h, rfl⟩⟩
theorem gM_tr {S S1 S2 : qSto} (h1 : gM S S1) (h2 : gM S1 S2) : gM S S2 := ⟨fun c h => (h2.1 c h).trans (h1.1 c h), fun c h => (h2.2.1 c h).trans (h1.2.1 c h), fun h => ⟨(h1.2.2 (h2.2.2 h).1).1, (h2.2.2 h).2.trans (h1.2.2 (h2.2.2 h).1).2⟩⟩
theorem gM_up {S : qSto} {u : Nat} {v : Int} (hu : (7 ≤ u ∧ u ≤ 13 ∧ u ≠ 11 ∧ u ≠ 12) ∨ u = 17) : gM S (qup S 70 u v) := ⟨fun c h => qup_off h, fun w h => by rw [qup_on, if_neg (by intro q; rw [q] at h; exact h (by omega))], fun h => ⟨by rw [qup_on, if_neg (by omega)] at h; exact h, by rw [qup_on, if_neg (by omega)]⟩⟩
theorem gM_fail {S : qSto} {k q : Int} (hk : 1 ≤ k) : gM S (qup (qup S 70 11 k) 70 12 q) := ⟨fun c h => by rw [qup_off h, qup_off h], fun w h => by rw [qup_on, if_neg (by omega), qup_on, if_neg (by omega)], fun h => by
  rw [qup_on, if_neg (by omega), qup_on, if_pos rfl] at h
  omega⟩
theorem f7_M {S S1 : qSto} (h : f7 S S1) : gM S S1 := ⟨h.1, fun u hu => h.2 u (by omega), fun h0 => ⟨by rw [h.2 11 (by omega)] at h0; exact h0, h.2 12 (by omega)⟩⟩
theorem gM_b {S S' : qSto} (h : bQ S B n) (f : gM S S') : bQ S' B n := by
  unfold bQ
  rw [f.2.1 6 (by omega), f.1 75 (by omega)]
  exact h
theorem fail_0 {S : qSto} {k q : Int} (h : S 70 11 = 0) : M_fail k q S = some (qup (qup S 70 11 k) 70 12 q) := by
  rw [M_fail, h, qk_r (by omega) (by omega), if_pos (by omega)]
theorem fail_1 {S : qSto} {k q : Int} (h : 1 ≤ S 70 11 ∧ S 70 11 ≤ 4) : M_fail k q S = some S := by
  rw [M_fail, qk_r (by omega) (by omega), if_neg (by omega)]
/-- the reference has failed: which fault, where -/
def mF (k q : Int) (S : qSto) : Prop := (1 ≤ k ∧ k ≤ 4) ∧ S 70 11 = k ∧ S 70 12 = q
theorem mF_fail {S : qSto} {k q : Int} (hk : 1 ≤ k ∧ k ≤ 4) : mF k q (qup (qup S 70 11 k) 70 12 q) := ⟨hk, by rw [qup_on, if_neg (by omega), qup_on, if_pos rfl], by rw [qup_on, if_pos rfl]⟩
theorem number_f {S : qSto} {k q lo hi : Int} (h : mF k q S) : M_number lo hi S = some (lo, S) := by
  have := h.1
  rw [M_number, h.2.1, qk_r (by omega) (by omega), if_neg (by omega)]
theorem mF_off {S S' : qSto} {k q : Int} (h : mF k q S) (e1 : S' 70 11 = S 70 11) (e2 : S' 70 12 = S 70 12) : mF k q S' := ⟨h.1, e1.trans h.2.1, e2.trans h.2.2⟩
theorem number_bad {S : qSto} {lo hi : Int} (h : tok B n p S) (hpp : hp B n p) (ok : ¬ okN B n p) (h0 : S 70 11 = 0) : ∃ x S', M_number lo hi S = some (x, S') ∧ mF 1 (upto isB B n p) S' ∧ gM S S' := by
  have t9 := tok_9 h
  have ne := tok_nonum h hpp ok
  have e11 : (qup (qup (qup S 70 11 1) 70 12 (S 70 8)) 70 13 ((qup (qup S 70 11 1) 70 12 (S 70 8)) 70 8)) 70 11 = 1 := by rw [qup_on, if_neg (by omega), qup_on, if_neg (by omega), qup_on, if_pos rfl]
  rw [M_number, h0, qk_r (by omega) (by omega), if_pos (by omega), qk_r (by omega) (by omega), if_neg ne, fail_0 h0]
  simp only [ob_sn]
  rw [e11, qk_r (by omega) (by omega), if_neg (by omega)]
  refine ⟨_, _, rfl, mF_off (mF_fail (S := S) (k := 1) (q := upto isB B n p) (by omega)) ?_ ?_, gM_tr (gM_fail (by omega)) (gM_up (by omega))⟩
  · rw [e11, qup_on, if_neg (by omega), qup_on, if_pos rfl]
  · rw [qup_on, if_neg (by omega), qup_on, if_pos rfl, qup_on, if_pos rfl, h.1]
theorem number_out {S : qSto} {lo hi : Int} (h : tok B n p S) (hpp : hp B n p) (ok : okN B n p) (h0 : S 70 11 = 0) (hl : qR lo) (hh : qR hi) (ho : ¬ (lo ≤ vN B n p ∧ vN B n p ≤ hi)) : ∃ x S', M_number lo hi S = some (x, S') ∧ mF 2 (upto isB B n p) S' ∧ gM S S' := by
  have vb := vN_b hpp.1.2 ok
  obtain ⟨t1, t2, t3⟩ := tok_num h hpp ok
  obtain ⟨l1, l2⟩ := hl
  obtain ⟨h1, h2⟩ := hh
  have e11 : (qup (qup (qup S 70 11 2) 70 12 (S 70 8)) 70 13 ((qup (qup S 70 11 2) 70 12 (S 70 8)) 70 8)) 70 11 = 2 := by rw [qup_on, if_neg (by omega), qup_on, if_neg (by omega), qup_on, if_pos rfl]
  rw [M_number, h0, qk_r (by omega) (by omega), if_pos (by omega), t1, qk_r (by omega) (by omega), if_pos rfl, t2, qk_r (by omega) (by omega), qk_r (by omega) (by omega), qk_r (by omega) (by omega), M_in_s ⟨by omega, by omega⟩ ⟨by omega, by omega⟩ ⟨by omega, by omega⟩, if_neg ho]
  simp only [ob_sn]
  rw [qk_r (by omega) (by omega), if_pos trivial, fail_0 h0]
  simp only [ob_sn]
  rw [e11, qk_r (by omega) (by omega), if_neg (by omega)]
  refine ⟨_, _, rfl, mF_off (mF_fail (S := S) (k := 2) (q := upto isB B n p) (by omega)) ?_ ?_, gM_tr (gM_fail (by omega)) (gM_up (by omega))⟩
  · rw [e11, qup_on, if_neg (by omega), qup_on, if_pos rfl]
  · rw [qup_on, if_neg (by omega), qup_on, if_pos rfl, qup_on, if_pos rfl, h.1]
theorem number_ok (hb : hBy B n) {S : qSto} {lo hi : Int} (h : tok B n p S) (hpp : hp B n p) (ok : okN B n p) (h0 : S 70 11 = 0) (hl : qR lo) (hh : qR hi) (ho : lo ≤ vN B n p ∧ vN B n p ≤ hi) (hq : bQ S B n) : ∃ S', M_number lo hi S = some (vN B n p, S') ∧ tok B n (eD B n p) S' ∧ S' 70 11 = 0 ∧ S' 70 13 = upto isB B n p ∧ gM S S' := by
  have vb := vN_b hpp.1.2 ok
  have a := eD_b (B := B) hpp.1.2
  obtain ⟨t1, t2, t3⟩ := tok_num h hpp ok
  obtain ⟨l1, l2⟩ := hl
  obtain ⟨h1, h2⟩ := hh
  have e11 : (qup S 70 13 (S 70 8)) 70 11 = 0 := by rw [qup_on, if_neg (by omega), h0]
  have e7 : (qup S 70 13 (S 70 8)) 70 7 = eD B n p := by rw [qup_on, if_neg (by omega), t3]
  have e10 : (qup S 70 13 (S 70 8)) 70 10 = vN B n p := by rw [qup_on, if_neg (by omega), t2]
  have e13 : (qup S 70 13 (S 70 8)) 70 13 = upto isB B n p := by rw [qup_on, if_pos rfl, h.1]
  have g1 : gM S (qup S 70 13 (S 70 8)) := gM_up (by omega)
  rw [M_number, h0, qk_r (by omega) (by omega), if_pos (by omega), t1, qk_r (by omega) (by omega), if_pos rfl, t2, qk_r (by omega) (by omega), qk_r (by omega) (by omega), qk_r (by omega) (by omega), M_in_s ⟨by omega, by omega⟩ ⟨by omega, by omega⟩ ⟨by omega, by omega⟩, if_pos ho]
  simp only [ob_sn]
  rw [qk_r (by omega) (by omega), if_neg (by omega)]
  simp only [ob_sn]
  rw [e11, e10, qk_r (by omega) (by omega), if_pos rfl]
  generalize qup S 70 13 (S 70 8) = S1 at e11 e7 e10 e13 g1
  obtain ⟨S', u1, u2, u3⟩ := goOn_s hb a.2.2 (gM_b hq g1) e7
  rw [u1]
  exact ⟨S', rfl, u2, by rw [u3.2 11 (by omega), e11], by rw [u3.2 13 (by omega), e13], gM_tr g1 (f7_M u3)⟩
/-! the class reads a number -/
theorem val_L (hb : hBy B n) {j e : Nat} (hd : ∀ u, u < e - j → 48 ≤ B (j + u) ∧ B (j + u) ≤ 57) (hen : e ≤ n) : ∀ (r f c : Nat) (S : qSto), j + c + r = e → r < f → bP S B n → S 4 4 = e → Reader_readNumber_L58 f (dvN (fun u => B (j + u)) c) ((j + c : Nat) : Int) S = some (dvN (fun u => B (j + u)) (e - j), S)
  | 0, f + 1, c, S, h, _, hP, h4 => by
    have := hb.1
    rw [Reader_readNumber_L58, h4, qk_r (by omega) (by omega), qk_r (by omega) (by omega), if_pos (by omega), show e - j = c by omega]
  | r + 1, f + 1, c, S, h, hr, hP, h4 => by
    have := hb.1
    have d := hd c (by omega)
    have s1 := hP.2 (j + c) (by omega)
    have sg := sgn (c := B (j + c)) (by omega)
    rw [if_pos (by omega)] at sg
    rw [Reader_readNumber_L58, h4, qk_r (by omega) (by omega), qk_r (by omega) (by omega), if_neg (by omega), qk_ix (by omega) (by omega), Int.toNat_natCast, s1, sg]
    have ih := val_L hb hd hen r f (c + 1) S (by omega) (by omega) hP h4
    rw [dvN] at ih
    have e1 : dvN (fun u => B (j + u)) c * 10 + B (j + c) - 48 = 10 * dvN (fun u => B (j + u)) c + (B (j + c) - 48) := by omega
    have e2 : ((j + c : Nat) : Int) + 1 = ((j + (c + 1) : Nat) : Int) := by omega
    rw [e1, e2]
    exact ih
/-- what reading a number changes in the class -/
def gC (S S' : qSto) : Prop := ∀ c, c ≠ 4 → c ≠ 35 → S' c = S c
def cF (k q : Int) (S : qSto) : Prop := S 4 5 = k ∧ S 4 6 = q
theorem refuse_s {S : qSto} {k q : Int} : Reader_refuse k q S = some (0, qup (qup S 4 5 k) 4 6 q) := rfl
theorem cF_up {S : qSto} {k q : Int} : cF k q (qup (qup S 4 5 k) 4 6 q) := ⟨by rw [qup_on, if_neg (by omega), qup_on, if_pos rfl], by rw [qup_on, if_pos rfl]⟩
theorem gC_up {S S1 : qSto} {k q : Int} (h : gC S S1) : gC S (qup (qup S1 4 5 k) 4 6 q) := fun c h1 h2 => by rw [qup_off h1, qup_off h1, h c h1 h2]
theorem gC_rfl {S : qSto} : gC S S := fun _ _ _ => rfl
theorem gC_tr {S S1 S2 : qSto} (h1 : gC S S1) (h2 : gC S1 S2) : gC S S2 := fun c a b => (h2 c a b).trans (h1 c a b)
theorem f4_C {S S1 : qSto} (h : f4 S S1) : gC S S1 := fun c h1 _ => h.1 c h1
theorem rn_bad (hb : hBy B n) {S : qSto} {k i : Int} (hpp : hp B n p) (hP : bP S B n) (h4 : S 4 4 = p) (ok : ¬ okN B n p) : ∃ S', Reader_readNumber k i S = some (0, S') ∧ cF 1 (upto isB B n p) S' ∧ gC S S' := by
  have h12 := hb.1
  have a := eD_b (B := B) hpp.1.2
  have a' := upto_b (P := isD) (B := B) (show upto isB B n p ≤ n by omega)
  obtain ⟨S1, t1, t2, t3⟩ := skip_s hb hpp.1.2 hP h4
  obtain ⟨S2, u1, u2, u3⟩ := pass_s (P := isD) hb (lo := 48) (hi' := 57) (by omega) isD_iff (by omega) (f4_b hP t3) t2
  have f2 := gC_tr (f4_C t3) (f4_C u3)
  have fin : ∃ S', Option.bind (Reader_refuse 1 (S1 4 4) S2) (fun q111 => qk (qZb q111.1) (some (q111.1, q111.2))) = some (0, S') ∧ cF 1 (upto isB B n p) S' ∧ gC S S' := by
    rw [refuse_s, t2]
    exact ⟨_, rfl, cF_up, gC_up f2⟩
  rw [Reader_readNumber, t1]
  simp only [ob_sn]
  rw [u1]
  simp only [ob_sn]
  rw [t2] at fin ⊢
  rw [qk_r (by omega) (by omega), h4, qk_r (by omega) (by omega)]
  by_cases g1 : ((upto isB B n p : Nat) : Int) = (p : Int)
  · rw [if_pos g1]
    exact fin
  · rw [if_neg g1, qk_r (by omega) (by omega)]
    by_cases g2 : ((upto isD B n (upto isB B n p) - upto isB B n p : Nat) : Int) < 1
    · rw [if_pos g2]
      exact fin
    · rw [if_neg g2, qk_r (by omega) (by omega), if_neg (fun g3 => ok ⟨by omega, by unfold eD; omega, by unfold eD; omega⟩)]
      exact fin
theorem rn_go (hb : hBy B n) {S : qSto} {k i : Nat} {lo hi : Int} (hpp : hp B n p) (hP : bP S B n) (h4 : S 4 4 = p) (ok : okN B n p) (hk : k < 11) (hi9 : i < 9) (hf : (0 ≤ (qsl 1).getD k 0 ∧ (qsl 1).getD k 0 + (i : Int) < 24)) (hlo : ∀ S', S' 35 = S 35 → Reader_leastNumber (k : Int) (i : Int) S' = some (lo, S')) (hl : qR lo) (hhi : (qsl 3).getD ((qsl 1).getD k 0 + (i : Int)).toNat 0 = hi) (hh : qR hi) : ∃ S2, S2 4 4 = ((eD B n p : Nat) : Int) ∧ f4 S S2 ∧ Reader_readNumber (k : Int) (i : Int) S = (if vN B n p < lo then some (0, qup (qup S2 4 5 2) 4 6 (upto isB B n p)) else (if vN B n p ≤ hi then (Option.bind (Heard_isToldAlready_35 (k : Int) (i : Int) (qup S2 35 i (vN B n p))) (fun q178 => qk (qRb q178.1) (if q178.1 = 0 then some (1, q178.2) else some (0, qup (qup q178.2 4 5 3) 4 6 (upto isB B n p))))) else some (0, qup (qup S2 4 5 2) 4 6 (upto isB B n p)))) := by
  have h12 := hb.1
  have vb := vN_b hpp.1.2 ok
  have a := eD_b (B := B) hpp.1.2
  have a' := upto_b (P := isD) (B := B) (show upto isB B n p ≤ n by omega)
  obtain ⟨S1, t1, t2, t3⟩ := skip_s hb hpp.1.2 hP h4
  obtain ⟨S2, u1, u2, u3⟩ := pass_s (P := isD) hb (lo := 48) (hi' := 57) (by omega) isD_iff (by omega) (f4_b hP t3) t2
  obtain ⟨o1, o2, o3⟩ := ok
  have f2 := f4_tr t3 u3
  have e35 : S2 35 = S 35 := f2.1 35 (by omega)
  have vl := val_L hb (digs (B := B) hpp.1.2) a.2.2 (eD B n p - upto isB B n p) qF 0 S2 (by omega) (by unfold qF; omega) (f4_b hP f2) u2
  have vl' : Reader_readNumber_L58 qF 0 ((upto isB B n p : Nat) : Int) S2 = some (vN B n p, S2) := vl
  obtain ⟨l1, l2⟩ := hl
  obtain ⟨h1, h2⟩ := hh
  refine ⟨S2, u2, f2, ?_⟩
  rw [Reader_readNumber, t1]
  simp only [ob_sn]
  rw [u1]
  simp only [ob_sn]
  have oe : upto isB B n p < upto isD B n (upto isB B n p) := o2
  have o3' : upto isD B n (upto isB B n p) - upto isB B n p ≤ 4 := o3
  rw [t2, qk_r (by omega) (by omega), h4, qk_r (by omega) (by omega), if_neg (by omega), qk_r (by omega) (by omega), if_neg (by omega), qk_r (by omega) (by omega), if_pos (by omega), vl']
  simp only [ob_sn]
  rw [hlo S2 e35]
  simp only [ob_sn]
  rw [qk_r (by omega) (by omega), qk_r (by omega) (by omega)]
  by_cases g : vN B n p < lo
  · rw [if_pos g, if_pos g]
    rfl
  · rw [if_neg g, if_neg g, qk_ix (by omega) (by omega), Int.toNat_natCast, qk_ix (by omega) (by omega), qk_r (by omega) (by omega), hhi, qk_r (by omega) (by omega)]
    by_cases g2 : vN B n p ≤ hi
    · rw [if_pos g2, if_pos g2, qk_ix (by omega) (by omega), Int.toNat_natCast]
      congr 1
    · rw [if_neg g2, if_neg g2]
      rfl
end PNM
