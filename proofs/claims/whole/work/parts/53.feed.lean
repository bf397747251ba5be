/-! feed: both take the same bytes -/
theorem ishr_R (a b : Int) : qR (qb_ishr a b) := ⟨Int32.le_toInt _, by have := Int32.toInt_lt (Int32.ofInt a >>> (Int32.ofInt b &&& 31)); unfold qb_ishr; omega⟩
theorem iand_255 {x : Int} : qb_iand x 255 = x % 256 := by
  have h1 : (Int32.ofInt x &&& Int32.ofInt 255).toBitVec.toNat = (x % 256).toNat := by
    rw [Int32.toBitVec_and, Int32.toBitVec_ofInt, BitVec.toNat_and, BitVec.toNat_ofInt]
    have e : (Int32.ofInt 255).toBitVec.toNat = 2 ^ 8 - 1 := by decide
    rw [e, Nat.and_two_pow_sub_one_eq_mod]
    omega
  have h2 : (Int32.ofInt x &&& Int32.ofInt 255).toInt = (Int32.ofInt x &&& Int32.ofInt 255).toBitVec.toInt := rfl
  unfold qb_iand
  rw [h2, BitVec.toInt_eq_toNat_of_lt (by rw [h1]; omega), h1]
  omega
theorem bmod_e {x : Int} : Int.bmod (x % 256) 256 = Int.bmod x 256 := by
  show (if (x % 256) % ((256 : Nat) : Int) < (((256 : Nat) : Int) + 1) / 2 then (x % 256) % ((256 : Nat) : Int) else (x % 256) % ((256 : Nat) : Int) - ((256 : Nat) : Int)) = (if x % ((256 : Nat) : Int) < (((256 : Nat) : Int) + 1) / 2 then x % ((256 : Nat) : Int) else x % ((256 : Nat) : Int) - ((256 : Nat) : Int))
  have e : (x % 256) % ((256 : Nat) : Int) = x % ((256 : Nat) : Int) := by omega
  rw [e]
theorem bmod_b {x : Int} : -128 ≤ Int.bmod x 256 ∧ Int.bmod x 256 ≤ 127 := by
  show -128 ≤ (if x % ((256 : Nat) : Int) < (((256 : Nat) : Int) + 1) / 2 then x % ((256 : Nat) : Int) else x % ((256 : Nat) : Int) - ((256 : Nat) : Int)) ∧ (if x % ((256 : Nat) : Int) < (((256 : Nat) : Int) + 1) / 2 then x % ((256 : Nat) : Int) else x % ((256 : Nat) : Int) - ((256 : Nat) : Int)) ≤ 127
  split <;> omega
/-- the bytes u are on the tape: the class, the reference -/
def tc (S : qSto) (u : List Int) : Prop := S 0 1 = u.length ∧ ∀ i, i < u.length → S 1 i = Int.bmod (u.getD i 0) 256
def tm (S : qSto) (u : List Int) : Prop := S 70 5 = u.length ∧ ∀ i, i < u.length → S 75 i = u.getD i 0
def by1 (v : Int) (k : Nat) : Int := qb_ishr v (8 * (k : Int)) % 256
def fTc (S S' : qSto) : Prop := (∀ c, c ≠ 0 → c ≠ 1 → S' c = S c) ∧ ∀ i, i ≠ 1 → S' 0 i = S 0 i
def fTm (S S' : qSto) : Prop := (∀ c, c ≠ 70 → c ≠ 75 → S' c = S c) ∧ ∀ i, i ≠ 5 → S' 70 i = S 70 i
theorem fTc_tr {S S1 S2 : qSto} (h1 : fTc S S1) (h2 : fTc S1 S2) : fTc S S2 := ⟨fun c a b => (h2.1 c a b).trans (h1.1 c a b), fun i a => (h2.2 i a).trans (h1.2 i a)⟩
theorem fTm_tr {S S1 S2 : qSto} (h1 : fTm S S1) (h2 : fTm S1 S2) : fTm S S2 := ⟨fun c a b => (h2.1 c a b).trans (h1.1 c a b), fun i a => (h2.2 i a).trans (h1.2 i a)⟩
theorem tc_1 {S : qSto} {u : List Int} {v sh : Int} {f : Nat} (k : Nat) (e : sh = 8 * (k : Int)) (hk : k < 4) (hf : 0 < f) (h : tc S u) (hu : u.length < 1200) : ∃ S', C_takeBytes_L3 f v sh S = C_takeBytes_L3 (f - 1) v (sh + -8) S' ∧ tc S' (u ++ [by1 v k]) ∧ fTc S S' := by
  cases f with
  | zero => omega
  | succ n =>
    have b := bmod_b (x := qb_ishr v sh)
    have e1 : (qup S 1 u.length (Int.bmod (qb_ishr v sh) 256)) 0 1 = u.length := by rw [qup_off (by omega), h.1]
    refine ⟨qup (qup S 1 u.length (Int.bmod (qb_ishr v sh) 256)) 0 1 ((u.length : Int) + 1), ?_, ⟨?_, fun i hi => ?_⟩, fun c h1 h2 => ?_, fun i hi => ?_⟩
    · rw [C_takeBytes_L3, qk_r (by omega) (by omega), if_neg (by omega), h.1, qk_r (by omega) (by omega), if_neg (by omega), qk_ix (by omega) (by omega), qk_b (by omega) (by omega), Int.toNat_natCast, e1]
      rfl
    · rw [qup_on, if_pos rfl]
      simp
    · have hi' : i < u.length + 1 := by simpa using hi
      rw [qup_off (by omega), qup_on]
      by_cases g : i = u.length
      · rw [if_pos g, g, getD_end]
        unfold by1
        rw [bmod_e, e]
      · rw [if_neg g, getD_app (by omega)]
        exact h.2 i (by omega)
    · rw [qup_off h1, qup_off h2]
    · rw [qup_on, if_neg hi, qup_off (by omega)]
theorem tm_1 {S : qSto} {u : List Int} {v sh : Int} {f : Nat} (k : Nat) (e : sh = (k : Int)) (hk : k < 4) (hf : 0 < f) (h : tm S u) (hu : u.length < 1200) : ∃ S', M_four_L2 f v sh S = M_four_L2 (f - 1) v (sh + -1) S' ∧ tm S' (u ++ [by1 v k]) ∧ fTm S S' := by
  cases f with
  | zero => omega
  | succ n =>
    have e1 : (qup S 75 u.length (qb_iand (qb_ishr v (8 * sh)) 255)) 70 5 = u.length := by rw [qup_off (by omega), h.1]
    refine ⟨qup (qup S 75 u.length (qb_iand (qb_ishr v (8 * sh)) 255)) 70 5 ((u.length : Int) + 1), ?_, ⟨?_, fun i hi => ?_⟩, fun c h1 h2 => ?_, fun i hi => ?_⟩
    · rw [M_four_L2, qk_r (by omega) (by omega), if_neg (by omega), h.1, qk_ix (by omega) (by omega), Int.toNat_natCast, e1]
      rfl
    · rw [qup_on, if_pos rfl]
      simp
    · have hi' : i < u.length + 1 := by simpa using hi
      rw [qup_off (by omega), qup_on]
      by_cases g : i = u.length
      · rw [if_pos g, g, getD_end, iand_255, e]
        rfl
      · rw [if_neg g, getD_app (by omega)]
        exact h.2 i (by omega)
    · rw [qup_off h1, qup_off h2]
    · rw [qup_on, if_neg hi, qup_off (by omega)]
def by4 (v : Int) : List Int := [by1 v 3, by1 v 2, by1 v 1, by1 v 0]
theorem takeBytes_s {S : qSto} {u : List Int} {v : Int} (h : tc S u) (hu : u.length + 4 ≤ 1200) : ∃ S', C_takeBytes v S = some S' ∧ tc S' (u ++ by4 v) ∧ fTc S S' := by
  have F : 0 < qF ∧ 0 < qF - 1 ∧ 0 < qF - 1 - 1 ∧ 0 < qF - 1 - 1 - 1 := by unfold qF; omega
  obtain ⟨S1, a1, a2, a3⟩ := tc_1 (v := v) (sh := 24) 3 (by omega) (by omega) F.1 h (by omega)
  obtain ⟨S2, b1, b2, b3⟩ := tc_1 (v := v) (sh := 24 + -8) 2 (by omega) (by omega) F.2.1 a2 (by simp; omega)
  obtain ⟨S3, c1, c2, c3⟩ := tc_1 (v := v) (sh := 24 + -8 + -8) 1 (by omega) (by omega) F.2.2.1 b2 (by simp; omega)
  obtain ⟨S4, d1, d2, d3⟩ := tc_1 (v := v) (sh := 24 + -8 + -8 + -8) 0 (by omega) (by omega) F.2.2.2 c2 (by simp; omega)
  refine ⟨S4, ?_, ?_, fTc_tr a3 (fTc_tr b3 (fTc_tr c3 d3))⟩
  · rw [C_takeBytes, a1, b1, c1, d1]
    have e : C_takeBytes_L3 (qF - 1 - 1 - 1 - 1) v (24 + -8 + -8 + -8 + -8) S4 = some S4 := by
      show C_takeBytes_L3 (4995 + 1) v (24 + -8 + -8 + -8 + -8) S4 = some S4
      rw [C_takeBytes_L3, qk_r (by omega) (by omega), if_pos (by omega)]
    rw [e]
    rfl
  · have e : u ++ by4 v = u ++ [by1 v 3] ++ [by1 v 2] ++ [by1 v 1] ++ [by1 v 0] := by
      unfold by4
      simp
    rw [e]
    exact d2
theorem mfour_s {S : qSto} {u : List Int} {v : Int} (h : tm S u) (hu : u.length + 4 ≤ 1200) : ∃ S', M_four v S = some S' ∧ tm S' (u ++ by4 v) ∧ fTm S S' := by
  have F : 0 < qF ∧ 0 < qF - 1 ∧ 0 < qF - 1 - 1 ∧ 0 < qF - 1 - 1 - 1 := by unfold qF; omega
  obtain ⟨S1, a1, a2, a3⟩ := tm_1 (v := v) (sh := 3) 3 (by omega) (by omega) F.1 h (by omega)
  obtain ⟨S2, b1, b2, b3⟩ := tm_1 (v := v) (sh := 3 + -1) 2 (by omega) (by omega) F.2.1 a2 (by simp; omega)
  obtain ⟨S3, c1, c2, c3⟩ := tm_1 (v := v) (sh := 3 + -1 + -1) 1 (by omega) (by omega) F.2.2.1 b2 (by simp; omega)
  obtain ⟨S4, d1, d2, d3⟩ := tm_1 (v := v) (sh := 3 + -1 + -1 + -1) 0 (by omega) (by omega) F.2.2.2 c2 (by simp; omega)
  refine ⟨S4, ?_, ?_, fTm_tr a3 (fTm_tr b3 (fTm_tr c3 d3))⟩
  · rw [M_four, a1, b1, c1, d1]
    have e : M_four_L2 (qF - 1 - 1 - 1 - 1) v (3 + -1 + -1 + -1 + -1) S4 = some S4 := by
      show M_four_L2 (4995 + 1) v (3 + -1 + -1 + -1 + -1) S4 = some S4
      rw [M_four_L2, qk_r (by omega) (by omega), if_pos (by omega)]
    rw [e]
    rfl
  · have e : u ++ by4 v = u ++ [by1 v 3] ++ [by1 v 2] ++ [by1 v 1] ++ [by1 v 0] := by
      unfold by4
      simp
    rw [e]
    exact d2
theorem iP_u {S : qSto} (h : iP S) : ∃ u : List Int, u.length ≤ 1200 ∧ (∀ x ∈ u, 0 ≤ x ∧ x ≤ 255) ∧ tc S u ∧ tm S u := by
  obtain ⟨⟨h0, h1⟩, h2, h3⟩ := h
  refine ⟨(List.range (S 0 1).toNat).map (fun i => S 75 i), by simp; omega, fun x hx => ?_, ⟨by simp; omega, fun i hi => ?_⟩, ⟨by simp; omega, fun i hi => ?_⟩⟩
  · obtain ⟨i, hi, rfl⟩ := List.mem_map.mp hx
    have := List.mem_range.mp hi
    exact (h3 i (by omega)).1
  · have hi' : i < (S 0 1).toNat := by simpa using hi
    rw [(h3 i (by omega)).2, List.getD_eq_getElem?_getD, List.getElem?_map, List.getElem?_range hi']
    rfl
  · have hi' : i < (S 0 1).toNat := by simpa using hi
    rw [List.getD_eq_getElem?_getD, List.getElem?_map, List.getElem?_range hi']
    rfl
theorem u_iP {S : qSto} {u : List Int} (hl : u.length ≤ 1200) (hb : ∀ x ∈ u, 0 ≤ x ∧ x ≤ 255) (h1 : tc S u) (h2 : tm S u) : iP S := by
  refine ⟨by rw [h1.1]; omega, by rw [h1.1, h2.1], fun i hi => ?_⟩
  rw [h1.1] at hi
  have hi' : i < u.length := by omega
  have hm : u.getD i 0 ∈ u := by
    rw [List.getD_eq_getElem?_getD, List.getElem?_eq_getElem hi', Option.getD_some]
    exact List.getElem_mem hi'
  rw [h2.2 i hi', h1.2 i hi']
  exact ⟨hb _ hm, rfl⟩
theorem by4_b (v : Int) : ∀ x ∈ by4 v, 0 ≤ x ∧ x ≤ 255 := fun x hx => by
  unfold by4 at hx
  have z : ∀ k, 0 ≤ by1 v k ∧ by1 v k ≤ 255 := fun k => by
    unfold by1
    omega
  simp only [List.mem_cons, List.not_mem_nil, or_false] at hx
  rcases hx with q | q | q | q <;> (rw [q]; exact z _)
theorem g_feed {a b c d e : Int} : gOK (C_feed a b c d e) (M_feed a b c d e) := fun S h => by
  obtain ⟨T, lev, Y, hA', hw, ⟨o, m, hH⟩, hK, ⟨hN, hW, hP, hX⟩, hF⟩ := id h
  obtain ⟨hI, hB, hc, hm⟩ := id hA'
  obtain ⟨u, u1, u2, u3, u4⟩ := iP_u hP
  by_cases g : (u.length : Int) + 20 ≤ 1200
  · have l4 : ∀ v, (by4 v).length = 4 := fun v => rfl
    obtain ⟨A1, p1, p2, p3⟩ := takeBytes_s (v := a) u3 (by omega)
    obtain ⟨A2, q1, q2, q3⟩ := takeBytes_s (v := b) p2 (by simp [l4]; omega)
    obtain ⟨A3, r1, r2, r3⟩ := takeBytes_s (v := c) q2 (by simp [l4]; omega)
    obtain ⟨A4, s1, s2, s3⟩ := takeBytes_s (v := d) r2 (by simp [l4]; omega)
    obtain ⟨S1, t1, t2, t3⟩ := takeBytes_s (v := e) s2 (by simp [l4]; omega)
    have f1 : fTc S S1 := fTc_tr p3 (fTc_tr q3 (fTc_tr r3 (fTc_tr s3 t3)))
    have m1 : tm S1 u := by
      unfold tm
      rw [f1.1 70 (by omega) (by omega), f1.1 75 (by omega) (by omega)]
      exact u4
    obtain ⟨B1, v1, v2, v3⟩ := mfour_s (v := a) m1 (by omega)
    obtain ⟨B2, w1, w2, w3⟩ := mfour_s (v := b) v2 (by simp [l4]; omega)
    obtain ⟨B3, x1, x2, x3⟩ := mfour_s (v := c) w2 (by simp [l4]; omega)
    obtain ⟨B4, y1, y2, y3⟩ := mfour_s (v := d) x2 (by simp [l4]; omega)
    obtain ⟨S2, z1, z2, z3⟩ := mfour_s (v := e) y2 (by simp [l4]; omega)
    have f2 : fTm S1 S2 := fTm_tr v3 (fTm_tr w3 (fTm_tr x3 (fTm_tr y3 z3)))
    have e3 : ∀ c, c ≠ 0 → c ≠ 1 → c ≠ 70 → c ≠ 75 → S2 c = S c := fun c h1 h2 h3 h4 => by rw [f2.1 c h3 h4, f1.1 c h1 h2]
    have e7 : ∀ i, i ≠ 5 → S2 70 i = S 70 i := fun i hi => by rw [f2.2 i hi, f1.1 70 (by omega) (by omega)]
    have r85 : ∀ q u, mR S2 q u = mR S q u := fun q u => by
      show S2 85 _ = S 85 _
      rw [e3 85 (by omega) (by omega) (by omega) (by omega)]
    refine ⟨(u.length : Int) + 20, S1, S2, ?_, ?_, T, lev, Y, ⟨iT_off hI (fun c hc => e3 c (by omega) (by omega) (by omega) (by omega)), hB, cY_off hc (fun c hc => e3 c (by omega) (by omega) (by omega) (by omega)), mY_off hm (fun c hc => e3 c (by omega) (by omega) (by omega) (by omega))⟩, hw, ⟨o, m, hA_off hH (e3 12 (by omega) (by omega) (by omega) (by omega)) (e7 31 (by omega)) (fun c _ _ => e3 c (by omega) (by omega) (by omega) (by omega)) (fun q _ u _ => r85 q u)⟩, hM_off hK (by rw [e3 12 (by omega) (by omega) (by omega) (by omega)]) (e3 86 (by omega) (by omega) (by omega) (by omega)) (fun c _ _ => e3 c (by omega) (by omega) (by omega) (by omega)) (fun q _ _ u _ => r85 q u), ⟨?_, ?_, ?_, ?_⟩, iF_off hF (e3 11 (by omega) (by omega) (by omega) (by omega)) (e3 47 (by omega) (by omega) (by omega) (by omega))⟩
    · rw [C_feed, u3.1, qk_r (by omega) (by omega), if_pos g, p1]
      simp only [ob_sn]
      rw [q1]
      simp only [ob_sn]
      rw [r1]
      simp only [ob_sn]
      rw [s1]
      simp only [ob_sn]
      rw [t1]
      simp only [ob_sn]
      rw [t2.1]
      congr 2
      simp [l4]
    · rw [M_feed, m1.1, qk_r (by omega) (by omega), if_pos g, v1]
      simp only [ob_sn]
      rw [w1]
      simp only [ob_sn]
      rw [x1]
      simp only [ob_sn]
      rw [y1]
      simp only [ob_sn]
      rw [z1]
      simp only [ob_sn]
      rw [z2.1]
      congr 2
      simp [l4]
    · unfold iN
      rw [e3 24 (by omega) (by omega) (by omega) (by omega), e3 74 (by omega) (by omega) (by omega) (by omega)]
      exact hN
    · unfold iW
      rw [e3 13 (by omega) (by omega) (by omega) (by omega), e7 41 (by omega), e3 69 (by omega) (by omega) (by omega) (by omega), e3 92 (by omega) (by omega) (by omega) (by omega)]
      exact hW
    · refine u_iP (u := u ++ by4 a ++ by4 b ++ by4 c ++ by4 d ++ by4 e) (by simp [l4]; omega) (fun x hx => ?_) ?_ z2
      · simp only [List.mem_append] at hx
        rcases hx with ((((q | q) | q) | q) | q) | q
        · exact u2 x q
        · exact by4_b _ x q
        · exact by4_b _ x q
        · exact by4_b _ x q
        · exact by4_b _ x q
        · exact by4_b _ x q
      · unfold tc
        rw [f2.1 0 (by omega) (by omega), f2.1 1 (by omega) (by omega)]
        exact t2
    · unfold iX
      rw [e3 4 (by omega) (by omega) (by omega) (by omega), e7 15 (by omega), e7 16 (by omega)]
      exact hX
  · refine ⟨-1, S, S, ?_, ?_, h⟩
    · rw [C_feed, u3.1, qk_r (by omega) (by omega), if_neg g]
    · rw [M_feed, u4.1, qk_r (by omega) (by omega), if_neg g]
