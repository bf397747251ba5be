/-! write: both write the same bytes -/
theorem bmod_s {v : Int} (h0 : 0 ≤ v) (h1 : v ≤ 127) : Int.bmod v 256 = v := by
  show (if v % ((256 : Nat) : Int) < (((256 : Nat) : Int) + 1) / 2 then v % ((256 : Nat) : Int) else v % ((256 : Nat) : Int) - ((256 : Nat) : Int)) = v
  rw [if_pos (by omega)]
  omega
/-- the bytes w are written: the class, the reference -/
def wr (S : qSto) (w : List Int) : Prop := S 13 1 = w.length ∧ ∀ i, i < w.length → S 69 i = w.getD i 0
def wm (S : qSto) (w : List Int) : Prop := S 70 41 = w.length ∧ ∀ i, i < w.length → S 92 i = w.getD i 0
def fW (S S' : qSto) : Prop := (∀ c, c ≠ 13 → c ≠ 69 → S' c = S c) ∧ ∀ i, i ≠ 1 → S' 13 i = S 13 i
def fX (S S' : qSto) : Prop := (∀ c, c ≠ 70 → c ≠ 92 → S' c = S c) ∧ ∀ i, i ≠ 41 → S' 70 i = S 70 i
theorem fW_rfl {S : qSto} : fW S S := ⟨fun _ _ _ => rfl, fun _ _ => rfl⟩
theorem fX_rfl {S : qSto} : fX S S := ⟨fun _ _ _ => rfl, fun _ _ => rfl⟩
theorem fW_tr {S S1 S2 : qSto} (h1 : fW S S1) (h2 : fW S1 S2) : fW S S2 := ⟨fun c a b => (h2.1 c a b).trans (h1.1 c a b), fun i a => (h2.2 i a).trans (h1.2 i a)⟩
theorem fX_tr {S S1 S2 : qSto} (h1 : fX S S1) (h2 : fX S1 S2) : fX S S2 := ⟨fun c a b => (h2.1 c a b).trans (h1.1 c a b), fun i a => (h2.2 i a).trans (h1.2 i a)⟩
theorem getD_app {w : List Int} {v : Int} {i : Nat} (h : i < w.length) : (w ++ [v]).getD i 0 = w.getD i 0 := by
  rw [List.getD_eq_getElem?_getD, List.getElem?_append_left h, ← List.getD_eq_getElem?_getD]
theorem getD_end {w : List Int} {v : Int} : (w ++ [v]).getD w.length 0 = v := by
  rw [List.getD_eq_getElem?_getD, List.getElem?_append_right (Nat.le_refl _)]
  simp
theorem add_s {S : qSto} {w : List Int} {v : Int} (h : wr S w) (hw : w.length < 266) (h0 : 0 ≤ v) (h1 : v ≤ 127) : ∃ S', Written_add v S = some S' ∧ wr S' (w ++ [v]) ∧ fW S S' := by
  have e1 : (qup S 69 w.length v) 13 1 = w.length := by rw [qup_off (by omega), h.1]
  refine ⟨qup (qup S 69 w.length v) 13 1 ((w.length : Int) + 1), ?_, ⟨?_, fun i hi => ?_⟩, fun c h1 h2 => ?_, fun i hi => ?_⟩
  · rw [Written_add, h.1, qk_r (by omega) (by omega), if_neg (by omega), qk_ix (by omega) (by omega), bmod_s h0 h1, qk_b (by omega) (by omega), Int.toNat_natCast, e1]
  · rw [qup_on, if_pos rfl]
    simp
  · have hi' : i < w.length + 1 := by simpa using hi
    rw [qup_off (by omega), qup_on]
    by_cases g : i = w.length
    · rw [if_pos g, g, getD_end]
    · rw [if_neg g, getD_app (by omega)]
      exact h.2 i (by omega)
  · rw [qup_off h1, qup_off h2]
  · rw [qup_on, if_neg hi, qup_off (by omega)]
theorem writes_s {S : qSto} {w : List Int} {v : Int} (h : wm S w) (hw : w.length < 300) : ∃ S', M_writes v S = some S' ∧ wm S' (w ++ [v]) ∧ fX S S' := by
  have e1 : (qup S 92 w.length v) 70 41 = w.length := by rw [qup_off (by omega), h.1]
  refine ⟨qup (qup S 92 w.length v) 70 41 ((w.length : Int) + 1), ?_, ⟨?_, fun i hi => ?_⟩, fun c h1 h2 => ?_, fun i hi => ?_⟩
  · rw [M_writes, h.1, qk_ix (by omega) (by omega), Int.toNat_natCast, e1]
  · rw [qup_on, if_pos rfl]
    simp
  · have hi' : i < w.length + 1 := by simpa using hi
    rw [qup_off (by omega), qup_on]
    by_cases g : i = w.length
    · rw [if_pos g, g, getD_end]
    · rw [if_neg g, getD_app (by omega)]
      exact h.2 i (by omega)
  · rw [qup_off h1, qup_off h2]
  · rw [qup_on, if_neg hi, qup_off (by omega)]
/-- a number's digits -/
def nmb (v : Int) : List Int := (if v < 100 then [] else [48 + v.tdiv 100]) ++ ((if v < 10 then [] else [48 + (v.tdiv 10).tmod 10]) ++ [48 + v.tmod 10])
theorem nmb_len {v : Int} : (nmb v).length ≤ 3 := by
  unfold nmb
  split <;> split <;> simp
theorem nmb_1 {v : Int} (h : v < 10) : (nmb v).length = 1 := by
  unfold nmb
  rw [if_pos (by omega), if_pos h]
  rfl
theorem nmb_l {v : Int} : (nmb v).length = (if v < 100 then 0 else 1) + ((if v < 10 then 0 else 1) + 1) := by
  unfold nmb
  split <;> split <;> rfl
theorem addNumber_s {S : qSto} {w : List Int} {v : Int} (h : wr S w) (hv : 0 ≤ v ∧ v ≤ 999) (hw : w.length + (1 + (nmb v).length) ≤ 266) : ∃ S', Written_addNumber v S = some S' ∧ wr S' (w ++ (32 :: nmb v)) ∧ fW S S' := by
  have d1 : 0 ≤ v.tdiv 100 ∧ v.tdiv 100 ≤ 9 := by rw [Int.tdiv_eq_ediv_of_nonneg (by omega)]; omega
  have d2 : 0 ≤ v.tdiv 10 ∧ v.tdiv 10 ≤ 99 := by rw [Int.tdiv_eq_ediv_of_nonneg (by omega)]; omega
  have d3 : 0 ≤ (v.tdiv 10).tmod 10 ∧ (v.tdiv 10).tmod 10 ≤ 9 := by rw [Int.tmod_eq_emod_of_nonneg (by omega)]; omega
  have d4 : 0 ≤ v.tmod 10 ∧ v.tmod 10 ≤ 9 := by rw [Int.tmod_eq_emod_of_nonneg (by omega)]; omega
  rw [nmb_l] at hw
  obtain ⟨S1, t1, t2, t3⟩ := add_s (v := 32) h (by omega) (by omega) (by omega)
  have e2 : ∃ S2, (qk (qRb v) (if v < 100 then some S1 else (qk (qRb v) (Option.bind (Written_add (48 + (Int.tdiv v 100)) S1) (fun q1954 => some q1954)))) : Option qSto) = some S2 ∧ wr S2 (w ++ [32] ++ (if v < 100 then [] else [48 + v.tdiv 100])) ∧ fW S S2 := by
    rw [qk_r (by omega) (by omega), qk_r (by omega) (by omega)]
    by_cases g : v < 100
    · rw [if_pos g, if_pos g, List.append_nil]
      exact ⟨S1, rfl, t2, t3⟩
    · rw [if_neg g, if_neg g]
      rw [if_neg g] at hw
      obtain ⟨S2, u1, u2, u3⟩ := add_s (v := 48 + v.tdiv 100) t2 (by simp; omega) (by omega) (by omega)
      rw [u1]
      exact ⟨S2, rfl, u2, fW_tr t3 u3⟩
  obtain ⟨S2, u1, u2, u3⟩ := e2
  have l2 : (w ++ [32] ++ (if v < 100 then [] else [48 + v.tdiv 100])).length = w.length + 1 + (if v < 100 then 0 else 1) := by
    split <;> simp
  have e3 : ∃ S3, (qk (qRb v) (if v < 10 then some S2 else (qk (qRb v) (qk (qRb (Int.tdiv v 10)) (Option.bind (Written_add (48 + (Int.tmod (Int.tdiv v 10) 10)) S2) (fun q1960 => some q1960))))) : Option qSto) = some S3 ∧ wr S3 (w ++ [32] ++ (if v < 100 then [] else [48 + v.tdiv 100]) ++ (if v < 10 then [] else [48 + (v.tdiv 10).tmod 10])) ∧ fW S S3 := by
    rw [qk_r (by omega) (by omega), qk_r (by omega) (by omega), qk_r (by omega) (by omega)]
    by_cases g : v < 10
    · rw [if_pos g, if_pos g, List.append_nil]
      exact ⟨S2, rfl, u2, u3⟩
    · rw [if_neg g, if_neg g]
      rw [if_neg g] at hw
      obtain ⟨S3, v1, v2, v3⟩ := add_s (v := 48 + (v.tdiv 10).tmod 10) u2 (by omega) (by omega) (by omega)
      rw [v1]
      exact ⟨S3, rfl, v2, fW_tr u3 v3⟩
  obtain ⟨S3, v1, v2, v3⟩ := e3
  have l3 : (w ++ [32] ++ (if v < 100 then [] else [48 + v.tdiv 100]) ++ (if v < 10 then [] else [48 + (v.tdiv 10).tmod 10])).length = w.length + 1 + (if v < 100 then 0 else 1) + (if v < 10 then 0 else 1) := by
    rw [List.length_append, l2]
    congr 1
    split <;> rfl
  obtain ⟨S4, x1, x2, x3⟩ := add_s (v := 48 + v.tmod 10) v2 (by omega) (by omega) (by omega)
  refine ⟨S4, ?_, ?_, fW_tr v3 x3⟩
  · rw [Written_addNumber, t1]
    simp only [ob_sn]
    rw [u1]
    simp only [ob_sn]
    rw [v1]
    simp only [ob_sn]
    rw [qk_r (by omega) (by omega), x1]
    rfl
  · have e : w ++ (32 :: nmb v) = w ++ [32] ++ (if v < 100 then [] else [48 + v.tdiv 100]) ++ (if v < 10 then [] else [48 + (v.tdiv 10).tmod 10]) ++ [48 + v.tmod 10] := by
      unfold nmb
      simp
    rw [e]
    exact x2
theorem by_e {S : qSto} {v b : Int} {f : Nat} (hf : 0 < f) (hv : qR v) (hb : 1 ≤ b ∧ b ≤ 1000) (hd : qR (v.tdiv b)) : M_writesNumber_L8 f v b S = if v.tdiv b ≤ 9 then some (b, S) else M_writesNumber_L8 (f - 1) v (10 * b) S := by
  cases f with
  | zero => omega
  | succ n =>
    rw [M_writesNumber_L8, qk_r hv.1 hv.2, qk_r (by omega) (by omega), qk_nz (by omega), qk_r hd.1 hd.2]
    rfl
theorem dig_e {S : qSto} {w : List Int} {v b : Int} {f : Nat} (hf : 0 < f) (hv : qR v) (hb : 1 ≤ b ∧ b ≤ 1000) (hd : qR (v.tdiv b)) (h : wm S w) (hw : w.length < 300) : ∃ S', M_writesNumber_L24 f v b S = M_writesNumber_L24 (f - 1) v (b.tdiv 10) S' ∧ wm S' (w ++ [48 + (v.tdiv b).tmod 10]) ∧ fX S S' := by
  cases f with
  | zero => omega
  | succ n =>
    obtain ⟨S', t1, t2, t3⟩ := writes_s (v := 48 + (v.tdiv b).tmod 10) h hw
    refine ⟨S', ?_, t2, t3⟩
    rw [M_writesNumber_L24, qk_r (by omega) (by omega), if_neg (by omega), qk_r hv.1 hv.2, qk_r (by omega) (by omega), qk_nz (by omega), qk_r hd.1 hd.2, t1]
    simp only [ob_sn]
    rw [qk_r (by omega) (by omega)]
    rfl
theorem dig_n {S : qSto} {v : Int} {f : Nat} (hf : 0 < f) : M_writesNumber_L24 f v 0 S = some S := by
  cases f with
  | zero => omega
  | succ n => rw [M_writesNumber_L24, qk_r (by omega) (by omega), if_pos (by omega)]
theorem writesNumber_s {S : qSto} {w : List Int} {v : Int} (h : wm S w) (hv : 0 ≤ v ∧ v ≤ 999) (hw : w.length + 4 ≤ 300) : ∃ S', M_writesNumber v S = some S' ∧ wm S' (w ++ (32 :: nmb v)) ∧ fX S S' := by
  have vR : qR v := ⟨by omega, by omega⟩
  have d0 : v.tdiv 1 = v := Int.tdiv_one v
  have d1 : 0 ≤ v.tdiv 100 ∧ v.tdiv 100 ≤ 9 := by rw [Int.tdiv_eq_ediv_of_nonneg (by omega)]; omega
  have d2 : 0 ≤ v.tdiv 10 ∧ v.tdiv 10 ≤ 99 ∧ (v.tdiv 10 ≤ 9 ↔ v < 100) := by rw [Int.tdiv_eq_ediv_of_nonneg (by omega)]; omega
  have m1 : (v.tdiv 100).tmod 10 = v.tdiv 100 := Int.tmod_eq_of_lt d1.1 (by omega)
  have t10 : Int.tdiv 10 10 = 1 := rfl
  have t1 : Int.tdiv 1 10 = 0 := rfl
  have t100 : Int.tdiv 100 10 = 10 := rfl
  obtain ⟨S1, a1, a2, a3⟩ := writes_s (v := 32) h (by omega)
  have F : 0 < qF ∧ 0 < qF - 1 ∧ 0 < qF - 1 - 1 ∧ 0 < qF - 1 - 1 - 1 := by unfold qF; omega
  rw [M_writesNumber, a1]
  simp only [ob_sn]
  rw [by_e F.1 vR (by omega) (by rw [d0]; exact vR), d0]
  by_cases g : v ≤ 9
  · rw [if_pos g]
    simp only [ob_sn]
    obtain ⟨S2, b1, b2, b3⟩ := dig_e (b := 1) F.1 vR (by omega) (by rw [d0]; exact vR) a2 (by simp; omega)
    rw [b1, t1, dig_n F.2.1]
    refine ⟨S2, rfl, ?_, fX_tr a3 b3⟩
    have e : w ++ (32 :: nmb v) = w ++ [32] ++ [48 + (v.tdiv 1).tmod 10] := by
      unfold nmb
      rw [if_pos (by omega), if_pos (by omega), d0]
      simp
    rw [e]
    exact b2
  · have e10 : (10 : Int) * 1 = 10 := rfl
    rw [if_neg g, e10, by_e F.2.1 vR (by omega) ⟨by omega, by omega⟩]
    by_cases g2 : v < 100
    · rw [if_pos (d2.2.2.mpr g2)]
      simp only [ob_sn]
      obtain ⟨S2, b1, b2, b3⟩ := dig_e (b := 10) F.1 vR (by omega) ⟨by omega, by omega⟩ a2 (by simp; omega)
      obtain ⟨S3, c1, c2, c3⟩ := dig_e (b := 1) F.2.1 vR (by omega) (by rw [d0]; exact vR) b2 (by simp; omega)
      rw [b1, t10, c1, t1, dig_n F.2.2.1]
      refine ⟨S3, rfl, ?_, fX_tr a3 (fX_tr b3 c3)⟩
      have e : w ++ (32 :: nmb v) = w ++ [32] ++ [48 + (v.tdiv 10).tmod 10] ++ [48 + (v.tdiv 1).tmod 10] := by
        unfold nmb
        rw [if_pos g2, if_neg (by omega), d0]
        simp
      rw [e]
      exact c2
    · have e100 : (10 : Int) * 10 = 100 := rfl
      rw [if_neg (by omega), e100, by_e F.2.2.1 vR (by omega) ⟨by omega, by omega⟩, if_pos d1.2]
      simp only [ob_sn]
      obtain ⟨S2, b1, b2, b3⟩ := dig_e (b := 100) F.1 vR (by omega) ⟨by omega, by omega⟩ a2 (by simp; omega)
      obtain ⟨S3, c1, c2, c3⟩ := dig_e (b := 10) F.2.1 vR (by omega) ⟨by omega, by omega⟩ b2 (by simp; omega)
      obtain ⟨S4, x1, x2, x3⟩ := dig_e (b := 1) F.2.2.1 vR (by omega) (by rw [d0]; exact vR) c2 (by simp; omega)
      rw [b1, t100, c1, t10, x1, t1, dig_n F.2.2.2]
      refine ⟨S4, rfl, ?_, fX_tr a3 (fX_tr b3 (fX_tr c3 x3))⟩
      have e : w ++ (32 :: nmb v) = w ++ [32] ++ [48 + (v.tdiv 100).tmod 10] ++ [48 + (v.tdiv 10).tmod 10] ++ [48 + (v.tdiv 1).tmod 10] := by
        unfold nmb
        rw [if_neg g2, if_neg (by omega), d0, m1]
        simp
      rw [e]
      exact x2
section PWR
variable {T lev : Nat → Int} {Y : qY}
/-- a name's letters -/
def nmS (N : Nat → Int) (s i j : Nat) : List Int := (List.range' i j).map (fun u => N (8 * s + u))
theorem nmS_s {N : Nat → Int} {s i j : Nat} : nmS N s i (j + 1) = N (8 * s + i) :: nmS N s (i + 1) j := by
  unfold nmS
  rw [List.range'_succ, List.map_cons]
theorem nmS_len {N : Nat → Int} {s i j : Nat} : (nmS N s i j).length = j := by
  unfold nmS
  simp
theorem nameC_L {N : Nat → Int} {s n : Nat} (hs : s < 14) (hn : n ≤ 8) (hf : ∀ i, i < n → 97 ≤ N (8 * s + i) ∧ N (8 * s + i) ≤ 122) (hz : ∀ i, n ≤ i → i < 8 → N (8 * s + i) = 0) : ∀ (j f i : Nat) (w : List Int) (S : qSto), i + j = n → j < f → w.length + j ≤ 266 → S 24 = N → wr S w → ∃ S', C_write_L34 f (s : Int) (i : Int) S = some S' ∧ wr S' (w ++ nmS N s i j) ∧ fW S S'
  | 0, f + 1, i, w, S, e, _, hw, h24, h => by
    have en : nmS N s i 0 = [] := rfl
    rw [en, List.append_nil, C_write_L34, qk_r (by omega) (by omega)]
    by_cases g : (8 : Int) ≤ (i : Int)
    · rw [if_pos g]
      exact ⟨S, rfl, h, fW_rfl⟩
    · rw [if_neg g, nameByte_s hs (by omega), h24, hz i (by omega) (by omega)]
      exact ⟨S, rfl, h, fW_rfl⟩
  | j + 1, f + 1, i, w, S, e, hj, hw, h24, h => by
    have b := hf i (by omega)
    obtain ⟨S1, t1, t2, t3⟩ := add_s (v := N (8 * s + i)) h (by omega) (by omega) (by omega)
    obtain ⟨S', u1, u2, u3⟩ := nameC_L hs hn hf hz j f (i + 1) (w ++ [N (8 * s + i)]) S1 (by omega) (by omega) (by simp; omega) ((t3.1 24 (by omega) (by omega)).trans h24) t2
    refine ⟨S', ?_, ?_, fW_tr t3 u3⟩
    · rw [C_write_L34, qk_r (by omega) (by omega), if_neg (by omega), nameByte_s hs (by omega), h24]
      simp only [ob_sn]
      rw [qk_r (by omega) (by omega), if_neg (by omega), nameByte_s hs (by omega), h24]
      simp only [ob_sn]
      rw [t1]
      simp only [ob_sn]
      exact u1
    · rw [nmS_s]
      have e2 : w ++ N (8 * s + i) :: nmS N s (i + 1) j = w ++ [N (8 * s + i)] ++ nmS N s (i + 1) j := by simp
      rw [e2]
      exact u2
theorem fX_iT {S S1 : qSto} (h : iT S T lev) (f : fX S S1) : iT S1 T lev := iT_off h (fun c hc => f.1 c (by omega) (by omega))
theorem fW_iT {S S1 : qSto} (h : iT S T lev) (f : fW S S1) : iT S1 T lev := iT_off h (fun c hc => f.1 c (by omega) (by omega))
theorem nameM_L {N : Nat → Int} {s n : Nat} (hs : (s : Int) < T 9) (hn : n ≤ 8) (hf : ∀ i, i < n → 97 ≤ N (8 * s + i) ∧ N (8 * s + i) ≤ 122) : ∀ (j f i : Nat) (w : List Int) (S : qSto), i + j = n → j < f → w.length + j ≤ 300 → iT S T lev → iN S T → S 24 = N → S 74 s = nmW (fun i => N (8 * s + i)) n → wm S w → ∃ S', M_writesName_L2 f (s : Int) (i : Int) S = some S' ∧ wm S' (w ++ nmS N s i j) ∧ fX S S'
  | 0, f + 1, i, w, S, e, _, hw, hI, hN, h24, h74, h => by
    have b9 := bT_n hI.1
    have en : nmS N s i 0 = [] := rfl
    have el := lettersOf_s (S := S) (s := s) (by omega) hn hf h74
    rw [en, List.append_nil, M_writesName_L2, el]
    simp only [ob_sn]
    rw [qk_r (by omega) (by omega), qk_r (by omega) (by omega), if_pos (by omega)]
    exact ⟨S, rfl, h, fX_rfl⟩
  | j + 1, f + 1, i, w, S, e, hj, hw, hI, hN, h24, h74, h => by
    have b9 := bT_n hI.1
    have b := hf i (by omega)
    have el := lettersOf_s (S := S) (s := s) (by omega) hn hf h74
    have lt := letter_s hI hN hs (i := i) (by omega)
    rw [h24, if_neg (by omega)] at lt
    have e96 : 96 + (N (8 * s + i) - 96) = N (8 * s + i) := by omega
    obtain ⟨S1, t1, t2, t3⟩ := writes_s (v := N (8 * s + i)) h (by omega)
    have hN1 : iN S1 T := by
      unfold iN
      rw [t3.1 24 (by omega) (by omega), t3.1 74 (by omega) (by omega)]
      exact hN
    obtain ⟨S', u1, u2, u3⟩ := nameM_L hs hn hf j f (i + 1) (w ++ [N (8 * s + i)]) S1 (by omega) (by omega) (by simp; omega) (fX_iT hI t3) hN1 ((t3.1 24 (by omega) (by omega)).trans h24) (by rw [t3.1 74 (by omega) (by omega)]; exact h74) t2
    refine ⟨S', ?_, ?_, fX_tr t3 u3⟩
    · rw [M_writesName_L2, el]
      simp only [ob_sn]
      rw [qk_r (by omega) (by omega), qk_r (by omega) (by omega), if_neg (by omega), lt]
      simp only [ob_sn]
      rw [e96, t1]
      simp only [ob_sn]
      exact u1
    · rw [nmS_s]
      have e2 : w ++ N (8 * s + i) :: nmS N s (i + 1) j = w ++ [N (8 * s + i)] ++ nmS N s (i + 1) j := by simp
      rw [e2]
      exact u2
/-- what is written of one ship -/
def oneW (N : Nat → Int) (Y : qY) (s n : Nat) : List Int := nmS N s 0 n ++ ((32 :: nmb (Y.1 s)) ++ ((32 :: nmb (Y.2.1 s)) ++ ((32 :: nmb (Y.2.2 s)) ++ [59])))
theorem b127 {v : Int} (h : 0 ≤ v ∧ v ≤ 999) : ∀ x ∈ nmb v, 0 ≤ x ∧ x ≤ 127 := by
  have d1 : 0 ≤ v.tdiv 100 ∧ v.tdiv 100 ≤ 9 := by rw [Int.tdiv_eq_ediv_of_nonneg (by omega)]; omega
  have d2 : 0 ≤ v.tdiv 10 ∧ v.tdiv 10 ≤ 99 := by rw [Int.tdiv_eq_ediv_of_nonneg (by omega)]; omega
  have d3 : 0 ≤ (v.tdiv 10).tmod 10 ∧ (v.tdiv 10).tmod 10 ≤ 9 := by rw [Int.tmod_eq_emod_of_nonneg (by omega)]; omega
  have d4 : 0 ≤ v.tmod 10 ∧ v.tmod 10 ≤ 9 := by rw [Int.tmod_eq_emod_of_nonneg (by omega)]; omega
  intro x hx
  unfold nmb at hx
  rcases List.mem_append.mp hx with q | q
  · split at q
    · exact absurd q List.not_mem_nil
    · have := List.mem_singleton.mp q
      omega
  · rcases List.mem_append.mp q with r | r
    · split at r
      · exact absurd r List.not_mem_nil
      · have := List.mem_singleton.mp r
        omega
    · have := List.mem_singleton.mp r
      omega
theorem oneW_b {N : Nat → Int} {s n : Nat} (hn : n ≤ 8) (hf : ∀ i, i < n → 97 ≤ N (8 * s + i) ∧ N (8 * s + i) ≤ 122) (hx : 0 ≤ Y.1 s ∧ Y.1 s ≤ 999) (ht : 0 ≤ Y.2.1 s ∧ Y.2.1 s ≤ 999) (hk : 0 ≤ Y.2.2 s ∧ Y.2.2 s ≤ 8) : (oneW N Y s n).length ≤ 19 ∧ ∀ x ∈ oneW N Y s n, 0 ≤ x ∧ x ≤ 127 := by
  have l1 := nmb_len (v := Y.1 s)
  have l2 := nmb_len (v := Y.2.1 s)
  have l3 := nmb_1 (v := Y.2.2 s) (by omega)
  refine ⟨?_, fun x hx' => ?_⟩
  · unfold oneW
    simp only [List.length_append, nmS_len, List.length_cons, List.length_nil]
    omega
  · unfold oneW at hx'
    have c32 : ∀ x v, (0 ≤ v ∧ v ≤ 999) → x ∈ 32 :: nmb v → 0 ≤ x ∧ x ≤ 127 := fun x v hv h => by
      rcases List.mem_cons.mp h with q | q
      · omega
      · exact b127 hv x q
    rcases List.mem_append.mp hx' with q | q
    · unfold nmS at q
      obtain ⟨u, hu, rfl⟩ := List.mem_map.mp q
      have hu' := (List.mem_range'_1.mp hu)
      have := hf u (by omega)
      omega
    · rcases List.mem_append.mp q with r | r
      · exact c32 x _ hx r
      · rcases List.mem_append.mp r with z | z
        · exact c32 x _ ht z
        · rcases List.mem_append.mp z with y | y
          · exact c32 x _ (by omega) y
          · have := List.mem_singleton.mp y
            omega
theorem write_L {N : Nat → Int} {W : Nat → Int} (hT : bT T) (hB : bY T lev Y) (hNW : ∀ s : Nat, (s : Int) < T 9 → nmOk (fun i => N (8 * s + i)) (W s)) : ∀ (j f i : Nat) (w : List Int), (i : Int) + j = T 9 → j < f → w.length ≤ 19 * i → (∀ x ∈ w, 0 ≤ x ∧ x ≤ 127) → ∃ w' : List Int, w'.length ≤ 266 ∧ (∀ x ∈ w', 0 ≤ x ∧ x ≤ 127) ∧ (∀ S, iT S T lev → cY S T lev Y → S 24 = N → wr S w → ∃ S', C_write_L10 f (i : Int) S = some S' ∧ wr S' w' ∧ fW S S') ∧ (∀ S, iT S T lev → mY S T lev Y → S 24 = N → S 74 = W → wm S w → ∃ S', M_write_L7 f (i : Int) S = some S' ∧ wm S' w' ∧ fX S S')
  | 0, f + 1, i, w, e, _, hw, hb => by
    have b9 := bT_n hT
    refine ⟨w, by omega, hb, fun S hI hc h24 h => ⟨S, ?_, h, fW_rfl⟩, fun S hI hm h24 h74 h => ⟨S, ?_, h, fX_rfl⟩⟩
    · have e1 := hI.2.1.2.2.2.2.1
      rw [C_write_L10]
      simp (disch := omega) only [qk_r, e1, if_pos (show T 9 ≤ (i : Int) by omega)]
    · have e2 := hI.2.2.1 9
      rw [M_write_L7]
      simp (disch := omega) only [qk_r, e2, if_pos (show T 9 ≤ (i : Int) by omega)]
  | j + 1, f + 1, i, w, e, hj, hw, hb => by
    have b9 := bT_n hT
    have hs : (i : Int) < T 9 := by omega
    by_cases g : 0 < Y.2.2 i
    · have o := bY_one hT hB hs g
      obtain ⟨n, ⟨n1, n8⟩, hf, hz, hW⟩ := hNW i hs
      obtain ⟨ol, ob⟩ := oneW_b (N := N) (Y := Y) (s := i) n8 hf (by omega) (by omega) (by omega)
      obtain ⟨w', a1, a2, a3, a4⟩ := write_L hT hB hNW j f (i + 1) (w ++ oneW N Y i n) (by omega) (by omega) (by simp; omega) (fun x hx => by
        rcases List.mem_append.mp hx with q | q
        · exact hb x q
        · exact ob x q)
      have l1 := nmb_len (v := Y.1 i)
      have l2 := nmb_len (v := Y.2.1 i)
      have l3 := nmb_1 (v := Y.2.2 i) (by omega)
      have ew : w ++ oneW N Y i n = w ++ nmS N i 0 n ++ (32 :: nmb (Y.1 i)) ++ (32 :: nmb (Y.2.1 i)) ++ (32 :: nmb (Y.2.2 i)) ++ [59] := by
        unfold oneW
        simp
      refine ⟨w', a1, a2, fun S hI hc h24 h => ?_, fun S hI hm h24 h74 h => ?_⟩
      · have e1 := hI.2.1.2.2.2.2.1
        obtain ⟨d1, -, d3, -, -⟩ := hc.2.1 i hs g
        have d0 := hc.1 i (by omega)
        obtain ⟨S1, t1, t2, t3⟩ := nameC_L (N := N) (s := i) (by omega) n8 hf hz n qF 0 w S (by omega) (by unfold qF; omega) (by omega) h24 h
        have t1' : C_write_L34 qF (i : Int) 0 S = some S1 := t1
        obtain ⟨S2, u1, u2, u3⟩ := addNumber_s (v := Y.1 i) t2 (by omega) (by simp [nmS_len]; omega)
        obtain ⟨S3, v1, v2, v3⟩ := addNumber_s (v := Y.2.1 i) u2 (by omega) (by simp [nmS_len]; omega)
        obtain ⟨S4, x1, x2, x3⟩ := addNumber_s (v := Y.2.2 i) v2 (by omega) (by simp [nmS_len]; omega)
        obtain ⟨S5, y1, y2, y3⟩ := add_s (v := 59) x2 (by simp [nmS_len]; omega) (by omega) (by omega)
        rw [← ew] at y2
        have f5 : fW S S5 := fW_tr t3 (fW_tr u3 (fW_tr v3 (fW_tr x3 y3)))
        obtain ⟨S', z1, z2, z3⟩ := a3 S5 (fW_iT hI f5) (cY_off hc (fun c hc => f5.1 c (by omega) (by omega))) ((f5.1 24 (by omega) (by omega)).trans h24) y2
        refine ⟨S', ?_, z2, fW_tr f5 z3⟩
        have p37 : S1 37 i = Y.1 i := by rw [t3.1 37 (by omega) (by omega), d1]
        have p39 : S2 39 i = Y.2.1 i := by rw [u3.1 39 (by omega) (by omega), t3.1 39 (by omega) (by omega), d3]
        have p40 : S3 40 i = Y.2.2 i := by rw [v3.1 40 (by omega) (by omega), u3.1 40 (by omega) (by omega), t3.1 40 (by omega) (by omega), d0]
        rw [C_write_L10, qk_r (by omega) (by omega), e1, qk_r (by omega) (by omega), if_neg (by omega), Stays_has_s hB hc hT (s := i) (by omega), if_pos g]
        simp only [ob_sn]
        rw [qk_r (by omega) (by omega), if_neg (by omega), t1']
        simp only [ob_sn]
        rw [qk_ix (by omega) (by omega), Int.toNat_natCast, p37, u1]
        simp only [ob_sn]
        rw [qk_ix (by omega) (by omega), p39, v1]
        simp only [ob_sn]
        rw [qk_ix (by omega) (by omega), p40, x1]
        simp only [ob_sn]
        rw [y1]
        simp only [ob_sn]
        exact z1
      · have e2 := hI.2.2.1 9
        obtain ⟨d1, d3, -, -⟩ := hm.2.1 i hs g
        have d0 := hm.1 i (by omega)
        have hN : iN S T := by
          unfold iN
          rw [h24, h74]
          exact hNW
        obtain ⟨S1, t1, t2, t3⟩ := nameM_L (N := N) (s := i) hs n8 hf n qF 0 w S (by omega) (by unfold qF; omega) (by omega) hI hN h24 (by rw [h74]; exact hW) h
        have t1' : M_writesName_L2 qF (i : Int) 0 S = some S1 := t1
        obtain ⟨S2, u1, u2, u3⟩ := writesNumber_s (v := Y.1 i) t2 (by omega) (by simp [nmS_len]; omega)
        obtain ⟨S3, v1, v2, v3⟩ := writesNumber_s (v := Y.2.1 i) u2 (by omega) (by simp [nmS_len]; omega)
        obtain ⟨S4, x1, x2, x3⟩ := writesNumber_s (v := Y.2.2 i) v2 (by omega) (by simp [nmS_len]; omega)
        obtain ⟨S5, y1, y2, y3⟩ := writes_s (v := 59) x2 (by simp [nmS_len]; omega)
        rw [← ew] at y2
        have f5 : fX S S5 := fX_tr t3 (fX_tr u3 (fX_tr v3 (fX_tr x3 y3)))
        obtain ⟨S', z1, z2, z3⟩ := a4 S5 (fX_iT hI f5) (mY_off hm (fun c hc => f5.1 c (by omega) (by omega))) ((f5.1 24 (by omega) (by omega)).trans h24) ((f5.1 74 (by omega) (by omega)).trans h74) y2
        refine ⟨S', ?_, z2, fX_tr f5 z3⟩
        have p78 : S1 78 i = Y.1 i := by rw [t3.1 78 (by omega) (by omega), d1]
        have p79 : S2 79 i = Y.2.1 i := by rw [u3.1 79 (by omega) (by omega), t3.1 79 (by omega) (by omega), d3]
        have p80 : S3 80 i = Y.2.2 i := by rw [v3.1 80 (by omega) (by omega), u3.1 80 (by omega) (by omega), t3.1 80 (by omega) (by omega), d0]
        rw [M_write_L7, qk_r (by omega) (by omega), e2, qk_r (by omega) (by omega), if_neg (by omega), M_stays_s hB hm hT (s := i) (by omega), if_pos g]
        simp only [ob_sn]
        rw [qk_r (by omega) (by omega), if_neg (by omega), M_writesName, t1']
        simp only [ob_sn]
        rw [qk_ix (by omega) (by omega), Int.toNat_natCast, p78, u1]
        simp only [ob_sn]
        rw [qk_ix (by omega) (by omega), p79, v1]
        simp only [ob_sn]
        rw [qk_ix (by omega) (by omega), p80, x1]
        simp only [ob_sn]
        rw [y1]
        simp only [ob_sn]
        exact z1
    · obtain ⟨w', a1, a2, a3, a4⟩ := write_L hT hB hNW j f (i + 1) w (by omega) (by omega) (by omega) hb
      refine ⟨w', a1, a2, fun S hI hc h24 h => ?_, fun S hI hm h24 h74 h => ?_⟩
      · have e1 := hI.2.1.2.2.2.2.1
        obtain ⟨S', z1, z2, z3⟩ := a3 S hI hc h24 h
        refine ⟨S', ?_, z2, z3⟩
        rw [C_write_L10, qk_r (by omega) (by omega), e1, qk_r (by omega) (by omega), if_neg (by omega), Stays_has_s hB hc hT (s := i) (by omega), if_neg g]
        simp only [ob_sn]
        rw [qk_r (by omega) (by omega), if_pos trivial]
        simp only [ob_sn]
        exact z1
      · have e2 := hI.2.2.1 9
        obtain ⟨S', z1, z2, z3⟩ := a4 S hI hm h24 h74 h
        refine ⟨S', ?_, z2, z3⟩
        rw [M_write_L7, qk_r (by omega) (by omega), e2, qk_r (by omega) (by omega), if_neg (by omega), M_stays_s hB hm hT (s := i) (by omega), if_neg g]
        simp only [ob_sn]
        rw [qk_r (by omega) (by omega), if_pos trivial]
        simp only [ob_sn]
        exact z1
theorem g_write : gOK C_write M_write := fun S h => by
  obtain ⟨T, lev, Y, hA', hw, ⟨o, m, hH⟩, hK, hR, hF⟩ := id h
  obtain ⟨hI, hB, hc, hm⟩ := id hA'
  obtain ⟨hN, -, hP, hX⟩ := hR
  have b9 := bT_n hI.1
  obtain ⟨w', a1, a2, a3, a4⟩ := write_L (N := S 24) (W := S 74) hI.1 hB hN (sN T) qF 0 [] (by unfold sN; omega) (by unfold qF sN; omega) (by simp) (fun x hx => absurd hx List.not_mem_nil)
  have o1 : ∀ c, c ≠ 13 → (qup S 13 1 0) c = S c := fun c hc => qup_off hc
  obtain ⟨S1, t1, t2, t3⟩ := a3 (qup S 13 1 0) (iT_off hI (fun c hc => o1 c (by omega))) (cY_off hc (fun c hc => o1 c (by omega))) (o1 24 (by omega)) ⟨by rw [qup_on, if_pos rfl]; rfl, fun i hi => absurd hi (by simp)⟩
  have t1' : C_write_L10 qF 0 (qup S 13 1 0) = some S1 := t1
  have e1 : ∀ c, c ≠ 13 → c ≠ 69 → S1 c = S c := fun c h1 h2 => by rw [t3.1 c h1 h2, o1 c h1]
  have o2 : ∀ c, c ≠ 70 → (qup S1 70 41 0) c = S1 c := fun c hc => qup_off hc
  obtain ⟨S2, u1, u2, u3⟩ := a4 (qup S1 70 41 0) (iT_off hI (fun c hc => by rw [o2 c (by omega), e1 c (by omega) (by omega)])) (mY_off hm (fun c hc => by rw [o2 c (by omega), e1 c (by omega) (by omega)])) (by rw [o2 24 (by omega), e1 24 (by omega) (by omega)]) (by rw [o2 74 (by omega), e1 74 (by omega) (by omega)]) ⟨by rw [qup_on, if_pos rfl]; rfl, fun i hi => absurd hi (by simp)⟩
  have u1' : M_write_L7 qF 0 (qup S1 70 41 0) = some S2 := u1
  have e2 : ∀ c, c ≠ 70 → c ≠ 92 → S2 c = S1 c := fun c h1 h2 => by rw [u3.1 c h1 h2, o2 c h1]
  have e3 : ∀ c, c ≠ 13 → c ≠ 69 → c ≠ 70 → c ≠ 92 → S2 c = S c := fun c h1 h2 h3 h4 => by rw [e2 c h3 h4, e1 c h1 h2]
  have e7 : ∀ i, i ≠ 41 → S2 70 i = S 70 i := fun i hi => by rw [u3.2 i hi, qup_on, if_neg hi, e1 70 (by omega) (by omega)]
  have r85 : ∀ q u, mR S2 q u = mR S q u := fun q u => by
    show S2 85 _ = S 85 _
    rw [e3 85 (by omega) (by omega) (by omega) (by omega)]
  refine ⟨w'.length, S1, S2, ?_, ?_, T, lev, Y, ⟨iT_off hI (fun c hc => e3 c (by omega) (by omega) (by omega) (by omega)), hB, cY_off hc (fun c hc => e3 c (by omega) (by omega) (by omega) (by omega)), mY_off hm (fun c hc => e3 c (by omega) (by omega) (by omega) (by omega))⟩, hw, ⟨o, m, hA_off hH (e3 12 (by omega) (by omega) (by omega) (by omega)) (e7 31 (by omega)) (fun c _ _ => e3 c (by omega) (by omega) (by omega) (by omega)) (fun q _ u _ => r85 q u)⟩, hM_off hK (by rw [e3 12 (by omega) (by omega) (by omega) (by omega)]) (e3 86 (by omega) (by omega) (by omega) (by omega)) (fun c _ _ => e3 c (by omega) (by omega) (by omega) (by omega)) (fun q _ _ u _ => r85 q u), ⟨?_, ?_, ?_, ?_⟩, iF_off hF (e3 11 (by omega) (by omega) (by omega) (by omega)) (e3 47 (by omega) (by omega) (by omega) (by omega))⟩
  · rw [C_write, t1']
    simp only [ob_sn]
    rw [t2.1]
  · rw [M_write, u1']
    simp only [ob_sn]
    rw [u2.1]
  · unfold iN
    rw [e3 24 (by omega) (by omega) (by omega) (by omega), e3 74 (by omega) (by omega) (by omega) (by omega)]
    exact hN
  · have x13 : S2 13 1 = w'.length := by rw [e2 13 (by omega) (by omega), t2.1]
    refine ⟨by rw [x13]; omega, by rw [x13, u2.1], fun i hi => ?_⟩
    rw [x13] at hi
    have hi' : i < w'.length := by omega
    rw [e2 69 (by omega) (by omega), t2.2 i hi', u2.2 i hi']
    have hmem : w'.getD i 0 ∈ w' := by
      rw [List.getD_eq_getElem?_getD, List.getElem?_eq_getElem hi', Option.getD_some]
      exact List.getElem_mem hi'
    exact ⟨rfl, (a2 _ hmem).1, (a2 _ hmem).2⟩
  · unfold iP
    rw [e3 0 (by omega) (by omega) (by omega) (by omega), e7 5 (by omega), e3 75 (by omega) (by omega) (by omega) (by omega), e3 1 (by omega) (by omega) (by omega) (by omega)]
    exact hP
  · unfold iX
    rw [e3 4 (by omega) (by omega) (by omega) (by omega), e7 15 (by omega), e7 16 (by omega)]
    exact hX
end PWR
