/-! the reference's next order of the first four -/
def qsw (S : qSto) (a b : Nat) : qSto := qup (qup S 90 a (S 90 b)) 90 b (S 90 a)
theorem qsw_off {S : qSto} {a b c : Nat} (h : c ≠ 90) : (qsw S a b) c = S c := by
  unfold qsw
  rw [qup_off h, qup_off h]
theorem qsw_v {S : qSto} {a b : Nat} (j : Nat) : (qsw S a b) 90 j = if j = b then S 90 a else if j = a then S 90 b else S 90 j := by
  unfold qsw
  rw [qup_on, qup_on]
theorem swaps_e {S : qSto} {x y : Int} (a b : Nat) (ea : x = a) (eb : y = b) (ha : a < 4) (hb : b < 4) : M_swaps x y S = some (qsw S a b) := by
  rw [M_swaps, ea, eb, qk_ix (by omega) (by omega), qk_ix (by omega) (by omega), qk_ix (by omega) (by omega), qk_ix (by omega) (by omega), Int.toNat_natCast, Int.toNat_natCast]
  rfl
theorem g7_e {S : qSto} {f : Nat} {x : Int} (k k1 : Nat) (ek : k1 = k + 1) (e : x = k) (hk : k < 3) (hf : 0 < f) (r1 : qR (S 90 k)) (r2 : qR (S 90 k1)) : M_goesOn_L7 f x S = if S 90 k ≤ S 90 k1 then some (x, S) else M_goesOn_L7 (f - 1) (x - 1) S := by
  cases f with
  | zero => omega
  | succ n =>
    have e1 : x.toNat = k := by omega
    have e2 : (x + 1).toNat = k1 := by omega
    rw [M_goesOn_L7, qk_r (by omega) (by omega), if_neg (by omega), qk_ix (by omega) (by omega), qk_ix (by omega) (by omega), e1, e2, qk_r r1.1 r1.2, qk_r r2.1 r2.2]
    rfl
theorem g7_n {S : qSto} {f : Nat} {x : Int} (e : x = -1) (hf : 0 < f) : M_goesOn_L7 f x S = some (x, S) := by
  cases f with
  | zero => omega
  | succ n => rw [M_goesOn_L7, qk_r (by omega) (by omega), if_pos (by omega)]
theorem g48_e {S : qSto} {f : Nat} {x y : Int} (a b : Nat) (ea : x = a) (eb : y = b) (ha : a < 4) (hb : b < 4) (hf : 0 < f) (r1 : qR (S 90 a)) (r2 : qR (S 90 b)) : M_goesOn_L48 f x y S = if S 90 a ≤ S 90 b then some (y, S) else M_goesOn_L48 (f - 1) x (y - 1) S := by
  cases f with
  | zero => omega
  | succ n =>
    have e1 : x.toNat = a := by omega
    have e2 : y.toNat = b := by omega
    rw [M_goesOn_L48, qk_ix (by omega) (by omega), qk_ix (by omega) (by omega), e1, e2, qk_r r2.1 r2.2, qk_r r1.1 r1.2]
    rfl
theorem g88_e {S : qSto} {f : Nat} {x y : Int} (a b : Nat) (ea : x = a) (eb : y = b) (ha : a < 4) (hb : b < 4) (hf : 0 < f) (h : a < b) : M_goesOn_L88 f x y S = M_goesOn_L88 (f - 1) (x + 1) (y - 1) (qsw S a b) := by
  cases f with
  | zero => omega
  | succ n =>
    rw [M_goesOn_L88, qk_r (by omega) (by omega), qk_r (by omega) (by omega), if_neg (by omega), swaps_e a b ea eb ha hb]
    rfl
theorem g88_n {S : qSto} {f : Nat} {x y : Int} (hx : -10 ≤ x ∧ x ≤ 10) (hy : -10 ≤ y ∧ y ≤ 10) (hf : 0 < f) (h : y ≤ x) : M_goesOn_L88 f x y S = some S := by
  cases f with
  | zero => omega
  | succ n => rw [M_goesOn_L88, qk_r (by omega) (by omega), qk_r (by omega) (by omega), if_pos h]

theorem gn_1_0 {S : qSto} (h37 : S 70 37 = 1) (h0 : S 90 0 = 0) : ∃ S', M_goesOn S = some (0, S') ∧ fO 90 S S' := by
  rw [M_goesOn, h37, g7_n (by omega) (by unfold qF; omega)]
  simp only [ob_sn]
  rw [qk_r (by omega) (by omega), if_neg (by omega)]
  exact ⟨S, rfl, fun c _ => rfl⟩
theorem gn_2_01 {S : qSto} (h37 : S 70 37 = 2) (h0 : S 90 0 = 0) (h1 : S 90 1 = 1) : ∃ S', M_goesOn S = some (1, S') ∧ fO 90 S S' ∧ S' 90 0 = 1 ∧ S' 90 1 = 0 := by
  rw [M_goesOn, h37, g7_e 0 1 rfl (by omega) (by omega) (by unfold qF; omega) ⟨by omega, by omega⟩ ⟨by omega, by omega⟩, if_pos (by omega)]
  simp only [ob_sn]
  rw [qk_r (by omega) (by omega), if_pos (by omega), h37, g48_e 0 1 (by omega) (by omega) (by omega) (by omega) (by unfold qF; omega) ⟨by omega, by omega⟩ ⟨by omega, by omega⟩, if_pos (by omega)]
  simp only [ob_sn]
  rw [swaps_e 0 1 (by omega) (by omega) (by omega) (by omega)]
  simp only [ob_sn]
  rw [qsw_off (show (70 : Nat) ≠ 90 by omega), h37, g88_n (by omega) (by omega) (by unfold qF; omega) (by omega)]
  simp only [ob_sn]
  refine ⟨(qsw S 0 1), rfl, fun c hc => by rw [qsw_off hc], ?_, ?_⟩
  · simp [qsw_v, h0, h1]
  · simp [qsw_v, h0, h1]
theorem gn_2_10 {S : qSto} (h37 : S 70 37 = 2) (h0 : S 90 0 = 1) (h1 : S 90 1 = 0) : ∃ S', M_goesOn S = some (0, S') ∧ fO 90 S S' := by
  rw [M_goesOn, h37, g7_e 0 1 rfl (by omega) (by omega) (by unfold qF; omega) ⟨by omega, by omega⟩ ⟨by omega, by omega⟩, if_neg (by omega), g7_n (by omega) (by unfold qF; omega)]
  simp only [ob_sn]
  rw [qk_r (by omega) (by omega), if_neg (by omega)]
  exact ⟨S, rfl, fun c _ => rfl⟩
theorem gn_3_012 {S : qSto} (h37 : S 70 37 = 3) (h0 : S 90 0 = 0) (h1 : S 90 1 = 1) (h2 : S 90 2 = 2) : ∃ S', M_goesOn S = some (1, S') ∧ fO 90 S S' ∧ S' 90 0 = 0 ∧ S' 90 1 = 2 ∧ S' 90 2 = 1 := by
  rw [M_goesOn, h37, g7_e 1 2 rfl (by omega) (by omega) (by unfold qF; omega) ⟨by omega, by omega⟩ ⟨by omega, by omega⟩, if_pos (by omega)]
  simp only [ob_sn]
  rw [qk_r (by omega) (by omega), if_pos (by omega), h37, g48_e 1 2 (by omega) (by omega) (by omega) (by omega) (by unfold qF; omega) ⟨by omega, by omega⟩ ⟨by omega, by omega⟩, if_pos (by omega)]
  simp only [ob_sn]
  rw [swaps_e 1 2 (by omega) (by omega) (by omega) (by omega)]
  simp only [ob_sn]
  rw [qsw_off (show (70 : Nat) ≠ 90 by omega), h37, g88_n (by omega) (by omega) (by unfold qF; omega) (by omega)]
  simp only [ob_sn]
  refine ⟨(qsw S 1 2), rfl, fun c hc => by rw [qsw_off hc], ?_, ?_, ?_⟩
  · simp [qsw_v, h0, h1, h2]
  · simp [qsw_v, h0, h1, h2]
  · simp [qsw_v, h0, h1, h2]
theorem gn_3_021 {S : qSto} (h37 : S 70 37 = 3) (h0 : S 90 0 = 0) (h1 : S 90 1 = 2) (h2 : S 90 2 = 1) : ∃ S', M_goesOn S = some (1, S') ∧ fO 90 S S' ∧ S' 90 0 = 1 ∧ S' 90 1 = 0 ∧ S' 90 2 = 2 := by
  rw [M_goesOn, h37, g7_e 1 2 rfl (by omega) (by omega) (by unfold qF; omega) ⟨by omega, by omega⟩ ⟨by omega, by omega⟩, if_neg (by omega), g7_e 0 1 rfl (by omega) (by omega) (by unfold qF; omega) ⟨by omega, by omega⟩ ⟨by omega, by omega⟩, if_pos (by omega)]
  simp only [ob_sn]
  rw [qk_r (by omega) (by omega), if_pos (by omega), h37, g48_e 0 2 (by omega) (by omega) (by omega) (by omega) (by unfold qF; omega) ⟨by omega, by omega⟩ ⟨by omega, by omega⟩, if_pos (by omega)]
  simp only [ob_sn]
  rw [swaps_e 0 2 (by omega) (by omega) (by omega) (by omega)]
  simp only [ob_sn]
  rw [qsw_off (show (70 : Nat) ≠ 90 by omega), h37, g88_e 1 2 (by omega) (by omega) (by omega) (by omega) (by unfold qF; omega) (by omega), g88_n (by omega) (by omega) (by unfold qF; omega) (by omega)]
  simp only [ob_sn]
  refine ⟨(qsw (qsw S 0 2) 1 2), rfl, fun c hc => by rw [qsw_off hc, qsw_off hc], ?_, ?_, ?_⟩
  · simp [qsw_v, h0, h1, h2]
  · simp [qsw_v, h0, h1, h2]
  · simp [qsw_v, h0, h1, h2]
theorem gn_3_102 {S : qSto} (h37 : S 70 37 = 3) (h0 : S 90 0 = 1) (h1 : S 90 1 = 0) (h2 : S 90 2 = 2) : ∃ S', M_goesOn S = some (1, S') ∧ fO 90 S S' ∧ S' 90 0 = 1 ∧ S' 90 1 = 2 ∧ S' 90 2 = 0 := by
  rw [M_goesOn, h37, g7_e 1 2 rfl (by omega) (by omega) (by unfold qF; omega) ⟨by omega, by omega⟩ ⟨by omega, by omega⟩, if_pos (by omega)]
  simp only [ob_sn]
  rw [qk_r (by omega) (by omega), if_pos (by omega), h37, g48_e 1 2 (by omega) (by omega) (by omega) (by omega) (by unfold qF; omega) ⟨by omega, by omega⟩ ⟨by omega, by omega⟩, if_pos (by omega)]
  simp only [ob_sn]
  rw [swaps_e 1 2 (by omega) (by omega) (by omega) (by omega)]
  simp only [ob_sn]
  rw [qsw_off (show (70 : Nat) ≠ 90 by omega), h37, g88_n (by omega) (by omega) (by unfold qF; omega) (by omega)]
  simp only [ob_sn]
  refine ⟨(qsw S 1 2), rfl, fun c hc => by rw [qsw_off hc], ?_, ?_, ?_⟩
  · simp [qsw_v, h0, h1, h2]
  · simp [qsw_v, h0, h1, h2]
  · simp [qsw_v, h0, h1, h2]
theorem gn_3_120 {S : qSto} (h37 : S 70 37 = 3) (h0 : S 90 0 = 1) (h1 : S 90 1 = 2) (h2 : S 90 2 = 0) : ∃ S', M_goesOn S = some (1, S') ∧ fO 90 S S' ∧ S' 90 0 = 2 ∧ S' 90 1 = 0 ∧ S' 90 2 = 1 := by
  rw [M_goesOn, h37, g7_e 1 2 rfl (by omega) (by omega) (by unfold qF; omega) ⟨by omega, by omega⟩ ⟨by omega, by omega⟩, if_neg (by omega), g7_e 0 1 rfl (by omega) (by omega) (by unfold qF; omega) ⟨by omega, by omega⟩ ⟨by omega, by omega⟩, if_pos (by omega)]
  simp only [ob_sn]
  rw [qk_r (by omega) (by omega), if_pos (by omega), h37, g48_e 0 2 (by omega) (by omega) (by omega) (by omega) (by unfold qF; omega) ⟨by omega, by omega⟩ ⟨by omega, by omega⟩, if_neg (by omega), g48_e 0 1 (by omega) (by omega) (by omega) (by omega) (by unfold qF; omega) ⟨by omega, by omega⟩ ⟨by omega, by omega⟩, if_pos (by omega)]
  simp only [ob_sn]
  rw [swaps_e 0 1 (by omega) (by omega) (by omega) (by omega)]
  simp only [ob_sn]
  rw [qsw_off (show (70 : Nat) ≠ 90 by omega), h37, g88_e 1 2 (by omega) (by omega) (by omega) (by omega) (by unfold qF; omega) (by omega), g88_n (by omega) (by omega) (by unfold qF; omega) (by omega)]
  simp only [ob_sn]
  refine ⟨(qsw (qsw S 0 1) 1 2), rfl, fun c hc => by rw [qsw_off hc, qsw_off hc], ?_, ?_, ?_⟩
  · simp [qsw_v, h0, h1, h2]
  · simp [qsw_v, h0, h1, h2]
  · simp [qsw_v, h0, h1, h2]
theorem gn_3_201 {S : qSto} (h37 : S 70 37 = 3) (h0 : S 90 0 = 2) (h1 : S 90 1 = 0) (h2 : S 90 2 = 1) : ∃ S', M_goesOn S = some (1, S') ∧ fO 90 S S' ∧ S' 90 0 = 2 ∧ S' 90 1 = 1 ∧ S' 90 2 = 0 := by
  rw [M_goesOn, h37, g7_e 1 2 rfl (by omega) (by omega) (by unfold qF; omega) ⟨by omega, by omega⟩ ⟨by omega, by omega⟩, if_pos (by omega)]
  simp only [ob_sn]
  rw [qk_r (by omega) (by omega), if_pos (by omega), h37, g48_e 1 2 (by omega) (by omega) (by omega) (by omega) (by unfold qF; omega) ⟨by omega, by omega⟩ ⟨by omega, by omega⟩, if_pos (by omega)]
  simp only [ob_sn]
  rw [swaps_e 1 2 (by omega) (by omega) (by omega) (by omega)]
  simp only [ob_sn]
  rw [qsw_off (show (70 : Nat) ≠ 90 by omega), h37, g88_n (by omega) (by omega) (by unfold qF; omega) (by omega)]
  simp only [ob_sn]
  refine ⟨(qsw S 1 2), rfl, fun c hc => by rw [qsw_off hc], ?_, ?_, ?_⟩
  · simp [qsw_v, h0, h1, h2]
  · simp [qsw_v, h0, h1, h2]
  · simp [qsw_v, h0, h1, h2]
theorem gn_3_210 {S : qSto} (h37 : S 70 37 = 3) (h0 : S 90 0 = 2) (h1 : S 90 1 = 1) (h2 : S 90 2 = 0) : ∃ S', M_goesOn S = some (0, S') ∧ fO 90 S S' := by
  rw [M_goesOn, h37, g7_e 1 2 rfl (by omega) (by omega) (by unfold qF; omega) ⟨by omega, by omega⟩ ⟨by omega, by omega⟩, if_neg (by omega), g7_e 0 1 rfl (by omega) (by omega) (by unfold qF; omega) ⟨by omega, by omega⟩ ⟨by omega, by omega⟩, if_neg (by omega), g7_n (by omega) (by unfold qF; omega)]
  simp only [ob_sn]
  rw [qk_r (by omega) (by omega), if_neg (by omega)]
  exact ⟨S, rfl, fun c _ => rfl⟩
theorem gn_4_0123 {S : qSto} (h37 : S 70 37 = 4) (h0 : S 90 0 = 0) (h1 : S 90 1 = 1) (h2 : S 90 2 = 2) (h3 : S 90 3 = 3) : ∃ S', M_goesOn S = some (1, S') ∧ fO 90 S S' ∧ S' 90 0 = 0 ∧ S' 90 1 = 1 ∧ S' 90 2 = 3 ∧ S' 90 3 = 2 := by
  rw [M_goesOn, h37, g7_e 2 3 rfl (by omega) (by omega) (by unfold qF; omega) ⟨by omega, by omega⟩ ⟨by omega, by omega⟩, if_pos (by omega)]
  simp only [ob_sn]
  rw [qk_r (by omega) (by omega), if_pos (by omega), h37, g48_e 2 3 (by omega) (by omega) (by omega) (by omega) (by unfold qF; omega) ⟨by omega, by omega⟩ ⟨by omega, by omega⟩, if_pos (by omega)]
  simp only [ob_sn]
  rw [swaps_e 2 3 (by omega) (by omega) (by omega) (by omega)]
  simp only [ob_sn]
  rw [qsw_off (show (70 : Nat) ≠ 90 by omega), h37, g88_n (by omega) (by omega) (by unfold qF; omega) (by omega)]
  simp only [ob_sn]
  refine ⟨(qsw S 2 3), rfl, fun c hc => by rw [qsw_off hc], ?_, ?_, ?_, ?_⟩
  · simp [qsw_v, h0, h1, h2, h3]
  · simp [qsw_v, h0, h1, h2, h3]
  · simp [qsw_v, h0, h1, h2, h3]
  · simp [qsw_v, h0, h1, h2, h3]
theorem gn_4_0132 {S : qSto} (h37 : S 70 37 = 4) (h0 : S 90 0 = 0) (h1 : S 90 1 = 1) (h2 : S 90 2 = 3) (h3 : S 90 3 = 2) : ∃ S', M_goesOn S = some (1, S') ∧ fO 90 S S' ∧ S' 90 0 = 0 ∧ S' 90 1 = 2 ∧ S' 90 2 = 1 ∧ S' 90 3 = 3 := by
  rw [M_goesOn, h37, g7_e 2 3 rfl (by omega) (by omega) (by unfold qF; omega) ⟨by omega, by omega⟩ ⟨by omega, by omega⟩, if_neg (by omega), g7_e 1 2 rfl (by omega) (by omega) (by unfold qF; omega) ⟨by omega, by omega⟩ ⟨by omega, by omega⟩, if_pos (by omega)]
  simp only [ob_sn]
  rw [qk_r (by omega) (by omega), if_pos (by omega), h37, g48_e 1 3 (by omega) (by omega) (by omega) (by omega) (by unfold qF; omega) ⟨by omega, by omega⟩ ⟨by omega, by omega⟩, if_pos (by omega)]
  simp only [ob_sn]
  rw [swaps_e 1 3 (by omega) (by omega) (by omega) (by omega)]
  simp only [ob_sn]
  rw [qsw_off (show (70 : Nat) ≠ 90 by omega), h37, g88_e 2 3 (by omega) (by omega) (by omega) (by omega) (by unfold qF; omega) (by omega), g88_n (by omega) (by omega) (by unfold qF; omega) (by omega)]
  simp only [ob_sn]
  refine ⟨(qsw (qsw S 1 3) 2 3), rfl, fun c hc => by rw [qsw_off hc, qsw_off hc], ?_, ?_, ?_, ?_⟩
  · simp [qsw_v, h0, h1, h2, h3]
  · simp [qsw_v, h0, h1, h2, h3]
  · simp [qsw_v, h0, h1, h2, h3]
  · simp [qsw_v, h0, h1, h2, h3]
theorem gn_4_0213 {S : qSto} (h37 : S 70 37 = 4) (h0 : S 90 0 = 0) (h1 : S 90 1 = 2) (h2 : S 90 2 = 1) (h3 : S 90 3 = 3) : ∃ S', M_goesOn S = some (1, S') ∧ fO 90 S S' ∧ S' 90 0 = 0 ∧ S' 90 1 = 2 ∧ S' 90 2 = 3 ∧ S' 90 3 = 1 := by
  rw [M_goesOn, h37, g7_e 2 3 rfl (by omega) (by omega) (by unfold qF; omega) ⟨by omega, by omega⟩ ⟨by omega, by omega⟩, if_pos (by omega)]
  simp only [ob_sn]
  rw [qk_r (by omega) (by omega), if_pos (by omega), h37, g48_e 2 3 (by omega) (by omega) (by omega) (by omega) (by unfold qF; omega) ⟨by omega, by omega⟩ ⟨by omega, by omega⟩, if_pos (by omega)]
  simp only [ob_sn]
  rw [swaps_e 2 3 (by omega) (by omega) (by omega) (by omega)]
  simp only [ob_sn]
  rw [qsw_off (show (70 : Nat) ≠ 90 by omega), h37, g88_n (by omega) (by omega) (by unfold qF; omega) (by omega)]
  simp only [ob_sn]
  refine ⟨(qsw S 2 3), rfl, fun c hc => by rw [qsw_off hc], ?_, ?_, ?_, ?_⟩
  · simp [qsw_v, h0, h1, h2, h3]
  · simp [qsw_v, h0, h1, h2, h3]
  · simp [qsw_v, h0, h1, h2, h3]
  · simp [qsw_v, h0, h1, h2, h3]
theorem gn_4_0231 {S : qSto} (h37 : S 70 37 = 4) (h0 : S 90 0 = 0) (h1 : S 90 1 = 2) (h2 : S 90 2 = 3) (h3 : S 90 3 = 1) : ∃ S', M_goesOn S = some (1, S') ∧ fO 90 S S' ∧ S' 90 0 = 0 ∧ S' 90 1 = 3 ∧ S' 90 2 = 1 ∧ S' 90 3 = 2 := by
  rw [M_goesOn, h37, g7_e 2 3 rfl (by omega) (by omega) (by unfold qF; omega) ⟨by omega, by omega⟩ ⟨by omega, by omega⟩, if_neg (by omega), g7_e 1 2 rfl (by omega) (by omega) (by unfold qF; omega) ⟨by omega, by omega⟩ ⟨by omega, by omega⟩, if_pos (by omega)]
  simp only [ob_sn]
  rw [qk_r (by omega) (by omega), if_pos (by omega), h37, g48_e 1 3 (by omega) (by omega) (by omega) (by omega) (by unfold qF; omega) ⟨by omega, by omega⟩ ⟨by omega, by omega⟩, if_neg (by omega), g48_e 1 2 (by omega) (by omega) (by omega) (by omega) (by unfold qF; omega) ⟨by omega, by omega⟩ ⟨by omega, by omega⟩, if_pos (by omega)]
  simp only [ob_sn]
  rw [swaps_e 1 2 (by omega) (by omega) (by omega) (by omega)]
  simp only [ob_sn]
  rw [qsw_off (show (70 : Nat) ≠ 90 by omega), h37, g88_e 2 3 (by omega) (by omega) (by omega) (by omega) (by unfold qF; omega) (by omega), g88_n (by omega) (by omega) (by unfold qF; omega) (by omega)]
  simp only [ob_sn]
  refine ⟨(qsw (qsw S 1 2) 2 3), rfl, fun c hc => by rw [qsw_off hc, qsw_off hc], ?_, ?_, ?_, ?_⟩
  · simp [qsw_v, h0, h1, h2, h3]
  · simp [qsw_v, h0, h1, h2, h3]
  · simp [qsw_v, h0, h1, h2, h3]
  · simp [qsw_v, h0, h1, h2, h3]
theorem gn_4_0312 {S : qSto} (h37 : S 70 37 = 4) (h0 : S 90 0 = 0) (h1 : S 90 1 = 3) (h2 : S 90 2 = 1) (h3 : S 90 3 = 2) : ∃ S', M_goesOn S = some (1, S') ∧ fO 90 S S' ∧ S' 90 0 = 0 ∧ S' 90 1 = 3 ∧ S' 90 2 = 2 ∧ S' 90 3 = 1 := by
  rw [M_goesOn, h37, g7_e 2 3 rfl (by omega) (by omega) (by unfold qF; omega) ⟨by omega, by omega⟩ ⟨by omega, by omega⟩, if_pos (by omega)]
  simp only [ob_sn]
  rw [qk_r (by omega) (by omega), if_pos (by omega), h37, g48_e 2 3 (by omega) (by omega) (by omega) (by omega) (by unfold qF; omega) ⟨by omega, by omega⟩ ⟨by omega, by omega⟩, if_pos (by omega)]
  simp only [ob_sn]
  rw [swaps_e 2 3 (by omega) (by omega) (by omega) (by omega)]
  simp only [ob_sn]
  rw [qsw_off (show (70 : Nat) ≠ 90 by omega), h37, g88_n (by omega) (by omega) (by unfold qF; omega) (by omega)]
  simp only [ob_sn]
  refine ⟨(qsw S 2 3), rfl, fun c hc => by rw [qsw_off hc], ?_, ?_, ?_, ?_⟩
  · simp [qsw_v, h0, h1, h2, h3]
  · simp [qsw_v, h0, h1, h2, h3]
  · simp [qsw_v, h0, h1, h2, h3]
  · simp [qsw_v, h0, h1, h2, h3]
theorem gn_4_0321 {S : qSto} (h37 : S 70 37 = 4) (h0 : S 90 0 = 0) (h1 : S 90 1 = 3) (h2 : S 90 2 = 2) (h3 : S 90 3 = 1) : ∃ S', M_goesOn S = some (1, S') ∧ fO 90 S S' ∧ S' 90 0 = 1 ∧ S' 90 1 = 0 ∧ S' 90 2 = 2 ∧ S' 90 3 = 3 := by
  rw [M_goesOn, h37, g7_e 2 3 rfl (by omega) (by omega) (by unfold qF; omega) ⟨by omega, by omega⟩ ⟨by omega, by omega⟩, if_neg (by omega), g7_e 1 2 rfl (by omega) (by omega) (by unfold qF; omega) ⟨by omega, by omega⟩ ⟨by omega, by omega⟩, if_neg (by omega), g7_e 0 1 rfl (by omega) (by omega) (by unfold qF; omega) ⟨by omega, by omega⟩ ⟨by omega, by omega⟩, if_pos (by omega)]
  simp only [ob_sn]
  rw [qk_r (by omega) (by omega), if_pos (by omega), h37, g48_e 0 3 (by omega) (by omega) (by omega) (by omega) (by unfold qF; omega) ⟨by omega, by omega⟩ ⟨by omega, by omega⟩, if_pos (by omega)]
  simp only [ob_sn]
  rw [swaps_e 0 3 (by omega) (by omega) (by omega) (by omega)]
  simp only [ob_sn]
  rw [qsw_off (show (70 : Nat) ≠ 90 by omega), h37, g88_e 1 3 (by omega) (by omega) (by omega) (by omega) (by unfold qF; omega) (by omega), g88_n (by omega) (by omega) (by unfold qF; omega) (by omega)]
  simp only [ob_sn]
  refine ⟨(qsw (qsw S 0 3) 1 3), rfl, fun c hc => by rw [qsw_off hc, qsw_off hc], ?_, ?_, ?_, ?_⟩
  · simp [qsw_v, h0, h1, h2, h3]
  · simp [qsw_v, h0, h1, h2, h3]
  · simp [qsw_v, h0, h1, h2, h3]
  · simp [qsw_v, h0, h1, h2, h3]
theorem gn_4_1023 {S : qSto} (h37 : S 70 37 = 4) (h0 : S 90 0 = 1) (h1 : S 90 1 = 0) (h2 : S 90 2 = 2) (h3 : S 90 3 = 3) : ∃ S', M_goesOn S = some (1, S') ∧ fO 90 S S' ∧ S' 90 0 = 1 ∧ S' 90 1 = 0 ∧ S' 90 2 = 3 ∧ S' 90 3 = 2 := by
  rw [M_goesOn, h37, g7_e 2 3 rfl (by omega) (by omega) (by unfold qF; omega) ⟨by omega, by omega⟩ ⟨by omega, by omega⟩, if_pos (by omega)]
  simp only [ob_sn]
  rw [qk_r (by omega) (by omega), if_pos (by omega), h37, g48_e 2 3 (by omega) (by omega) (by omega) (by omega) (by unfold qF; omega) ⟨by omega, by omega⟩ ⟨by omega, by omega⟩, if_pos (by omega)]
  simp only [ob_sn]
  rw [swaps_e 2 3 (by omega) (by omega) (by omega) (by omega)]
  simp only [ob_sn]
  rw [qsw_off (show (70 : Nat) ≠ 90 by omega), h37, g88_n (by omega) (by omega) (by unfold qF; omega) (by omega)]
  simp only [ob_sn]
  refine ⟨(qsw S 2 3), rfl, fun c hc => by rw [qsw_off hc], ?_, ?_, ?_, ?_⟩
  · simp [qsw_v, h0, h1, h2, h3]
  · simp [qsw_v, h0, h1, h2, h3]
  · simp [qsw_v, h0, h1, h2, h3]
  · simp [qsw_v, h0, h1, h2, h3]
theorem gn_4_1032 {S : qSto} (h37 : S 70 37 = 4) (h0 : S 90 0 = 1) (h1 : S 90 1 = 0) (h2 : S 90 2 = 3) (h3 : S 90 3 = 2) : ∃ S', M_goesOn S = some (1, S') ∧ fO 90 S S' ∧ S' 90 0 = 1 ∧ S' 90 1 = 2 ∧ S' 90 2 = 0 ∧ S' 90 3 = 3 := by
  rw [M_goesOn, h37, g7_e 2 3 rfl (by omega) (by omega) (by unfold qF; omega) ⟨by omega, by omega⟩ ⟨by omega, by omega⟩, if_neg (by omega), g7_e 1 2 rfl (by omega) (by omega) (by unfold qF; omega) ⟨by omega, by omega⟩ ⟨by omega, by omega⟩, if_pos (by omega)]
  simp only [ob_sn]
  rw [qk_r (by omega) (by omega), if_pos (by omega), h37, g48_e 1 3 (by omega) (by omega) (by omega) (by omega) (by unfold qF; omega) ⟨by omega, by omega⟩ ⟨by omega, by omega⟩, if_pos (by omega)]
  simp only [ob_sn]
  rw [swaps_e 1 3 (by omega) (by omega) (by omega) (by omega)]
  simp only [ob_sn]
  rw [qsw_off (show (70 : Nat) ≠ 90 by omega), h37, g88_e 2 3 (by omega) (by omega) (by omega) (by omega) (by unfold qF; omega) (by omega), g88_n (by omega) (by omega) (by unfold qF; omega) (by omega)]
  simp only [ob_sn]
  refine ⟨(qsw (qsw S 1 3) 2 3), rfl, fun c hc => by rw [qsw_off hc, qsw_off hc], ?_, ?_, ?_, ?_⟩
  · simp [qsw_v, h0, h1, h2, h3]
  · simp [qsw_v, h0, h1, h2, h3]
  · simp [qsw_v, h0, h1, h2, h3]
  · simp [qsw_v, h0, h1, h2, h3]
theorem gn_4_1203 {S : qSto} (h37 : S 70 37 = 4) (h0 : S 90 0 = 1) (h1 : S 90 1 = 2) (h2 : S 90 2 = 0) (h3 : S 90 3 = 3) : ∃ S', M_goesOn S = some (1, S') ∧ fO 90 S S' ∧ S' 90 0 = 1 ∧ S' 90 1 = 2 ∧ S' 90 2 = 3 ∧ S' 90 3 = 0 := by
  rw [M_goesOn, h37, g7_e 2 3 rfl (by omega) (by omega) (by unfold qF; omega) ⟨by omega, by omega⟩ ⟨by omega, by omega⟩, if_pos (by omega)]
  simp only [ob_sn]
  rw [qk_r (by omega) (by omega), if_pos (by omega), h37, g48_e 2 3 (by omega) (by omega) (by omega) (by omega) (by unfold qF; omega) ⟨by omega, by omega⟩ ⟨by omega, by omega⟩, if_pos (by omega)]
  simp only [ob_sn]
  rw [swaps_e 2 3 (by omega) (by omega) (by omega) (by omega)]
  simp only [ob_sn]
  rw [qsw_off (show (70 : Nat) ≠ 90 by omega), h37, g88_n (by omega) (by omega) (by unfold qF; omega) (by omega)]
  simp only [ob_sn]
  refine ⟨(qsw S 2 3), rfl, fun c hc => by rw [qsw_off hc], ?_, ?_, ?_, ?_⟩
  · simp [qsw_v, h0, h1, h2, h3]
  · simp [qsw_v, h0, h1, h2, h3]
  · simp [qsw_v, h0, h1, h2, h3]
  · simp [qsw_v, h0, h1, h2, h3]
theorem gn_4_1230 {S : qSto} (h37 : S 70 37 = 4) (h0 : S 90 0 = 1) (h1 : S 90 1 = 2) (h2 : S 90 2 = 3) (h3 : S 90 3 = 0) : ∃ S', M_goesOn S = some (1, S') ∧ fO 90 S S' ∧ S' 90 0 = 1 ∧ S' 90 1 = 3 ∧ S' 90 2 = 0 ∧ S' 90 3 = 2 := by
  rw [M_goesOn, h37, g7_e 2 3 rfl (by omega) (by omega) (by unfold qF; omega) ⟨by omega, by omega⟩ ⟨by omega, by omega⟩, if_neg (by omega), g7_e 1 2 rfl (by omega) (by omega) (by unfold qF; omega) ⟨by omega, by omega⟩ ⟨by omega, by omega⟩, if_pos (by omega)]
  simp only [ob_sn]
  rw [qk_r (by omega) (by omega), if_pos (by omega), h37, g48_e 1 3 (by omega) (by omega) (by omega) (by omega) (by unfold qF; omega) ⟨by omega, by omega⟩ ⟨by omega, by omega⟩, if_neg (by omega), g48_e 1 2 (by omega) (by omega) (by omega) (by omega) (by unfold qF; omega) ⟨by omega, by omega⟩ ⟨by omega, by omega⟩, if_pos (by omega)]
  simp only [ob_sn]
  rw [swaps_e 1 2 (by omega) (by omega) (by omega) (by omega)]
  simp only [ob_sn]
  rw [qsw_off (show (70 : Nat) ≠ 90 by omega), h37, g88_e 2 3 (by omega) (by omega) (by omega) (by omega) (by unfold qF; omega) (by omega), g88_n (by omega) (by omega) (by unfold qF; omega) (by omega)]
  simp only [ob_sn]
  refine ⟨(qsw (qsw S 1 2) 2 3), rfl, fun c hc => by rw [qsw_off hc, qsw_off hc], ?_, ?_, ?_, ?_⟩
  · simp [qsw_v, h0, h1, h2, h3]
  · simp [qsw_v, h0, h1, h2, h3]
  · simp [qsw_v, h0, h1, h2, h3]
  · simp [qsw_v, h0, h1, h2, h3]
theorem gn_4_1302 {S : qSto} (h37 : S 70 37 = 4) (h0 : S 90 0 = 1) (h1 : S 90 1 = 3) (h2 : S 90 2 = 0) (h3 : S 90 3 = 2) : ∃ S', M_goesOn S = some (1, S') ∧ fO 90 S S' ∧ S' 90 0 = 1 ∧ S' 90 1 = 3 ∧ S' 90 2 = 2 ∧ S' 90 3 = 0 := by
  rw [M_goesOn, h37, g7_e 2 3 rfl (by omega) (by omega) (by unfold qF; omega) ⟨by omega, by omega⟩ ⟨by omega, by omega⟩, if_pos (by omega)]
  simp only [ob_sn]
  rw [qk_r (by omega) (by omega), if_pos (by omega), h37, g48_e 2 3 (by omega) (by omega) (by omega) (by omega) (by unfold qF; omega) ⟨by omega, by omega⟩ ⟨by omega, by omega⟩, if_pos (by omega)]
  simp only [ob_sn]
  rw [swaps_e 2 3 (by omega) (by omega) (by omega) (by omega)]
  simp only [ob_sn]
  rw [qsw_off (show (70 : Nat) ≠ 90 by omega), h37, g88_n (by omega) (by omega) (by unfold qF; omega) (by omega)]
  simp only [ob_sn]
  refine ⟨(qsw S 2 3), rfl, fun c hc => by rw [qsw_off hc], ?_, ?_, ?_, ?_⟩
  · simp [qsw_v, h0, h1, h2, h3]
  · simp [qsw_v, h0, h1, h2, h3]
  · simp [qsw_v, h0, h1, h2, h3]
  · simp [qsw_v, h0, h1, h2, h3]
theorem gn_4_1320 {S : qSto} (h37 : S 70 37 = 4) (h0 : S 90 0 = 1) (h1 : S 90 1 = 3) (h2 : S 90 2 = 2) (h3 : S 90 3 = 0) : ∃ S', M_goesOn S = some (1, S') ∧ fO 90 S S' ∧ S' 90 0 = 2 ∧ S' 90 1 = 0 ∧ S' 90 2 = 1 ∧ S' 90 3 = 3 := by
  rw [M_goesOn, h37, g7_e 2 3 rfl (by omega) (by omega) (by unfold qF; omega) ⟨by omega, by omega⟩ ⟨by omega, by omega⟩, if_neg (by omega), g7_e 1 2 rfl (by omega) (by omega) (by unfold qF; omega) ⟨by omega, by omega⟩ ⟨by omega, by omega⟩, if_neg (by omega), g7_e 0 1 rfl (by omega) (by omega) (by unfold qF; omega) ⟨by omega, by omega⟩ ⟨by omega, by omega⟩, if_pos (by omega)]
  simp only [ob_sn]
  rw [qk_r (by omega) (by omega), if_pos (by omega), h37, g48_e 0 3 (by omega) (by omega) (by omega) (by omega) (by unfold qF; omega) ⟨by omega, by omega⟩ ⟨by omega, by omega⟩, if_neg (by omega), g48_e 0 2 (by omega) (by omega) (by omega) (by omega) (by unfold qF; omega) ⟨by omega, by omega⟩ ⟨by omega, by omega⟩, if_pos (by omega)]
  simp only [ob_sn]
  rw [swaps_e 0 2 (by omega) (by omega) (by omega) (by omega)]
  simp only [ob_sn]
  rw [qsw_off (show (70 : Nat) ≠ 90 by omega), h37, g88_e 1 3 (by omega) (by omega) (by omega) (by omega) (by unfold qF; omega) (by omega), g88_n (by omega) (by omega) (by unfold qF; omega) (by omega)]
  simp only [ob_sn]
  refine ⟨(qsw (qsw S 0 2) 1 3), rfl, fun c hc => by rw [qsw_off hc, qsw_off hc], ?_, ?_, ?_, ?_⟩
  · simp [qsw_v, h0, h1, h2, h3]
  · simp [qsw_v, h0, h1, h2, h3]
  · simp [qsw_v, h0, h1, h2, h3]
  · simp [qsw_v, h0, h1, h2, h3]
theorem gn_4_2013 {S : qSto} (h37 : S 70 37 = 4) (h0 : S 90 0 = 2) (h1 : S 90 1 = 0) (h2 : S 90 2 = 1) (h3 : S 90 3 = 3) : ∃ S', M_goesOn S = some (1, S') ∧ fO 90 S S' ∧ S' 90 0 = 2 ∧ S' 90 1 = 0 ∧ S' 90 2 = 3 ∧ S' 90 3 = 1 := by
  rw [M_goesOn, h37, g7_e 2 3 rfl (by omega) (by omega) (by unfold qF; omega) ⟨by omega, by omega⟩ ⟨by omega, by omega⟩, if_pos (by omega)]
  simp only [ob_sn]
  rw [qk_r (by omega) (by omega), if_pos (by omega), h37, g48_e 2 3 (by omega) (by omega) (by omega) (by omega) (by unfold qF; omega) ⟨by omega, by omega⟩ ⟨by omega, by omega⟩, if_pos (by omega)]
  simp only [ob_sn]
  rw [swaps_e 2 3 (by omega) (by omega) (by omega) (by omega)]
  simp only [ob_sn]
  rw [qsw_off (show (70 : Nat) ≠ 90 by omega), h37, g88_n (by omega) (by omega) (by unfold qF; omega) (by omega)]
  simp only [ob_sn]
  refine ⟨(qsw S 2 3), rfl, fun c hc => by rw [qsw_off hc], ?_, ?_, ?_, ?_⟩
  · simp [qsw_v, h0, h1, h2, h3]
  · simp [qsw_v, h0, h1, h2, h3]
  · simp [qsw_v, h0, h1, h2, h3]
  · simp [qsw_v, h0, h1, h2, h3]
theorem gn_4_2031 {S : qSto} (h37 : S 70 37 = 4) (h0 : S 90 0 = 2) (h1 : S 90 1 = 0) (h2 : S 90 2 = 3) (h3 : S 90 3 = 1) : ∃ S', M_goesOn S = some (1, S') ∧ fO 90 S S' ∧ S' 90 0 = 2 ∧ S' 90 1 = 1 ∧ S' 90 2 = 0 ∧ S' 90 3 = 3 := by
  rw [M_goesOn, h37, g7_e 2 3 rfl (by omega) (by omega) (by unfold qF; omega) ⟨by omega, by omega⟩ ⟨by omega, by omega⟩, if_neg (by omega), g7_e 1 2 rfl (by omega) (by omega) (by unfold qF; omega) ⟨by omega, by omega⟩ ⟨by omega, by omega⟩, if_pos (by omega)]
  simp only [ob_sn]
  rw [qk_r (by omega) (by omega), if_pos (by omega), h37, g48_e 1 3 (by omega) (by omega) (by omega) (by omega) (by unfold qF; omega) ⟨by omega, by omega⟩ ⟨by omega, by omega⟩, if_pos (by omega)]
  simp only [ob_sn]
  rw [swaps_e 1 3 (by omega) (by omega) (by omega) (by omega)]
  simp only [ob_sn]
  rw [qsw_off (show (70 : Nat) ≠ 90 by omega), h37, g88_e 2 3 (by omega) (by omega) (by omega) (by omega) (by unfold qF; omega) (by omega), g88_n (by omega) (by omega) (by unfold qF; omega) (by omega)]
  simp only [ob_sn]
  refine ⟨(qsw (qsw S 1 3) 2 3), rfl, fun c hc => by rw [qsw_off hc, qsw_off hc], ?_, ?_, ?_, ?_⟩
  · simp [qsw_v, h0, h1, h2, h3]
  · simp [qsw_v, h0, h1, h2, h3]
  · simp [qsw_v, h0, h1, h2, h3]
  · simp [qsw_v, h0, h1, h2, h3]
theorem gn_4_2103 {S : qSto} (h37 : S 70 37 = 4) (h0 : S 90 0 = 2) (h1 : S 90 1 = 1) (h2 : S 90 2 = 0) (h3 : S 90 3 = 3) : ∃ S', M_goesOn S = some (1, S') ∧ fO 90 S S' ∧ S' 90 0 = 2 ∧ S' 90 1 = 1 ∧ S' 90 2 = 3 ∧ S' 90 3 = 0 := by
  rw [M_goesOn, h37, g7_e 2 3 rfl (by omega) (by omega) (by unfold qF; omega) ⟨by omega, by omega⟩ ⟨by omega, by omega⟩, if_pos (by omega)]
  simp only [ob_sn]
  rw [qk_r (by omega) (by omega), if_pos (by omega), h37, g48_e 2 3 (by omega) (by omega) (by omega) (by omega) (by unfold qF; omega) ⟨by omega, by omega⟩ ⟨by omega, by omega⟩, if_pos (by omega)]
  simp only [ob_sn]
  rw [swaps_e 2 3 (by omega) (by omega) (by omega) (by omega)]
  simp only [ob_sn]
  rw [qsw_off (show (70 : Nat) ≠ 90 by omega), h37, g88_n (by omega) (by omega) (by unfold qF; omega) (by omega)]
  simp only [ob_sn]
  refine ⟨(qsw S 2 3), rfl, fun c hc => by rw [qsw_off hc], ?_, ?_, ?_, ?_⟩
  · simp [qsw_v, h0, h1, h2, h3]
  · simp [qsw_v, h0, h1, h2, h3]
  · simp [qsw_v, h0, h1, h2, h3]
  · simp [qsw_v, h0, h1, h2, h3]
theorem gn_4_2130 {S : qSto} (h37 : S 70 37 = 4) (h0 : S 90 0 = 2) (h1 : S 90 1 = 1) (h2 : S 90 2 = 3) (h3 : S 90 3 = 0) : ∃ S', M_goesOn S = some (1, S') ∧ fO 90 S S' ∧ S' 90 0 = 2 ∧ S' 90 1 = 3 ∧ S' 90 2 = 0 ∧ S' 90 3 = 1 := by
  rw [M_goesOn, h37, g7_e 2 3 rfl (by omega) (by omega) (by unfold qF; omega) ⟨by omega, by omega⟩ ⟨by omega, by omega⟩, if_neg (by omega), g7_e 1 2 rfl (by omega) (by omega) (by unfold qF; omega) ⟨by omega, by omega⟩ ⟨by omega, by omega⟩, if_pos (by omega)]
  simp only [ob_sn]
  rw [qk_r (by omega) (by omega), if_pos (by omega), h37, g48_e 1 3 (by omega) (by omega) (by omega) (by omega) (by unfold qF; omega) ⟨by omega, by omega⟩ ⟨by omega, by omega⟩, if_neg (by omega), g48_e 1 2 (by omega) (by omega) (by omega) (by omega) (by unfold qF; omega) ⟨by omega, by omega⟩ ⟨by omega, by omega⟩, if_pos (by omega)]
  simp only [ob_sn]
  rw [swaps_e 1 2 (by omega) (by omega) (by omega) (by omega)]
  simp only [ob_sn]
  rw [qsw_off (show (70 : Nat) ≠ 90 by omega), h37, g88_e 2 3 (by omega) (by omega) (by omega) (by omega) (by unfold qF; omega) (by omega), g88_n (by omega) (by omega) (by unfold qF; omega) (by omega)]
  simp only [ob_sn]
  refine ⟨(qsw (qsw S 1 2) 2 3), rfl, fun c hc => by rw [qsw_off hc, qsw_off hc], ?_, ?_, ?_, ?_⟩
  · simp [qsw_v, h0, h1, h2, h3]
  · simp [qsw_v, h0, h1, h2, h3]
  · simp [qsw_v, h0, h1, h2, h3]
  · simp [qsw_v, h0, h1, h2, h3]
theorem gn_4_2301 {S : qSto} (h37 : S 70 37 = 4) (h0 : S 90 0 = 2) (h1 : S 90 1 = 3) (h2 : S 90 2 = 0) (h3 : S 90 3 = 1) : ∃ S', M_goesOn S = some (1, S') ∧ fO 90 S S' ∧ S' 90 0 = 2 ∧ S' 90 1 = 3 ∧ S' 90 2 = 1 ∧ S' 90 3 = 0 := by
  rw [M_goesOn, h37, g7_e 2 3 rfl (by omega) (by omega) (by unfold qF; omega) ⟨by omega, by omega⟩ ⟨by omega, by omega⟩, if_pos (by omega)]
  simp only [ob_sn]
  rw [qk_r (by omega) (by omega), if_pos (by omega), h37, g48_e 2 3 (by omega) (by omega) (by omega) (by omega) (by unfold qF; omega) ⟨by omega, by omega⟩ ⟨by omega, by omega⟩, if_pos (by omega)]
  simp only [ob_sn]
  rw [swaps_e 2 3 (by omega) (by omega) (by omega) (by omega)]
  simp only [ob_sn]
  rw [qsw_off (show (70 : Nat) ≠ 90 by omega), h37, g88_n (by omega) (by omega) (by unfold qF; omega) (by omega)]
  simp only [ob_sn]
  refine ⟨(qsw S 2 3), rfl, fun c hc => by rw [qsw_off hc], ?_, ?_, ?_, ?_⟩
  · simp [qsw_v, h0, h1, h2, h3]
  · simp [qsw_v, h0, h1, h2, h3]
  · simp [qsw_v, h0, h1, h2, h3]
  · simp [qsw_v, h0, h1, h2, h3]
theorem gn_4_2310 {S : qSto} (h37 : S 70 37 = 4) (h0 : S 90 0 = 2) (h1 : S 90 1 = 3) (h2 : S 90 2 = 1) (h3 : S 90 3 = 0) : ∃ S', M_goesOn S = some (1, S') ∧ fO 90 S S' ∧ S' 90 0 = 3 ∧ S' 90 1 = 0 ∧ S' 90 2 = 1 ∧ S' 90 3 = 2 := by
  rw [M_goesOn, h37, g7_e 2 3 rfl (by omega) (by omega) (by unfold qF; omega) ⟨by omega, by omega⟩ ⟨by omega, by omega⟩, if_neg (by omega), g7_e 1 2 rfl (by omega) (by omega) (by unfold qF; omega) ⟨by omega, by omega⟩ ⟨by omega, by omega⟩, if_neg (by omega), g7_e 0 1 rfl (by omega) (by omega) (by unfold qF; omega) ⟨by omega, by omega⟩ ⟨by omega, by omega⟩, if_pos (by omega)]
  simp only [ob_sn]
  rw [qk_r (by omega) (by omega), if_pos (by omega), h37, g48_e 0 3 (by omega) (by omega) (by omega) (by omega) (by unfold qF; omega) ⟨by omega, by omega⟩ ⟨by omega, by omega⟩, if_neg (by omega), g48_e 0 2 (by omega) (by omega) (by omega) (by omega) (by unfold qF; omega) ⟨by omega, by omega⟩ ⟨by omega, by omega⟩, if_neg (by omega), g48_e 0 1 (by omega) (by omega) (by omega) (by omega) (by unfold qF; omega) ⟨by omega, by omega⟩ ⟨by omega, by omega⟩, if_pos (by omega)]
  simp only [ob_sn]
  rw [swaps_e 0 1 (by omega) (by omega) (by omega) (by omega)]
  simp only [ob_sn]
  rw [qsw_off (show (70 : Nat) ≠ 90 by omega), h37, g88_e 1 3 (by omega) (by omega) (by omega) (by omega) (by unfold qF; omega) (by omega), g88_n (by omega) (by omega) (by unfold qF; omega) (by omega)]
  simp only [ob_sn]
  refine ⟨(qsw (qsw S 0 1) 1 3), rfl, fun c hc => by rw [qsw_off hc, qsw_off hc], ?_, ?_, ?_, ?_⟩
  · simp [qsw_v, h0, h1, h2, h3]
  · simp [qsw_v, h0, h1, h2, h3]
  · simp [qsw_v, h0, h1, h2, h3]
  · simp [qsw_v, h0, h1, h2, h3]
theorem gn_4_3012 {S : qSto} (h37 : S 70 37 = 4) (h0 : S 90 0 = 3) (h1 : S 90 1 = 0) (h2 : S 90 2 = 1) (h3 : S 90 3 = 2) : ∃ S', M_goesOn S = some (1, S') ∧ fO 90 S S' ∧ S' 90 0 = 3 ∧ S' 90 1 = 0 ∧ S' 90 2 = 2 ∧ S' 90 3 = 1 := by
  rw [M_goesOn, h37, g7_e 2 3 rfl (by omega) (by omega) (by unfold qF; omega) ⟨by omega, by omega⟩ ⟨by omega, by omega⟩, if_pos (by omega)]
  simp only [ob_sn]
  rw [qk_r (by omega) (by omega), if_pos (by omega), h37, g48_e 2 3 (by omega) (by omega) (by omega) (by omega) (by unfold qF; omega) ⟨by omega, by omega⟩ ⟨by omega, by omega⟩, if_pos (by omega)]
  simp only [ob_sn]
  rw [swaps_e 2 3 (by omega) (by omega) (by omega) (by omega)]
  simp only [ob_sn]
  rw [qsw_off (show (70 : Nat) ≠ 90 by omega), h37, g88_n (by omega) (by omega) (by unfold qF; omega) (by omega)]
  simp only [ob_sn]
  refine ⟨(qsw S 2 3), rfl, fun c hc => by rw [qsw_off hc], ?_, ?_, ?_, ?_⟩
  · simp [qsw_v, h0, h1, h2, h3]
  · simp [qsw_v, h0, h1, h2, h3]
  · simp [qsw_v, h0, h1, h2, h3]
  · simp [qsw_v, h0, h1, h2, h3]
theorem gn_4_3021 {S : qSto} (h37 : S 70 37 = 4) (h0 : S 90 0 = 3) (h1 : S 90 1 = 0) (h2 : S 90 2 = 2) (h3 : S 90 3 = 1) : ∃ S', M_goesOn S = some (1, S') ∧ fO 90 S S' ∧ S' 90 0 = 3 ∧ S' 90 1 = 1 ∧ S' 90 2 = 0 ∧ S' 90 3 = 2 := by
  rw [M_goesOn, h37, g7_e 2 3 rfl (by omega) (by omega) (by unfold qF; omega) ⟨by omega, by omega⟩ ⟨by omega, by omega⟩, if_neg (by omega), g7_e 1 2 rfl (by omega) (by omega) (by unfold qF; omega) ⟨by omega, by omega⟩ ⟨by omega, by omega⟩, if_pos (by omega)]
  simp only [ob_sn]
  rw [qk_r (by omega) (by omega), if_pos (by omega), h37, g48_e 1 3 (by omega) (by omega) (by omega) (by omega) (by unfold qF; omega) ⟨by omega, by omega⟩ ⟨by omega, by omega⟩, if_pos (by omega)]
  simp only [ob_sn]
  rw [swaps_e 1 3 (by omega) (by omega) (by omega) (by omega)]
  simp only [ob_sn]
  rw [qsw_off (show (70 : Nat) ≠ 90 by omega), h37, g88_e 2 3 (by omega) (by omega) (by omega) (by omega) (by unfold qF; omega) (by omega), g88_n (by omega) (by omega) (by unfold qF; omega) (by omega)]
  simp only [ob_sn]
  refine ⟨(qsw (qsw S 1 3) 2 3), rfl, fun c hc => by rw [qsw_off hc, qsw_off hc], ?_, ?_, ?_, ?_⟩
  · simp [qsw_v, h0, h1, h2, h3]
  · simp [qsw_v, h0, h1, h2, h3]
  · simp [qsw_v, h0, h1, h2, h3]
  · simp [qsw_v, h0, h1, h2, h3]
theorem gn_4_3102 {S : qSto} (h37 : S 70 37 = 4) (h0 : S 90 0 = 3) (h1 : S 90 1 = 1) (h2 : S 90 2 = 0) (h3 : S 90 3 = 2) : ∃ S', M_goesOn S = some (1, S') ∧ fO 90 S S' ∧ S' 90 0 = 3 ∧ S' 90 1 = 1 ∧ S' 90 2 = 2 ∧ S' 90 3 = 0 := by
  rw [M_goesOn, h37, g7_e 2 3 rfl (by omega) (by omega) (by unfold qF; omega) ⟨by omega, by omega⟩ ⟨by omega, by omega⟩, if_pos (by omega)]
  simp only [ob_sn]
  rw [qk_r (by omega) (by omega), if_pos (by omega), h37, g48_e 2 3 (by omega) (by omega) (by omega) (by omega) (by unfold qF; omega) ⟨by omega, by omega⟩ ⟨by omega, by omega⟩, if_pos (by omega)]
  simp only [ob_sn]
  rw [swaps_e 2 3 (by omega) (by omega) (by omega) (by omega)]
  simp only [ob_sn]
  rw [qsw_off (show (70 : Nat) ≠ 90 by omega), h37, g88_n (by omega) (by omega) (by unfold qF; omega) (by omega)]
  simp only [ob_sn]
  refine ⟨(qsw S 2 3), rfl, fun c hc => by rw [qsw_off hc], ?_, ?_, ?_, ?_⟩
  · simp [qsw_v, h0, h1, h2, h3]
  · simp [qsw_v, h0, h1, h2, h3]
  · simp [qsw_v, h0, h1, h2, h3]
  · simp [qsw_v, h0, h1, h2, h3]
theorem gn_4_3120 {S : qSto} (h37 : S 70 37 = 4) (h0 : S 90 0 = 3) (h1 : S 90 1 = 1) (h2 : S 90 2 = 2) (h3 : S 90 3 = 0) : ∃ S', M_goesOn S = some (1, S') ∧ fO 90 S S' ∧ S' 90 0 = 3 ∧ S' 90 1 = 2 ∧ S' 90 2 = 0 ∧ S' 90 3 = 1 := by
  rw [M_goesOn, h37, g7_e 2 3 rfl (by omega) (by omega) (by unfold qF; omega) ⟨by omega, by omega⟩ ⟨by omega, by omega⟩, if_neg (by omega), g7_e 1 2 rfl (by omega) (by omega) (by unfold qF; omega) ⟨by omega, by omega⟩ ⟨by omega, by omega⟩, if_pos (by omega)]
  simp only [ob_sn]
  rw [qk_r (by omega) (by omega), if_pos (by omega), h37, g48_e 1 3 (by omega) (by omega) (by omega) (by omega) (by unfold qF; omega) ⟨by omega, by omega⟩ ⟨by omega, by omega⟩, if_neg (by omega), g48_e 1 2 (by omega) (by omega) (by omega) (by omega) (by unfold qF; omega) ⟨by omega, by omega⟩ ⟨by omega, by omega⟩, if_pos (by omega)]
  simp only [ob_sn]
  rw [swaps_e 1 2 (by omega) (by omega) (by omega) (by omega)]
  simp only [ob_sn]
  rw [qsw_off (show (70 : Nat) ≠ 90 by omega), h37, g88_e 2 3 (by omega) (by omega) (by omega) (by omega) (by unfold qF; omega) (by omega), g88_n (by omega) (by omega) (by unfold qF; omega) (by omega)]
  simp only [ob_sn]
  refine ⟨(qsw (qsw S 1 2) 2 3), rfl, fun c hc => by rw [qsw_off hc, qsw_off hc], ?_, ?_, ?_, ?_⟩
  · simp [qsw_v, h0, h1, h2, h3]
  · simp [qsw_v, h0, h1, h2, h3]
  · simp [qsw_v, h0, h1, h2, h3]
  · simp [qsw_v, h0, h1, h2, h3]
theorem gn_4_3201 {S : qSto} (h37 : S 70 37 = 4) (h0 : S 90 0 = 3) (h1 : S 90 1 = 2) (h2 : S 90 2 = 0) (h3 : S 90 3 = 1) : ∃ S', M_goesOn S = some (1, S') ∧ fO 90 S S' ∧ S' 90 0 = 3 ∧ S' 90 1 = 2 ∧ S' 90 2 = 1 ∧ S' 90 3 = 0 := by
  rw [M_goesOn, h37, g7_e 2 3 rfl (by omega) (by omega) (by unfold qF; omega) ⟨by omega, by omega⟩ ⟨by omega, by omega⟩, if_pos (by omega)]
  simp only [ob_sn]
  rw [qk_r (by omega) (by omega), if_pos (by omega), h37, g48_e 2 3 (by omega) (by omega) (by omega) (by omega) (by unfold qF; omega) ⟨by omega, by omega⟩ ⟨by omega, by omega⟩, if_pos (by omega)]
  simp only [ob_sn]
  rw [swaps_e 2 3 (by omega) (by omega) (by omega) (by omega)]
  simp only [ob_sn]
  rw [qsw_off (show (70 : Nat) ≠ 90 by omega), h37, g88_n (by omega) (by omega) (by unfold qF; omega) (by omega)]
  simp only [ob_sn]
  refine ⟨(qsw S 2 3), rfl, fun c hc => by rw [qsw_off hc], ?_, ?_, ?_, ?_⟩
  · simp [qsw_v, h0, h1, h2, h3]
  · simp [qsw_v, h0, h1, h2, h3]
  · simp [qsw_v, h0, h1, h2, h3]
  · simp [qsw_v, h0, h1, h2, h3]
theorem gn_4_3210 {S : qSto} (h37 : S 70 37 = 4) (h0 : S 90 0 = 3) (h1 : S 90 1 = 2) (h2 : S 90 2 = 1) (h3 : S 90 3 = 0) : ∃ S', M_goesOn S = some (0, S') ∧ fO 90 S S' := by
  rw [M_goesOn, h37, g7_e 2 3 rfl (by omega) (by omega) (by unfold qF; omega) ⟨by omega, by omega⟩ ⟨by omega, by omega⟩, if_neg (by omega), g7_e 1 2 rfl (by omega) (by omega) (by unfold qF; omega) ⟨by omega, by omega⟩ ⟨by omega, by omega⟩, if_neg (by omega), g7_e 0 1 rfl (by omega) (by omega) (by unfold qF; omega) ⟨by omega, by omega⟩ ⟨by omega, by omega⟩, if_neg (by omega), g7_n (by omega) (by unfold qF; omega)]
  simp only [ob_sn]
  rw [qk_r (by omega) (by omega), if_neg (by omega)]
  exact ⟨S, rfl, fun c _ => rfl⟩
/-- the orders one behind the other -/
def rU (S : qSto) (p : List Nat) : Prop := ∀ i, i < p.length → S 90 i = (p.getD i 0 : Nat)
def gNx (n : Nat) : List (List Nat) → Prop
  | [] => True
  | [p] => ∀ S : qSto, S 70 37 = n → rU S p → ∃ S', M_goesOn S = some (0, S') ∧ fO 90 S S'
  | p :: q :: r => (∀ S : qSto, S 70 37 = n → rU S p → ∃ S', M_goesOn S = some (1, S') ∧ fO 90 S S' ∧ rU S' q) ∧ gNx n (q :: r)
theorem rU_1 {S : qSto} {a : Nat} (h : rU S [a]) : S 90 0 = a := h 0 (by simp)
theorem rU_2 {S : qSto} {a b : Nat} (h : rU S [a, b]) : S 90 0 = a ∧ S 90 1 = b := ⟨h 0 (by simp), h 1 (by simp)⟩
theorem rU_3 {S : qSto} {a b c : Nat} (h : rU S [a, b, c]) : S 90 0 = a ∧ S 90 1 = b ∧ S 90 2 = c := ⟨h 0 (by simp), h 1 (by simp), h 2 (by simp)⟩
theorem rU_4 {S : qSto} {a b c d : Nat} (h : rU S [a, b, c, d]) : S 90 0 = a ∧ S 90 1 = b ∧ S 90 2 = c ∧ S 90 3 = d := ⟨h 0 (by simp), h 1 (by simp), h 2 (by simp), h 3 (by simp)⟩
theorem rU_2m {S : qSto} {a b : Nat} (h0 : S 90 0 = a) (h1 : S 90 1 = b) : rU S [a, b] := fun i hi => by
  have hi' : i < 2 := hi
  match i, hi' with
  | 0, _ => exact h0
  | 1, _ => exact h1
theorem rU_3m {S : qSto} {a b c : Nat} (h0 : S 90 0 = a) (h1 : S 90 1 = b) (h2 : S 90 2 = c) : rU S [a, b, c] := fun i hi => by
  have hi' : i < 3 := hi
  match i, hi' with
  | 0, _ => exact h0
  | 1, _ => exact h1
  | 2, _ => exact h2
theorem rU_4m {S : qSto} {a b c d : Nat} (h0 : S 90 0 = a) (h1 : S 90 1 = b) (h2 : S 90 2 = c) (h3 : S 90 3 = d) : rU S [a, b, c, d] := fun i hi => by
  have hi' : i < 4 := hi
  match i, hi' with
  | 0, _ => exact h0
  | 1, _ => exact h1
  | 2, _ => exact h2
  | 3, _ => exact h3
theorem pm_1 : pmT 1 1 0 = [[0]] := by decide +kernel
theorem nx_1 : gNx 1 (pmT 1 1 0) := by
  rw [pm_1]
  exact fun S h37 h => by
    have h0 := rU_1 h
    exact gn_1_0 h37 h0
theorem pm_2 : pmT 2 2 0 = [[0, 1], [1, 0]] := by decide +kernel
theorem nx_2 : gNx 2 (pmT 2 2 0) := by
  rw [pm_2]
  exact ⟨fun S h37 h => by
    obtain ⟨h0, h1⟩ := rU_2 h
    obtain ⟨S', t1, t2, v0, v1⟩ := gn_2_01 h37 h0 h1
    exact ⟨S', t1, t2, rU_2m v0 v1⟩, fun S h37 h => by
    obtain ⟨h0, h1⟩ := rU_2 h
    exact gn_2_10 h37 h0 h1⟩
theorem pm_3 : pmT 3 3 0 = [[0, 1, 2], [0, 2, 1], [1, 0, 2], [1, 2, 0], [2, 0, 1], [2, 1, 0]] := by decide +kernel
theorem nx_3 : gNx 3 (pmT 3 3 0) := by
  rw [pm_3]
  exact ⟨fun S h37 h => by
    obtain ⟨h0, h1, h2⟩ := rU_3 h
    obtain ⟨S', t1, t2, v0, v1, v2⟩ := gn_3_012 h37 h0 h1 h2
    exact ⟨S', t1, t2, rU_3m v0 v1 v2⟩, fun S h37 h => by
    obtain ⟨h0, h1, h2⟩ := rU_3 h
    obtain ⟨S', t1, t2, v0, v1, v2⟩ := gn_3_021 h37 h0 h1 h2
    exact ⟨S', t1, t2, rU_3m v0 v1 v2⟩, fun S h37 h => by
    obtain ⟨h0, h1, h2⟩ := rU_3 h
    obtain ⟨S', t1, t2, v0, v1, v2⟩ := gn_3_102 h37 h0 h1 h2
    exact ⟨S', t1, t2, rU_3m v0 v1 v2⟩, fun S h37 h => by
    obtain ⟨h0, h1, h2⟩ := rU_3 h
    obtain ⟨S', t1, t2, v0, v1, v2⟩ := gn_3_120 h37 h0 h1 h2
    exact ⟨S', t1, t2, rU_3m v0 v1 v2⟩, fun S h37 h => by
    obtain ⟨h0, h1, h2⟩ := rU_3 h
    obtain ⟨S', t1, t2, v0, v1, v2⟩ := gn_3_201 h37 h0 h1 h2
    exact ⟨S', t1, t2, rU_3m v0 v1 v2⟩, fun S h37 h => by
    obtain ⟨h0, h1, h2⟩ := rU_3 h
    exact gn_3_210 h37 h0 h1 h2⟩
theorem pm_4 : pmT 4 4 0 = [[0, 1, 2, 3], [0, 1, 3, 2], [0, 2, 1, 3], [0, 2, 3, 1], [0, 3, 1, 2], [0, 3, 2, 1], [1, 0, 2, 3], [1, 0, 3, 2], [1, 2, 0, 3], [1, 2, 3, 0], [1, 3, 0, 2], [1, 3, 2, 0], [2, 0, 1, 3], [2, 0, 3, 1], [2, 1, 0, 3], [2, 1, 3, 0], [2, 3, 0, 1], [2, 3, 1, 0], [3, 0, 1, 2], [3, 0, 2, 1], [3, 1, 0, 2], [3, 1, 2, 0], [3, 2, 0, 1], [3, 2, 1, 0]] := by decide +kernel
theorem nx_4 : gNx 4 (pmT 4 4 0) := by
  rw [pm_4]
  exact ⟨fun S h37 h => by
    obtain ⟨h0, h1, h2, h3⟩ := rU_4 h
    obtain ⟨S', t1, t2, v0, v1, v2, v3⟩ := gn_4_0123 h37 h0 h1 h2 h3
    exact ⟨S', t1, t2, rU_4m v0 v1 v2 v3⟩, fun S h37 h => by
    obtain ⟨h0, h1, h2, h3⟩ := rU_4 h
    obtain ⟨S', t1, t2, v0, v1, v2, v3⟩ := gn_4_0132 h37 h0 h1 h2 h3
    exact ⟨S', t1, t2, rU_4m v0 v1 v2 v3⟩, fun S h37 h => by
    obtain ⟨h0, h1, h2, h3⟩ := rU_4 h
    obtain ⟨S', t1, t2, v0, v1, v2, v3⟩ := gn_4_0213 h37 h0 h1 h2 h3
    exact ⟨S', t1, t2, rU_4m v0 v1 v2 v3⟩, fun S h37 h => by
    obtain ⟨h0, h1, h2, h3⟩ := rU_4 h
    obtain ⟨S', t1, t2, v0, v1, v2, v3⟩ := gn_4_0231 h37 h0 h1 h2 h3
    exact ⟨S', t1, t2, rU_4m v0 v1 v2 v3⟩, fun S h37 h => by
    obtain ⟨h0, h1, h2, h3⟩ := rU_4 h
    obtain ⟨S', t1, t2, v0, v1, v2, v3⟩ := gn_4_0312 h37 h0 h1 h2 h3
    exact ⟨S', t1, t2, rU_4m v0 v1 v2 v3⟩, fun S h37 h => by
    obtain ⟨h0, h1, h2, h3⟩ := rU_4 h
    obtain ⟨S', t1, t2, v0, v1, v2, v3⟩ := gn_4_0321 h37 h0 h1 h2 h3
    exact ⟨S', t1, t2, rU_4m v0 v1 v2 v3⟩, fun S h37 h => by
    obtain ⟨h0, h1, h2, h3⟩ := rU_4 h
    obtain ⟨S', t1, t2, v0, v1, v2, v3⟩ := gn_4_1023 h37 h0 h1 h2 h3
    exact ⟨S', t1, t2, rU_4m v0 v1 v2 v3⟩, fun S h37 h => by
    obtain ⟨h0, h1, h2, h3⟩ := rU_4 h
    obtain ⟨S', t1, t2, v0, v1, v2, v3⟩ := gn_4_1032 h37 h0 h1 h2 h3
    exact ⟨S', t1, t2, rU_4m v0 v1 v2 v3⟩, fun S h37 h => by
    obtain ⟨h0, h1, h2, h3⟩ := rU_4 h
    obtain ⟨S', t1, t2, v0, v1, v2, v3⟩ := gn_4_1203 h37 h0 h1 h2 h3
    exact ⟨S', t1, t2, rU_4m v0 v1 v2 v3⟩, fun S h37 h => by
    obtain ⟨h0, h1, h2, h3⟩ := rU_4 h
    obtain ⟨S', t1, t2, v0, v1, v2, v3⟩ := gn_4_1230 h37 h0 h1 h2 h3
    exact ⟨S', t1, t2, rU_4m v0 v1 v2 v3⟩, fun S h37 h => by
    obtain ⟨h0, h1, h2, h3⟩ := rU_4 h
    obtain ⟨S', t1, t2, v0, v1, v2, v3⟩ := gn_4_1302 h37 h0 h1 h2 h3
    exact ⟨S', t1, t2, rU_4m v0 v1 v2 v3⟩, fun S h37 h => by
    obtain ⟨h0, h1, h2, h3⟩ := rU_4 h
    obtain ⟨S', t1, t2, v0, v1, v2, v3⟩ := gn_4_1320 h37 h0 h1 h2 h3
    exact ⟨S', t1, t2, rU_4m v0 v1 v2 v3⟩, fun S h37 h => by
    obtain ⟨h0, h1, h2, h3⟩ := rU_4 h
    obtain ⟨S', t1, t2, v0, v1, v2, v3⟩ := gn_4_2013 h37 h0 h1 h2 h3
    exact ⟨S', t1, t2, rU_4m v0 v1 v2 v3⟩, fun S h37 h => by
    obtain ⟨h0, h1, h2, h3⟩ := rU_4 h
    obtain ⟨S', t1, t2, v0, v1, v2, v3⟩ := gn_4_2031 h37 h0 h1 h2 h3
    exact ⟨S', t1, t2, rU_4m v0 v1 v2 v3⟩, fun S h37 h => by
    obtain ⟨h0, h1, h2, h3⟩ := rU_4 h
    obtain ⟨S', t1, t2, v0, v1, v2, v3⟩ := gn_4_2103 h37 h0 h1 h2 h3
    exact ⟨S', t1, t2, rU_4m v0 v1 v2 v3⟩, fun S h37 h => by
    obtain ⟨h0, h1, h2, h3⟩ := rU_4 h
    obtain ⟨S', t1, t2, v0, v1, v2, v3⟩ := gn_4_2130 h37 h0 h1 h2 h3
    exact ⟨S', t1, t2, rU_4m v0 v1 v2 v3⟩, fun S h37 h => by
    obtain ⟨h0, h1, h2, h3⟩ := rU_4 h
    obtain ⟨S', t1, t2, v0, v1, v2, v3⟩ := gn_4_2301 h37 h0 h1 h2 h3
    exact ⟨S', t1, t2, rU_4m v0 v1 v2 v3⟩, fun S h37 h => by
    obtain ⟨h0, h1, h2, h3⟩ := rU_4 h
    obtain ⟨S', t1, t2, v0, v1, v2, v3⟩ := gn_4_2310 h37 h0 h1 h2 h3
    exact ⟨S', t1, t2, rU_4m v0 v1 v2 v3⟩, fun S h37 h => by
    obtain ⟨h0, h1, h2, h3⟩ := rU_4 h
    obtain ⟨S', t1, t2, v0, v1, v2, v3⟩ := gn_4_3012 h37 h0 h1 h2 h3
    exact ⟨S', t1, t2, rU_4m v0 v1 v2 v3⟩, fun S h37 h => by
    obtain ⟨h0, h1, h2, h3⟩ := rU_4 h
    obtain ⟨S', t1, t2, v0, v1, v2, v3⟩ := gn_4_3021 h37 h0 h1 h2 h3
    exact ⟨S', t1, t2, rU_4m v0 v1 v2 v3⟩, fun S h37 h => by
    obtain ⟨h0, h1, h2, h3⟩ := rU_4 h
    obtain ⟨S', t1, t2, v0, v1, v2, v3⟩ := gn_4_3102 h37 h0 h1 h2 h3
    exact ⟨S', t1, t2, rU_4m v0 v1 v2 v3⟩, fun S h37 h => by
    obtain ⟨h0, h1, h2, h3⟩ := rU_4 h
    obtain ⟨S', t1, t2, v0, v1, v2, v3⟩ := gn_4_3120 h37 h0 h1 h2 h3
    exact ⟨S', t1, t2, rU_4m v0 v1 v2 v3⟩, fun S h37 h => by
    obtain ⟨h0, h1, h2, h3⟩ := rU_4 h
    obtain ⟨S', t1, t2, v0, v1, v2, v3⟩ := gn_4_3201 h37 h0 h1 h2 h3
    exact ⟨S', t1, t2, rU_4m v0 v1 v2 v3⟩, fun S h37 h => by
    obtain ⟨h0, h1, h2, h3⟩ := rU_4 h
    exact gn_4_3210 h37 h0 h1 h2 h3⟩
theorem nx_all {n : Nat} (h1 : 1 ≤ n) (h4 : n ≤ 4) : gNx n (pmT n n 0) := by
  have : n = 1 ∨ n = 2 ∨ n = 3 ∨ n = 4 := by omega
  rcases this with rfl | rfl | rfl | rfl
  · exact nx_1
  · exact nx_2
  · exact nx_3
  · exact nx_4
theorem pm_hd {n : Nat} (h1 : 1 ≤ n) (h4 : n ≤ 4) : ∃ r, pmT n n 0 = List.range n :: r := by
  have : n = 1 ∨ n = 2 ∨ n = 3 ∨ n = 4 := by omega
  rcases this with rfl | rfl | rfl | rfl
  · exact ⟨_, pm_1⟩
  · exact ⟨_, pm_2⟩
  · exact ⟨_, pm_3⟩
  · exact ⟨_, pm_4⟩
