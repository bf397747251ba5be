/-! levels and depths are reckoned -/
theorem ofInt_msb {a : Int} (h : qR a) : (Int32.ofInt a).toBitVec.msb = decide (a < 0) := by
  have e : (Int32.ofInt a).toBitVec.toInt = a := by
    show (Int32.ofInt a).toInt = a
    rw [Int32.toInt_ofInt]
    obtain ⟨h1, h2⟩ := h
    show (if a % ((4294967296 : Nat) : Int) < (((4294967296 : Nat) : Int) + 1) / 2 then a % ((4294967296 : Nat) : Int) else a % ((4294967296 : Nat) : Int) - ((4294967296 : Nat) : Int)) = a
    split <;> omega
  rw [BitVec.msb_eq_toInt, e]
theorem ixor_s {a b : Int} (ha : qR a) (hb : qR b) : 0 ≤ qb_ixor a b ↔ (a < 0 ↔ b < 0) := by
  have e : decide (qb_ixor a b < 0) = ((decide (a < 0)) ^^ (decide (b < 0))) := by
    unfold qb_ixor
    show decide ((Int32.ofInt a ^^^ Int32.ofInt b).toBitVec.toInt < 0) = _
    rw [← BitVec.msb_eq_toInt, Int32.toBitVec_xor, BitVec.msb_xor, ofInt_msb ha, ofInt_msb hb]
  by_cases g1 : a < 0 <;> by_cases g2 : b < 0 <;> simp [g1, g2] at e ⊢ <;> omega
/-- floor division, as the class does it and as the reference does it -/
theorem fdiv_s {x d : Int} (hd : 0 < d) : (x.tdiv d * d ≤ x → (x.tdiv d) * d ≤ x ∧ x < (x.tdiv d + 1) * d) ∧ (¬ x.tdiv d * d ≤ x → (x.tdiv d - 1) * d ≤ x ∧ x < (x.tdiv d - 1 + 1) * d) ∧ (x.tdiv d * d ≤ x ↔ (0 ≤ x ∨ x.tdiv d * d = x)) ∧ (-(x.natAbs : Int) ≤ x.tdiv d * d ∧ x.tdiv d * d ≤ x.natAbs) := by
  have e := Int.mul_tdiv_add_tmod x d
  rw [Int.mul_comm] at e
  have a1 : (x.tdiv d + 1) * d = x.tdiv d * d + d := by rw [Int.add_mul, Int.one_mul]
  have a2 : (x.tdiv d - 1) * d = x.tdiv d * d - d := by rw [Int.sub_mul, Int.one_mul]
  have a3 : (x.tdiv d - 1 + 1) * d = x.tdiv d * d := by rw [Int.sub_add_cancel]
  have b1 := Int.tmod_lt_of_pos x hd
  by_cases g : 0 ≤ x
  · have b2 := Int.tmod_nonneg d g
    have b4 : 0 ≤ x.tdiv d * d := Int.mul_nonneg (Int.tdiv_nonneg g (show 0 ≤ d by omega)) (by omega)
    rw [a1, a2, a3]
    generalize x.tdiv d * d = y at e a1 a2 a3 b4
    omega
  · have e2 : (-x).tmod d = -(x.tmod d) := Int.neg_tmod ..
    have b2 := Int.tmod_nonneg d (show 0 ≤ -x by omega)
    have b3 := Int.tmod_lt_of_pos (-x) hd
    have b4 : x.tdiv d * d ≤ 0 := by
      have : (-x).tdiv d = -(x.tdiv d) := Int.neg_tdiv ..
      have h := Int.tdiv_nonneg (show 0 ≤ -x by omega) (show 0 ≤ d by omega)
      rw [this] at h
      have := Int.mul_nonneg h (show 0 ≤ d by omega)
      rw [Int.neg_mul] at this
      omega
    rw [a1, a2, a3]
    generalize x.tdiv d * d = y at e a1 a2 a3 b4
    omega
section PWA
variable {T : Nat → Int}
/-- of the first i tides: the last one up to t, the first one after t -/
def wL (T : Nat → Int) (t : Int) : Nat → Int × Int
  | 0 => (-1, -1)
  | i + 1 => (if t < T (43 + i) then (wL T t i).1 else if (wL T t i).1 = -1 then (i : Int) else if T (43 + i) ≤ T (43 + (wL T t i).1.toNat) then (wL T t i).1 else (i : Int),
      if T (43 + i) ≤ t then (wL T t i).2 else if (wL T t i).2 = -1 then (i : Int) else if T (43 + (wL T t i).2.toNat) ≤ T (43 + i) then (wL T t i).2 else (i : Int))
theorem wL_b {t : Int} : ∀ i : Nat, ((wL T t i).1 = -1 ∨ (0 ≤ (wL T t i).1 ∧ (wL T t i).1 < i ∧ T (43 + (wL T t i).1.toNat) ≤ t)) ∧ ((wL T t i).2 = -1 ∨ (0 ≤ (wL T t i).2 ∧ (wL T t i).2 < i ∧ t < T (43 + (wL T t i).2.toNat)))
  | 0 => ⟨Or.inl rfl, Or.inl rfl⟩
  | i + 1 => by
    obtain ⟨h1, h2⟩ := wL_b (t := t) i
    have e : ((i : Nat) : Int).toNat = i := Int.toNat_natCast i
    constructor
    · show (if t < T (43 + i) then (wL T t i).1 else if (wL T t i).1 = -1 then (i : Int) else if T (43 + i) ≤ T (43 + (wL T t i).1.toNat) then (wL T t i).1 else (i : Int)) = -1 ∨ (0 ≤ (if t < T (43 + i) then (wL T t i).1 else if (wL T t i).1 = -1 then (i : Int) else if T (43 + i) ≤ T (43 + (wL T t i).1.toNat) then (wL T t i).1 else (i : Int)) ∧ (if t < T (43 + i) then (wL T t i).1 else if (wL T t i).1 = -1 then (i : Int) else if T (43 + i) ≤ T (43 + (wL T t i).1.toNat) then (wL T t i).1 else (i : Int)) < ((i + 1 : Nat) : Int) ∧ T (43 + (if t < T (43 + i) then (wL T t i).1 else if (wL T t i).1 = -1 then (i : Int) else if T (43 + i) ≤ T (43 + (wL T t i).1.toNat) then (wL T t i).1 else (i : Int)).toNat) ≤ t)
      by_cases g1 : t < T (43 + i)
      · rw [if_pos g1]
        rcases h1 with q | ⟨q1, q2, q3⟩
        · exact Or.inl q
        · exact Or.inr ⟨q1, by omega, q3⟩
      · rw [if_neg g1]
        by_cases g2 : (wL T t i).1 = -1
        · rw [if_pos g2, e]
          exact Or.inr ⟨by omega, by omega, by omega⟩
        · rw [if_neg g2]
          by_cases g3 : T (43 + i) ≤ T (43 + (wL T t i).1.toNat)
          · rw [if_pos g3]
            rcases h1 with q | ⟨q1, q2, q3⟩
            · exact absurd q g2
            · exact Or.inr ⟨q1, by omega, q3⟩
          · rw [if_neg g3, e]
            exact Or.inr ⟨by omega, by omega, by omega⟩
    · show (if T (43 + i) ≤ t then (wL T t i).2 else if (wL T t i).2 = -1 then (i : Int) else if T (43 + (wL T t i).2.toNat) ≤ T (43 + i) then (wL T t i).2 else (i : Int)) = -1 ∨ (0 ≤ (if T (43 + i) ≤ t then (wL T t i).2 else if (wL T t i).2 = -1 then (i : Int) else if T (43 + (wL T t i).2.toNat) ≤ T (43 + i) then (wL T t i).2 else (i : Int)) ∧ (if T (43 + i) ≤ t then (wL T t i).2 else if (wL T t i).2 = -1 then (i : Int) else if T (43 + (wL T t i).2.toNat) ≤ T (43 + i) then (wL T t i).2 else (i : Int)) < ((i + 1 : Nat) : Int) ∧ t < T (43 + (if T (43 + i) ≤ t then (wL T t i).2 else if (wL T t i).2 = -1 then (i : Int) else if T (43 + (wL T t i).2.toNat) ≤ T (43 + i) then (wL T t i).2 else (i : Int)).toNat))
      by_cases g1 : T (43 + i) ≤ t
      · rw [if_pos g1]
        rcases h2 with q | ⟨q1, q2, q3⟩
        · exact Or.inl q
        · exact Or.inr ⟨q1, by omega, q3⟩
      · rw [if_neg g1]
        by_cases g2 : (wL T t i).2 = -1
        · rw [if_pos g2, e]
          exact Or.inr ⟨by omega, by omega, by omega⟩
        · rw [if_neg g2]
          by_cases g3 : T (43 + (wL T t i).2.toNat) ≤ T (43 + i)
          · rw [if_pos g3]
            rcases h2 with q | ⟨q1, q2, q3⟩
            · exact absurd q g2
            · exact Or.inr ⟨q1, by omega, q3⟩
          · rw [if_neg g3, e]
            exact Or.inr ⟨by omega, by omega, by omega⟩
/-- the class' and the reference's search -/
theorem cLev_L {S : qSto} {c : Nat} (h28 : S 2 8 = c) (hc : c ≤ 30) (h20 : ∀ k : Nat, k < c → S 20 k = T (43 + k)) (hr : ∀ k : Nat, k < c → 0 ≤ T (43 + k) ∧ T (43 + k) ≤ 335) {t : Nat} (ht : t < 336) : ∀ (r f i : Nat), i + r = c → r < f → Waters_levelAt_L7 f (t : Int) (wL T t i).1 (wL T t i).2 (i : Int) S = some ((wL T t c).1, (wL T t c).2, S)
  | 0, f + 1, i, e, _ => by
    have ei : i = c := by omega
    rw [Waters_levelAt_L7, h28, qk_r (by omega) (by omega), qk_r (by omega) (by omega), if_pos (by omega), ei]
  | r + 1, f + 1, i, e, hf => by
    obtain ⟨b1, b2⟩ := wL_b (T := T) (t := t) i
    have ri := hr i (by omega)
    have ih := cLev_L h28 hc h20 hr ht r f (i + 1) (by omega) (by omega)
    rw [Waters_levelAt_L7, h28, qk_r (by omega) (by omega), qk_r (by omega) (by omega), if_neg (by omega), qk_ix (by omega) (by omega), Int.toNat_natCast, h20 i (by omega)]
    have e1 : (qk (qRb (T (43 + i))) (qk (qRb (t : Int)) (if (t : Int) < T (43 + i) then some (wL T t i).1 else (qk (qRb (wL T t i).1) (if (wL T t i).1 = (-1) then some (i : Int) else (qk (qIx (wL T t i).1 30) (qk (qRb (T (43 + i))) (qk (qRb (S 20 (Int.toNat (wL T t i).1))) (if T (43 + i) ≤ (S 20 (Int.toNat (wL T t i).1)) then some (wL T t i).1 else some (i : Int))))))))) : Option Int) = some (wL T t (i + 1)).1 := by
      rw [qk_r (by omega) (by omega), qk_r (by omega) (by omega), wL]
      simp only
      by_cases g1 : (t : Int) < T (43 + i)
      · rw [if_pos g1, if_pos g1]
      · rw [if_neg g1, if_neg g1, qk_r (by omega) (by omega)]
        by_cases g2 : (wL T t i).1 = -1
        · rw [if_pos g2, if_pos g2]
        · have rj := hr (wL T t i).1.toNat (by omega)
          rw [if_neg g2, if_neg g2, qk_ix (by omega) (by omega), h20 _ (by omega), qk_r (by omega) (by omega), qk_r (by omega) (by omega)]
          by_cases g3 : T (43 + i) ≤ T (43 + (wL T t i).1.toNat)
          · rw [if_pos g3, if_pos g3]
          · rw [if_neg g3, if_neg g3]
    have e2 : (qk (qRb (T (43 + i))) (qk (qRb (t : Int)) (if T (43 + i) ≤ (t : Int) then some (wL T t i).2 else (qk (qRb (wL T t i).2) (if (wL T t i).2 = (-1) then some (i : Int) else (qk (qIx (wL T t i).2 30) (qk (qRb (T (43 + i))) (qk (qRb (S 20 (Int.toNat (wL T t i).2))) (if (S 20 (Int.toNat (wL T t i).2)) ≤ T (43 + i) then some (wL T t i).2 else some (i : Int))))))))) : Option Int) = some (wL T t (i + 1)).2 := by
      rw [qk_r (by omega) (by omega), qk_r (by omega) (by omega), wL]
      simp only
      by_cases g1 : T (43 + i) ≤ (t : Int)
      · rw [if_pos g1, if_pos g1]
      · rw [if_neg g1, if_neg g1, qk_r (by omega) (by omega)]
        by_cases g2 : (wL T t i).2 = -1
        · rw [if_pos g2, if_pos g2]
        · have rj := hr (wL T t i).2.toNat (by omega)
          rw [if_neg g2, if_neg g2, qk_ix (by omega) (by omega), h20 _ (by omega), qk_r (by omega) (by omega), qk_r (by omega) (by omega)]
          by_cases g3 : T (43 + (wL T t i).2.toNat) ≤ T (43 + i)
          · rw [if_pos g3, if_pos g3]
          · rw [if_neg g3, if_neg g3]
    rw [e1]
    simp only [ob_sn]
    rw [e2]
    simp only [ob_sn]
    exact ih
theorem mLev_L {S : qSto} {c : Nat} (h8 : T 8 = c) (h72 : ∀ k : Nat, S 72 k = T k) (hc : c ≤ 30) (hr : ∀ k : Nat, k < c → 0 ≤ T (43 + k) ∧ T (43 + k) ≤ 335) {t : Nat} (ht : t < 336) : ∀ (r f i : Nat), i + r = c → r < f → M_levelBy_L7 f (t : Int) (wL T t i).1 (wL T t i).2 (i : Int) S = some ((wL T t c).1, (wL T t c).2, S)
  | 0, f + 1, i, e, _ => by
    have ei : i = c := by omega
    rw [M_levelBy_L7, h72, h8, qk_r (by omega) (by omega), qk_r (by omega) (by omega), if_pos (by omega), ei]
  | r + 1, f + 1, i, e, hf => by
    obtain ⟨b1, b2⟩ := wL_b (T := T) (t := t) i
    have ri := hr i (by omega)
    have ih := mLev_L h8 h72 hc hr ht r f (i + 1) (by omega) (by omega)
    have ix : ((43 : Int) + (i : Int)).toNat = 43 + i := by omega
    rw [M_levelBy_L7, h72 8, h8, qk_r (by omega) (by omega), qk_r (by omega) (by omega), if_neg (by omega), qk_ix (by omega) (by omega), ix, h72 (43 + i)]
    have e1 : (qk (qRb (T (43 + i))) (qk (qRb (t : Int)) (if (t : Int) < T (43 + i) then some (wL T t i).1 else (qk (qRb (wL T t i).1) (if (wL T t i).1 = (-1) then some (i : Int) else (qk (qIx (43 + (wL T t i).1) 250) (qk (qRb (T (43 + i))) (qk (qRb (S 72 (Int.toNat (43 + (wL T t i).1)))) (if T (43 + i) ≤ (S 72 (Int.toNat (43 + (wL T t i).1))) then some (wL T t i).1 else some (i : Int))))))))) : Option Int) = some (wL T t (i + 1)).1 := by
      rw [qk_r (by omega) (by omega), qk_r (by omega) (by omega), wL]
      simp only
      by_cases g1 : (t : Int) < T (43 + i)
      · rw [if_pos g1, if_pos g1]
      · rw [if_neg g1, if_neg g1, qk_r (by omega) (by omega)]
        by_cases g2 : (wL T t i).1 = -1
        · rw [if_pos g2, if_pos g2]
        · have rj := hr (wL T t i).1.toNat (by omega)
          have iy : ((43 : Int) + (wL T t i).1).toNat = 43 + (wL T t i).1.toNat := by omega
          rw [if_neg g2, if_neg g2, qk_ix (by omega) (by omega), h72, iy, qk_r (by omega) (by omega), qk_r (by omega) (by omega)]
          by_cases g3 : T (43 + i) ≤ T (43 + (wL T t i).1.toNat)
          · rw [if_pos g3, if_pos g3]
          · rw [if_neg g3, if_neg g3]
    have e2 : (qk (qRb (T (43 + i))) (qk (qRb (t : Int)) (if T (43 + i) ≤ (t : Int) then some (wL T t i).2 else (qk (qRb (wL T t i).2) (if (wL T t i).2 = (-1) then some (i : Int) else (qk (qIx (43 + (wL T t i).2) 250) (qk (qRb (T (43 + i))) (qk (qRb (S 72 (Int.toNat (43 + (wL T t i).2)))) (if (S 72 (Int.toNat (43 + (wL T t i).2))) ≤ T (43 + i) then some (wL T t i).2 else some (i : Int))))))))) : Option Int) = some (wL T t (i + 1)).2 := by
      rw [qk_r (by omega) (by omega), qk_r (by omega) (by omega), wL]
      simp only
      by_cases g1 : T (43 + i) ≤ (t : Int)
      · rw [if_pos g1, if_pos g1]
      · rw [if_neg g1, if_neg g1, qk_r (by omega) (by omega)]
        by_cases g2 : (wL T t i).2 = -1
        · rw [if_pos g2, if_pos g2]
        · have rj := hr (wL T t i).2.toNat (by omega)
          have iy : ((43 : Int) + (wL T t i).2).toNat = 43 + (wL T t i).2.toNat := by omega
          rw [if_neg g2, if_neg g2, qk_ix (by omega) (by omega), h72, iy, qk_r (by omega) (by omega), qk_r (by omega) (by omega)]
          by_cases g3 : T (43 + (wL T t i).2.toNat) ≤ T (43 + i)
          · rw [if_pos g3, if_pos g3]
          · rw [if_neg g3, if_neg g3]
    rw [e1]
    simp only [ob_sn]
    rw [e2]
    simp only [ob_sn]
    exact ih
end PWA
