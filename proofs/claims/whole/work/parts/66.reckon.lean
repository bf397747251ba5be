/-! levels and depths for all hours and metres -/
section PWB
variable {T : Nat → Int}
theorem ixor_r {a b : Int} : qR (qb_ixor a b) := by
  have h1 := Int32.le_toInt (Int32.ofInt a ^^^ Int32.ofInt b)
  have h2 := Int32.toInt_lt (Int32.ofInt a ^^^ Int32.ofInt b)
  exact ⟨h1, by unfold qb_ixor; omega⟩
def fL (x d : Int) : Int := if x.tdiv d * d ≤ x then x.tdiv d else x.tdiv d - 1
theorem fL_s {x d : Int} (hd : 0 < d) : fL x d * d ≤ x ∧ x < (fL x d + 1) * d := by
  obtain ⟨h1, h2, -, -⟩ := fdiv_s (x := x) hd
  unfold fL
  by_cases g : x.tdiv d * d ≤ x
  · rw [if_pos g]
    exact h1 g
  · rw [if_neg g]
    exact h2 g
theorem floorDiv_s {S : qSto} {x d : Int} (hd : 0 < d ∧ d ≤ 335) (hx : -33165 ≤ x ∧ x ≤ 33165) : Jm_floorDiv x d S = some (fL x d, S) := by
  obtain ⟨-, -, h3, h4⟩ := fdiv_s (x := x) hd.1
  have ir := ixor_r (a := x) (b := d)
  have is := ixor_s (a := x) (b := d) ⟨by omega, by omega⟩ ⟨by omega, by omega⟩
  rw [Jm_floorDiv, qk_r (by omega) (by omega), qk_r (by omega) (by omega), qk_nz (by omega), qk_r ir.1 ir.2]
  unfold fL
  by_cases g : 0 ≤ x
  · rw [if_pos (is.mpr (by omega)), if_pos (h3.mpr (Or.inl g))]
  · rw [if_neg (fun q => by have := is.mp q; omega), qk_r (by omega) (by omega), qk_r (by omega) (by omega)]
    by_cases w : x.tdiv d * d = x
    · rw [if_pos w, if_pos (h3.mpr (Or.inr w))]
    · rw [if_neg w, if_neg (fun q => by
        rcases h3.mp q with z | z
        · exact g z
        · exact w z)]
/-- between two levels -/
theorem lev_mid {h1 h2 u d : Int} (a1 : 0 ≤ h1 ∧ h1 ≤ 99) (a2 : 0 ≤ h2 ∧ h2 ≤ 99) (hu : 0 ≤ u) (hud : u < d) : 0 ≤ h1 + fL ((h2 - h1) * u) d ∧ h1 + fL ((h2 - h1) * u) d ≤ 99 := by
  obtain ⟨b1, b2⟩ := fL_s (x := (h2 - h1) * u) (d := d) (by omega)
  generalize fL ((h2 - h1) * u) d = q at b1 b2
  by_cases g : h1 ≤ h2
  · have c1 : 0 ≤ (h2 - h1) * u := Int.mul_nonneg (by omega) hu
    have c2 : (h2 - h1) * u ≤ (h2 - h1) * d := Int.mul_le_mul_of_nonneg_left (by omega) (by omega)
    have d1 : 0 < q + 1 := by
      by_cases w : 0 < q + 1
      · exact w
      · have := Int.mul_le_mul_of_nonneg_right (show q + 1 ≤ 0 by omega) (show 0 ≤ d by omega)
        rw [Int.zero_mul] at this
        omega
    have d2 : q ≤ h2 - h1 := by
      by_cases w : q ≤ h2 - h1
      · exact w
      · have := Int.mul_lt_mul_of_pos_right (show h2 - h1 < q by omega) (show 0 < d by omega)
        omega
    omega
  · have c1 : (h2 - h1) * u ≤ 0 := by
      have := Int.mul_le_mul_of_nonneg_right (show h2 - h1 ≤ 0 by omega) hu
      rw [Int.zero_mul] at this
      exact this
    have c2 : (h2 - h1) * d ≤ (h2 - h1) * u := Int.mul_le_mul_of_nonpos_left (by omega) (by omega)
    have d1 : q ≤ 0 := by
      by_cases w : q ≤ 0
      · exact w
      · have := Int.mul_lt_mul_of_pos_right (show 0 < q by omega) (show 0 < d by omega)
        rw [Int.zero_mul] at this
        omega
    have d2 : h2 - h1 < q + 1 := by
      by_cases w : h2 - h1 < q + 1
      · exact w
      · have := Int.mul_le_mul_of_nonneg_right (show q + 1 ≤ h2 - h1 by omega) (show 0 ≤ d by omega)
        omega
    omega
theorem prod_b {p u : Int} (hp : -99 ≤ p ∧ p ≤ 99) (hu : 0 ≤ u ∧ u ≤ 335) : -33165 ≤ p * u ∧ p * u ≤ 33165 := by
  have a := Int.mul_le_mul_of_nonneg_right hp.2 hu.1
  have b := Int.mul_le_mul_of_nonneg_right hp.1 hu.1
  omega
def cWat (S : qSto) (T : Nat → Int) : Prop := S 2 8 = T 8 ∧ ∀ k : Nat, (k : Int) < T 8 → S 20 k = T (43 + k) ∧ S 21 k = T (73 + k)
end PWB
