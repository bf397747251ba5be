/-! what is heard is taken over -/
def tk1 (S : qSto) : qSto := qua S 15 (qcpy S 25 15 0 0 6)
def tk2 (S : qSto) : qSto := qup S 2 1 (S 3 1)
def tk3 (S : qSto) : qSto := qup S 2 2 (S 3 2)
def tk4 (S : qSto) : qSto := qua S 16 (qcpy S 26 16 0 0 8)
def tk5 (S : qSto) : qSto := qua S 17 (qcpy S 27 17 0 0 8)
def tk6 (S : qSto) : qSto := qup S 2 5 (S 3 5)
def tk7 (S : qSto) : qSto := qua S 18 (qcpy S 28 18 0 0 8)
def tk8 (S : qSto) : qSto := qua S 19 (qcpy S 29 19 0 0 8)
def tk9 (S : qSto) : qSto := qup S 2 8 (S 3 8)
def tk10 (S : qSto) : qSto := qua S 20 (qcpy S 30 20 0 0 30)
def tk11 (S : qSto) : qSto := qua S 21 (qcpy S 31 21 0 0 30)
def tk12 (S : qSto) : qSto := qua S 22 (qcpy S 32 22 0 0 21)
def tk13 (S : qSto) : qSto := qup S 2 12 (S 3 12)
def tk14 (S : qSto) : qSto := qua S 23 (qcpy S 33 23 0 0 126)
def tk15 (S : qSto) : qSto := qua S 24 (qcpy S 34 24 0 0 112)
def tkS (S : qSto) : qSto := tk15 (tk14 (tk13 (tk12 (tk11 (tk10 (tk9 (tk8 (tk7 (tk6 (tk5 (tk4 (tk3 (tk2 (tk1 S))))))))))))))
theorem takeOver_e (S : qSto) : Told_takeOver_3 S = some (tkS S) := rfl
theorem tk_cpy {S : qSto} {c0 c1 n u : Nat} (hu : u < n) : qua S c1 (qcpy S c0 c1 0 0 n) c1 u = S c0 u := by
  rw [qua_on]
  show (if 0 ≤ u ∧ u < 0 + n then S c0 (0 + (u - 0)) else S c1 u) = S c0 u
  rw [if_pos (by omega), Nat.zero_add, Nat.sub_zero]
theorem takeOver_s (S : qSto) : ∃ S', Told_takeOver_3 S = some S' ∧ (∀ u, u < 6 → S' 15 u = S 25 u) ∧ S' 2 1 = S 3 1 ∧ S' 2 2 = S 3 2 ∧ (∀ u, u < 8 → S' 16 u = S 26 u) ∧ (∀ u, u < 8 → S' 17 u = S 27 u) ∧ S' 2 5 = S 3 5 ∧ (∀ u, u < 8 → S' 18 u = S 28 u) ∧ (∀ u, u < 8 → S' 19 u = S 29 u) ∧ S' 2 8 = S 3 8 ∧ (∀ u, u < 30 → S' 20 u = S 30 u) ∧ (∀ u, u < 30 → S' 21 u = S 31 u) ∧ (∀ u, u < 21 → S' 22 u = S 32 u) ∧ S' 2 12 = S 3 12 ∧ (∀ u, u < 126 → S' 23 u = S 33 u) ∧ (∀ u, u < 112 → S' 24 u = S 34 u) ∧ ∀ c, ¬ (c = 2 ∨ (15 ≤ c ∧ c ≤ 24)) → S' c = S c := by
  obtain ⟨S1, e1⟩ : ∃ S1, S1 = tk1 S := ⟨_, rfl⟩
  have f1 : ∀ c, c ≠ 15 → S1 c = S c := fun c h => by rw [e1, tk1, qua_off c h]
  have v1 : ∀ u, u < 6 → S1 15 u = S 25 u := fun u h => by rw [e1, tk1, tk_cpy h]
  obtain ⟨S2, e2⟩ : ∃ S2, S2 = tk2 S1 := ⟨_, rfl⟩
  have f2 : ∀ c, c ≠ 2 → S2 c = S1 c := fun c h => by rw [e2, tk2, qup_off h]
  have v2 : S2 2 1 = S1 3 1 := by rw [e2, tk2, qup_on, if_pos rfl]
  have w2 : ∀ u, u ≠ 1 → S2 2 u = S1 2 u := fun u h => by rw [e2, tk2, qup_on, if_neg h]
  obtain ⟨S3, e3⟩ : ∃ S3, S3 = tk3 S2 := ⟨_, rfl⟩
  have f3 : ∀ c, c ≠ 2 → S3 c = S2 c := fun c h => by rw [e3, tk3, qup_off h]
  have v3 : S3 2 2 = S2 3 2 := by rw [e3, tk3, qup_on, if_pos rfl]
  have w3 : ∀ u, u ≠ 2 → S3 2 u = S2 2 u := fun u h => by rw [e3, tk3, qup_on, if_neg h]
  obtain ⟨S4, e4⟩ : ∃ S4, S4 = tk4 S3 := ⟨_, rfl⟩
  have f4 : ∀ c, c ≠ 16 → S4 c = S3 c := fun c h => by rw [e4, tk4, qua_off c h]
  have v4 : ∀ u, u < 8 → S4 16 u = S3 26 u := fun u h => by rw [e4, tk4, tk_cpy h]
  obtain ⟨S5, e5⟩ : ∃ S5, S5 = tk5 S4 := ⟨_, rfl⟩
  have f5 : ∀ c, c ≠ 17 → S5 c = S4 c := fun c h => by rw [e5, tk5, qua_off c h]
  have v5 : ∀ u, u < 8 → S5 17 u = S4 27 u := fun u h => by rw [e5, tk5, tk_cpy h]
  obtain ⟨S6, e6⟩ : ∃ S6, S6 = tk6 S5 := ⟨_, rfl⟩
  have f6 : ∀ c, c ≠ 2 → S6 c = S5 c := fun c h => by rw [e6, tk6, qup_off h]
  have v6 : S6 2 5 = S5 3 5 := by rw [e6, tk6, qup_on, if_pos rfl]
  have w6 : ∀ u, u ≠ 5 → S6 2 u = S5 2 u := fun u h => by rw [e6, tk6, qup_on, if_neg h]
  obtain ⟨S7, e7⟩ : ∃ S7, S7 = tk7 S6 := ⟨_, rfl⟩
  have f7 : ∀ c, c ≠ 18 → S7 c = S6 c := fun c h => by rw [e7, tk7, qua_off c h]
  have v7 : ∀ u, u < 8 → S7 18 u = S6 28 u := fun u h => by rw [e7, tk7, tk_cpy h]
  obtain ⟨S8, e8⟩ : ∃ S8, S8 = tk8 S7 := ⟨_, rfl⟩
  have f8 : ∀ c, c ≠ 19 → S8 c = S7 c := fun c h => by rw [e8, tk8, qua_off c h]
  have v8 : ∀ u, u < 8 → S8 19 u = S7 29 u := fun u h => by rw [e8, tk8, tk_cpy h]
  obtain ⟨S9, e9⟩ : ∃ S9, S9 = tk9 S8 := ⟨_, rfl⟩
  have f9 : ∀ c, c ≠ 2 → S9 c = S8 c := fun c h => by rw [e9, tk9, qup_off h]
  have v9 : S9 2 8 = S8 3 8 := by rw [e9, tk9, qup_on, if_pos rfl]
  have w9 : ∀ u, u ≠ 8 → S9 2 u = S8 2 u := fun u h => by rw [e9, tk9, qup_on, if_neg h]
  obtain ⟨S10, e10⟩ : ∃ S10, S10 = tk10 S9 := ⟨_, rfl⟩
  have f10 : ∀ c, c ≠ 20 → S10 c = S9 c := fun c h => by rw [e10, tk10, qua_off c h]
  have v10 : ∀ u, u < 30 → S10 20 u = S9 30 u := fun u h => by rw [e10, tk10, tk_cpy h]
  obtain ⟨S11, e11⟩ : ∃ S11, S11 = tk11 S10 := ⟨_, rfl⟩
  have f11 : ∀ c, c ≠ 21 → S11 c = S10 c := fun c h => by rw [e11, tk11, qua_off c h]
  have v11 : ∀ u, u < 30 → S11 21 u = S10 31 u := fun u h => by rw [e11, tk11, tk_cpy h]
  obtain ⟨S12, e12⟩ : ∃ S12, S12 = tk12 S11 := ⟨_, rfl⟩
  have f12 : ∀ c, c ≠ 22 → S12 c = S11 c := fun c h => by rw [e12, tk12, qua_off c h]
  have v12 : ∀ u, u < 21 → S12 22 u = S11 32 u := fun u h => by rw [e12, tk12, tk_cpy h]
  obtain ⟨S13, e13⟩ : ∃ S13, S13 = tk13 S12 := ⟨_, rfl⟩
  have f13 : ∀ c, c ≠ 2 → S13 c = S12 c := fun c h => by rw [e13, tk13, qup_off h]
  have v13 : S13 2 12 = S12 3 12 := by rw [e13, tk13, qup_on, if_pos rfl]
  have w13 : ∀ u, u ≠ 12 → S13 2 u = S12 2 u := fun u h => by rw [e13, tk13, qup_on, if_neg h]
  obtain ⟨S14, e14⟩ : ∃ S14, S14 = tk14 S13 := ⟨_, rfl⟩
  have f14 : ∀ c, c ≠ 23 → S14 c = S13 c := fun c h => by rw [e14, tk14, qua_off c h]
  have v14 : ∀ u, u < 126 → S14 23 u = S13 33 u := fun u h => by rw [e14, tk14, tk_cpy h]
  obtain ⟨S15, e15⟩ : ∃ S15, S15 = tk15 S14 := ⟨_, rfl⟩
  have f15 : ∀ c, c ≠ 24 → S15 c = S14 c := fun c h => by rw [e15, tk15, qua_off c h]
  have v15 : ∀ u, u < 112 → S15 24 u = S14 34 u := fun u h => by rw [e15, tk15, tk_cpy h]
  refine ⟨S15, ?_, fun u hu => ?_, ?_, ?_, fun u hu => ?_, fun u hu => ?_, ?_, fun u hu => ?_, fun u hu => ?_, ?_, fun u hu => ?_, fun u hu => ?_, fun u hu => ?_, ?_, fun u hu => ?_, fun u hu => ?_, fun c hc => ?_⟩
  · rw [takeOver_e, tkS, ← e1, ← e2, ← e3, ← e4, ← e5, ← e6, ← e7, ← e8, ← e9, ← e10, ← e11, ← e12, ← e13, ← e14, ← e15]
  · rw [f15 15 (by omega), f14 15 (by omega), f13 15 (by omega), f12 15 (by omega), f11 15 (by omega), f10 15 (by omega), f9 15 (by omega), f8 15 (by omega), f7 15 (by omega), f6 15 (by omega), f5 15 (by omega), f4 15 (by omega), f3 15 (by omega), f2 15 (by omega), v1 u hu]
  · rw [f15 2 (by omega), f14 2 (by omega), w13 1 (by omega), f12 2 (by omega), f11 2 (by omega), f10 2 (by omega), w9 1 (by omega), f8 2 (by omega), f7 2 (by omega), w6 1 (by omega), f5 2 (by omega), f4 2 (by omega), w3 1 (by omega), v2, f1 3 (by omega)]
  · rw [f15 2 (by omega), f14 2 (by omega), w13 2 (by omega), f12 2 (by omega), f11 2 (by omega), f10 2 (by omega), w9 2 (by omega), f8 2 (by omega), f7 2 (by omega), w6 2 (by omega), f5 2 (by omega), f4 2 (by omega), v3, f2 3 (by omega), f1 3 (by omega)]
  · rw [f15 16 (by omega), f14 16 (by omega), f13 16 (by omega), f12 16 (by omega), f11 16 (by omega), f10 16 (by omega), f9 16 (by omega), f8 16 (by omega), f7 16 (by omega), f6 16 (by omega), f5 16 (by omega), v4 u hu, f3 26 (by omega), f2 26 (by omega), f1 26 (by omega)]
  · rw [f15 17 (by omega), f14 17 (by omega), f13 17 (by omega), f12 17 (by omega), f11 17 (by omega), f10 17 (by omega), f9 17 (by omega), f8 17 (by omega), f7 17 (by omega), f6 17 (by omega), v5 u hu, f4 27 (by omega), f3 27 (by omega), f2 27 (by omega), f1 27 (by omega)]
  · rw [f15 2 (by omega), f14 2 (by omega), w13 5 (by omega), f12 2 (by omega), f11 2 (by omega), f10 2 (by omega), w9 5 (by omega), f8 2 (by omega), f7 2 (by omega), v6, f5 3 (by omega), f4 3 (by omega), f3 3 (by omega), f2 3 (by omega), f1 3 (by omega)]
  · rw [f15 18 (by omega), f14 18 (by omega), f13 18 (by omega), f12 18 (by omega), f11 18 (by omega), f10 18 (by omega), f9 18 (by omega), f8 18 (by omega), v7 u hu, f6 28 (by omega), f5 28 (by omega), f4 28 (by omega), f3 28 (by omega), f2 28 (by omega), f1 28 (by omega)]
  · rw [f15 19 (by omega), f14 19 (by omega), f13 19 (by omega), f12 19 (by omega), f11 19 (by omega), f10 19 (by omega), f9 19 (by omega), v8 u hu, f7 29 (by omega), f6 29 (by omega), f5 29 (by omega), f4 29 (by omega), f3 29 (by omega), f2 29 (by omega), f1 29 (by omega)]
  · rw [f15 2 (by omega), f14 2 (by omega), w13 8 (by omega), f12 2 (by omega), f11 2 (by omega), f10 2 (by omega), v9, f8 3 (by omega), f7 3 (by omega), f6 3 (by omega), f5 3 (by omega), f4 3 (by omega), f3 3 (by omega), f2 3 (by omega), f1 3 (by omega)]
  · rw [f15 20 (by omega), f14 20 (by omega), f13 20 (by omega), f12 20 (by omega), f11 20 (by omega), v10 u hu, f9 30 (by omega), f8 30 (by omega), f7 30 (by omega), f6 30 (by omega), f5 30 (by omega), f4 30 (by omega), f3 30 (by omega), f2 30 (by omega), f1 30 (by omega)]
  · rw [f15 21 (by omega), f14 21 (by omega), f13 21 (by omega), f12 21 (by omega), v11 u hu, f10 31 (by omega), f9 31 (by omega), f8 31 (by omega), f7 31 (by omega), f6 31 (by omega), f5 31 (by omega), f4 31 (by omega), f3 31 (by omega), f2 31 (by omega), f1 31 (by omega)]
  · rw [f15 22 (by omega), f14 22 (by omega), f13 22 (by omega), v12 u hu, f11 32 (by omega), f10 32 (by omega), f9 32 (by omega), f8 32 (by omega), f7 32 (by omega), f6 32 (by omega), f5 32 (by omega), f4 32 (by omega), f3 32 (by omega), f2 32 (by omega), f1 32 (by omega)]
  · rw [f15 2 (by omega), f14 2 (by omega), v13, f12 3 (by omega), f11 3 (by omega), f10 3 (by omega), f9 3 (by omega), f8 3 (by omega), f7 3 (by omega), f6 3 (by omega), f5 3 (by omega), f4 3 (by omega), f3 3 (by omega), f2 3 (by omega), f1 3 (by omega)]
  · rw [f15 23 (by omega), v14 u hu, f13 33 (by omega), f12 33 (by omega), f11 33 (by omega), f10 33 (by omega), f9 33 (by omega), f8 33 (by omega), f7 33 (by omega), f6 33 (by omega), f5 33 (by omega), f4 33 (by omega), f3 33 (by omega), f2 33 (by omega), f1 33 (by omega)]
  · rw [v15 u hu, f14 34 (by omega), f13 34 (by omega), f12 34 (by omega), f11 34 (by omega), f10 34 (by omega), f9 34 (by omega), f8 34 (by omega), f7 34 (by omega), f6 34 (by omega), f5 34 (by omega), f4 34 (by omega), f3 34 (by omega), f2 34 (by omega), f1 34 (by omega)]
  · rw [f15 c (by omega), f14 c (by omega), f13 c (by omega), f12 c (by omega), f11 c (by omega), f10 c (by omega), f9 c (by omega), f8 c (by omega), f7 c (by omega), f6 c (by omega), f5 c (by omega), f4 c (by omega), f3 c (by omega), f2 c (by omega), f1 c (by omega)]
