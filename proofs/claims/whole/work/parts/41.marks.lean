/-! undone, marks -/
theorem M_isMark_s {S : qSto} {a : Int} (ha : qR a) : M_isMark a S = some (if 0 ≤ a ∧ a ≤ 3 then 1 else 0, S) := by
  obtain ⟨m1, m2⟩ := ha
  simp (disch := omega) only [M_isMark, qk_r]
  rw [M_in_s ⟨by omega, by omega⟩ ⟨by omega, by omega⟩ ⟨by omega, by omega⟩]
  simp only [ob_some, ite01_z]
theorem bits_or : ∀ (m : Fin 16) (a q : Fin 4), (0 ≤ qb_ior (m.val : Int) (qb_ishl 1 (a.val : Int)) ∧ qb_ior (m.val : Int) (qb_ishl 1 (a.val : Int)) ≤ 15) ∧ qb_iand (qb_ishr (qb_ior (m.val : Int) (qb_ishl 1 (a.val : Int))) (q.val : Int)) 1 = if q.val = a.val then 1 else qb_iand (qb_ishr (m.val : Int) (q.val : Int)) 1 := by decide +kernel
theorem bits_or_s {m : Int} (h0 : 0 ≤ m) (h1 : m ≤ 15) {a q : Nat} (ha : a < 4) (hq : q < 4) : (0 ≤ qb_ior m (qb_ishl 1 (a : Int)) ∧ qb_ior m (qb_ishl 1 (a : Int)) ≤ 15) ∧ qb_iand (qb_ishr (qb_ior m (qb_ishl 1 (a : Int))) (q : Int)) 1 = if q = a then 1 else qb_iand (qb_ishr m (q : Int)) 1 := by
  have z := bits_or ⟨m.toNat, by omega⟩ ⟨a, ha⟩ ⟨q, hq⟩
  have f : ((m.toNat : Nat) : Int) = m := by omega
  simp only [f] at z
  exact z
section PUN
variable {T lev : Nat → Int} {Y : qY}
theorem isMade_s {S : qSto} (hK : hM S T lev) {a : Int} (ha : qR a) : History_isMade a S = some (if (0 ≤ a ∧ a ≤ 3) ∧ S 86 a.toNat = 1 then 1 else 0, S) := by
  obtain ⟨m1, m2⟩ := ha
  simp (disch := omega) only [History_isMade, qk_r]
  by_cases g : 0 ≤ a ∧ a ≤ 3
  · obtain ⟨k1, k2, -⟩ := hK.2 a.toNat (by omega)
    have fa : ((a.toNat : Nat) : Int) = a := by omega
    rw [fa] at k1
    rw [if_neg (by omega), if_neg (by omega), k1]
    rcases k2 with q | q
    · rw [q, qk_r (by omega) (by omega), if_pos rfl, if_neg (by omega)]
    · rw [q, qk_r (by omega) (by omega), if_neg (by omega), if_pos ⟨g, rfl⟩]
  · have e : (if (0 ≤ a ∧ a ≤ 3) ∧ S 86 a.toNat = 1 then (1 : Int) else 0) = 0 := if_neg (fun q => g q.1)
    rw [e]
    by_cases q : a < 0
    · rw [if_pos q]
    · rw [if_neg q, if_pos (by omega)]
theorem g_undo : gOK C_undo M_undo := fun S h => by
  obtain ⟨T, lev, Y, hA', hw, ⟨o, m, hH⟩, hK, hR, hF⟩ := id h
  obtain ⟨hI, hB, hc, hm⟩ := id hA'
  obtain ⟨a1, a2, a3, a4, a5, a6⟩ := id hH
  by_cases g : m = 0
  · subst g
    refine ⟨-1, S, S, ?_, ?_, h⟩
    · rw [C_undo, History_takeLatest_14, a4, qk_r (by omega) (by omega), if_pos (by omega)]
      rfl
    · rw [M_undo, a5, qk_r (by omega) (by omega), if_pos (by omega)]
  · obtain ⟨Y', y1, y2, y3, y4⟩ := a6 (m - 1) (by omega)
    have hp : (o + (m - 1)) % 12 < 12 := Nat.mod_lt _ (by omega)
    obtain ⟨z1, z2⟩ := qrf51 hp
    have e0 : (qup S 12 2 ((m : Int) - 1)) 12 1 = o := by rw [qup_on, if_neg (by omega), a3]
    have e1 : (qup S 12 2 ((m : Int) - 1)) 12 2 = (m : Int) - 1 := by rw [qup_on, if_pos rfl]
    have f1 : (Int.tmod ((o : Int) + ((m : Int) - 1)) 12).toNat = (o + (m - 1)) % 12 := by
      rw [Int.tmod_eq_emod_of_nonneg (by omega)]
      omega
    have f2 : 0 ≤ Int.tmod ((o : Int) + ((m : Int) - 1)) 12 ∧ Int.tmod ((o : Int) + ((m : Int) - 1)) 12 < 12 := by
      rw [Int.tmod_eq_emod_of_nonneg (by omega)]
      omega
    have hk : History_takeLatest_14 S = some (1, qua (qup S 12 2 ((m : Int) - 1)) 14 (qcpy (qup S 12 2 ((m : Int) - 1)) (52 + (o + (m - 1)) % 12) 14 0 0 42)) := by
      rw [History_takeLatest_14, a4, qk_r (by omega) (by omega), if_neg (by omega), e0, e1, qk_r (by omega) (by omega), qk_ix f2.1 (by have := f2.2; omega), f1, z1, qk_of z2]
    have ea : ∀ c, c ≠ 12 → c ≠ 14 → (qua (qup S 12 2 ((m : Int) - 1)) 14 (qcpy (qup S 12 2 ((m : Int) - 1)) (52 + (o + (m - 1)) % 12) 14 0 0 42)) c = S c := fun c h1 h2 => by rw [qua_off c h2, qup_off h1]
    have e14 : ∀ i, i < 42 → (qua (qup S 12 2 ((m : Int) - 1)) 14 (qcpy (qup S 12 2 ((m : Int) - 1)) (52 + (o + (m - 1)) % 12) 14 0 0 42)) 14 i = S (52 + (o + (m - 1)) % 12) i := fun i hi => by
      rw [qua_on]
      unfold qcpy
      rw [if_pos (by omega), qup_off (by omega)]
      congr 1
      omega
    have e12 : (qua (qup S 12 2 ((m : Int) - 1)) 14 (qcpy (qup S 12 2 ((m : Int) - 1)) (52 + (o + (m - 1)) % 12) 14 0 0 42)) 12 = (qup S 12 2 ((m : Int) - 1)) 12 := qua_off 12 (by omega)
    generalize (qua (qup S 12 2 ((m : Int) - 1)) 14 (qcpy (qup S 12 2 ((m : Int) - 1)) (52 + (o + (m - 1)) % 12) 14 0 0 42)) = Sa at hk ea e14 e12
    obtain ⟨Sb, t1, t2, t3⟩ := load_14_s (S := Sa) (iT_off hI (fun c hc => ea c (by omega) (by omega))) y1 (cY_off hc (fun c hc => ea c (by omega) (by omega))) (gR_cong y3 e14)
    have b12 : Sb 12 = (qup S 12 2 ((m : Int) - 1)) 12 := (t3 12 (by omega)).trans e12
    have eb : ∀ c, c ≠ 11 → c ≠ 12 → c ≠ 14 → ¬ (37 ≤ c ∧ c ≤ 43) → (qup Sb 11 3 0) c = S c := fun c h0 h1 h2 h3 => by rw [qup_off h0, t3 c h3, ea c h1 h2]
    have b122 : (qup Sb 11 3 0) 12 = (qup S 12 2 ((m : Int) - 1)) 12 := by rw [qup_off (by omega), b12]
    have cl : C_undo S = some ((m : Int) - 1, qup Sb 11 3 0) := by
      rw [C_undo, hk]
      simp only [ob_some]
      rw [qk_r (by omega) (by omega), if_neg (by omega), t1]
      simp only [ob_some]
      rw [b122, e1]
    have c1 : cY (qup Sb 11 3 0) T lev Y' := cY_off t2 (fun c hc => qup_off (by omega))
    have b113 : (qup Sb 11 3 0) 11 3 = 0 := by rw [qup_on, if_pos rfl]
    generalize qup Sb 11 3 0 = S1 at cl eb b122 c1 b113
    have hI1 : iT S1 T lev := iT_off hI (fun c hc => eb c (by omega) (by omega) (by omega) (by omega))
    have hm1 : mY S1 T lev Y := mY_off hm (fun c hc => eb c (by omega) (by omega) (by omega) (by omega))
    have e70 : S1 70 = S 70 := eb 70 (by omega) (by omega) (by omega) (by omega)
    have e31 : S1 70 31 = m := by rw [e70, a5]
    have e85 : ∀ q u, mR S1 q u = mR S q u := fun q u => by
      show S1 85 _ = S 85 _
      rw [eb 85 (by omega) (by omega) (by omega) (by omega)]
    have q31 : (qup S1 70 31 ((m : Int) - 1)) 70 31 = ((m - 1 : Nat) : Int) := by
      rw [qup_on, if_pos rfl]
      omega
    have q85 : ∀ q u, mR (qup S1 70 31 ((m : Int) - 1)) q u = mR S q u := fun q u => by
      rw [← e85 q u]
      show (qup S1 70 31 ((m : Int) - 1)) 85 _ = S1 85 _
      rw [qup_off (by omega)]
    obtain ⟨S2, u1, u2, u3⟩ := takes_s (S := qup S1 70 31 ((m : Int) - 1)) (Y0 := Y) (iT_off hI1 (fun c hc => qup_off (by omega))) hB y1 (r := m - 1) (by omega) (mY_off hm1 (fun c hc => qup_off (by omega))) (gR_cong y4 (fun i hi => q85 _ i))
    have md : M_undo S1 = some ((m : Int) - 1, S2) := by
      rw [M_undo, e31, qk_r (by omega) (by omega), if_neg (by omega), q31, u1]
      simp only [ob_some]
      rw [u3 70 (by omega), q31, show ((m - 1 : Nat) : Int) = (m : Int) - 1 by omega]
    have e2 : ∀ c, c ≠ 70 → ¬ (78 ≤ c ∧ c ≤ 82) → S2 c = S1 c := fun c h1 h2 => by rw [u3 c h2, qup_off h1]
    have e3 : ∀ c, c ≠ 11 → c ≠ 12 → c ≠ 14 → ¬ (37 ≤ c ∧ c ≤ 43) → c ≠ 70 → ¬ (78 ≤ c ∧ c ≤ 82) → S2 c = S c := fun c h1 h2 h3 h4 h5 h6 => by rw [e2 c h5 h6, eb c h1 h2 h3 h4]
    have e7 : ∀ i, i ≠ 31 → S2 70 i = S 70 i := fun i hi => by rw [u3 70 (by omega), qup_on, if_neg hi, e70]
    have r2 : ∀ q u, mR S2 q u = mR S q u := fun q u => by
      show S2 85 _ = S 85 _
      rw [e3 85 (by omega) (by omega) (by omega) (by omega) (by omega) (by omega)]
    have w12 : S2 12 = (qup S 12 2 ((m : Int) - 1)) 12 := by rw [e2 12 (by omega) (by omega), b122]
    refine ⟨(m : Int) - 1, S1, S2, cl, md, T, lev, Y', ⟨iT_off hI (fun c hc => e3 c (by omega) (by omega) (by omega) (by omega) (by omega) (by omega)), y1, cY_off c1 (fun c hc => e2 c (by omega) (by omega)), u2⟩, y2, ⟨o, m - 1, a1, by omega, ?_, ?_, ?_, fun i hi => ?_⟩, hM_off hK ?_ (e3 86 (by omega) (by omega) (by omega) (by omega) (by omega) (by omega)) (fun c h1 h2 => e3 c (by omega) (by omega) (by omega) (by omega) (by omega) (by omega)) (fun q _ _ u _ => r2 q u), iR_off hR (fun c hc => e3 c (by omega) (by omega) (by omega) (by omega) (by omega) (by omega)) (fun i hi => e7 i (by omega)), ?_⟩
    · rw [w12, e0]
    · rw [w12, e1]
      omega
    · rw [u3 70 (by omega), q31]
    · obtain ⟨Yi, i1, i2, i3, i4⟩ := a6 i (by omega)
      have hq : (o + i) % 12 < 12 := Nat.mod_lt _ (by omega)
      exact ⟨Yi, i1, i2, by rw [e3 _ (by omega) (by omega) (by omega) (by omega) (by omega) (by omega)]; exact i3, gR_cong i4 (fun u hu => r2 i u)⟩
    · rw [w12, qup_on, if_neg (by omega)]
    · have z : S2 11 3 = 0 := by rw [e2 11 (by omega) (by omega), b113]
      exact ⟨Or.inl z, fun q => by omega⟩
theorem g_mark {a : Int} (ha : qR a) : gOK (C_mark a) (M_mark a) := fun S h => by
  obtain ⟨T, lev, Y, hA', hw, ⟨o, m, hH⟩, hK, hR, hF⟩ := id h
  obtain ⟨hI, hB, hc, hm⟩ := id hA'
  obtain ⟨m1, m2⟩ := id ha
  by_cases g : 0 ≤ a ∧ a ≤ 3
  · have fa : ((a.toNat : Nat) : Int) = a := by omega
    obtain ⟨z1, z2⟩ := qrf64 (i := a.toNat) (by omega)
    obtain ⟨Sx, x1, x2, x3⟩ := save_x_s (S := S) z2 (by omega) hB hI.1 hc
    have b12 : Sx 12 = S 12 := x2 12 (by omega)
    have ea : ∀ c, c ≠ 12 → c ≠ 65 + a.toNat → (qup Sx 12 4 (qb_ior (Sx 12 4) (qb_ishl 1 a))) c = S c := fun c h1 h2 => by rw [qup_off h1, x2 c h2]
    have e65 : (qup Sx 12 4 (qb_ior (Sx 12 4) (qb_ishl 1 a))) (65 + a.toNat) = Sx (65 + a.toNat) := qup_off (by omega)
    have e124 : (qup Sx 12 4 (qb_ior (Sx 12 4) (qb_ishl 1 a))) 12 4 = qb_ior (S 12 4) (qb_ishl 1 a) := by rw [qup_on, if_pos rfl, b12]
    have e12 : ∀ i, i ≠ 4 → (qup Sx 12 4 (qb_ior (Sx 12 4) (qb_ishl 1 a))) 12 i = S 12 i := fun i hi => by rw [qup_on, if_neg hi, b12]
    have cl : C_mark a S = Option.bind (Stays_howMany (qup Sx 12 4 (qb_ior (Sx 12 4) (qb_ishl 1 a)))) (fun q2042 => some (q2042.1, q2042.2)) := by
      rw [C_mark, qk_r m1 m2, if_neg (by omega), qk_r m1 m2, if_pos (by omega), qk_ix (by omega) (by omega), z1, x1]
      rfl
    generalize qup Sx 12 4 (qb_ior (Sx 12 4) (qb_ishl 1 a)) = S1 at cl ea e65 e124 e12
    have hI1 : iT S1 T lev := iT_off hI (fun c hc => ea c (by omega) (by omega))
    have hc1 : cY S1 T lev Y := cY_off hc (fun c hc => ea c (by omega) (by omega))
    have hm1 : mY S1 T lev Y := mY_off hm (fun c hc => ea c (by omega) (by omega))
    rw [Stays_howMany_s hI1 hB hc1] at cl
    obtain ⟨Sp, p1, p2, p3, p4⟩ := puts_s (S := S1) (r := 12 + a.toNat) (by omega) hB hI.1 hm1
    have fr : ((12 + a.toNat : Nat) : Int) = 12 + a := by omega
    rw [fr] at p1
    have eb : ∀ c, c ≠ 85 → c ≠ 86 → (qup Sp 86 a.toNat 1) c = S1 c := fun c h1 h2 => by rw [qup_off h2, p2 c h1]
    have r2 : ∀ q, q ≠ 12 + a.toNat → ∀ u, u < 42 → mR (qup Sp 86 a.toNat 1) q u = mR S q u := fun q hq u hu => by
      have y : mR S1 q u = mR S q u := by
        show S1 85 _ = S 85 _
        rw [ea 85 (by omega) (by omega)]
      rw [← y, ← p4 q hq u hu]
      show (qup Sp 86 a.toNat 1) 85 _ = Sp 85 _
      rw [qup_off (by omega)]
    have r3 : gR (mR (qup Sp 86 a.toNat 1) (12 + a.toNat)) Y := gR_cong p3 (fun i hi => by
      show (qup Sp 86 a.toNat 1) 85 _ = Sp 85 _
      rw [qup_off (by omega)])
    have e86 : ∀ q, (qup Sp 86 a.toNat 1) 86 q = if q = a.toNat then 1 else S 86 q := fun q => by
      rw [qup_on, p2 86 (by omega), ea 86 (by omega) (by omega)]
    have md : M_mark a S1 = Option.bind (M_staying (qup Sp 86 a.toNat 1)) (fun q4022 => some (q4022.1, q4022.2)) := by
      rw [M_mark, M_isMark_s ha]
      simp only [ob_some, ite01_r, ite01_e]
      rw [if_pos g, p1]
      simp only [ob_some]
      rw [qk_ix (by omega) (by omega)]
    generalize qup Sp 86 a.toNat 1 = S2 at md eb r2 r3 e86
    have hI2 : iT S2 T lev := iT_off hI1 (fun c hc => eb c (by omega) (by omega))
    have hc2 : cY S2 T lev Y := cY_off hc1 (fun c hc => eb c (by omega) (by omega))
    have hm2 : mY S2 T lev Y := mY_off hm1 (fun c hc => eb c (by omega) (by omega))
    rw [M_staying_s hI2 hB hm2] at md
    have e3 : ∀ c, c ≠ 12 → c ≠ 65 + a.toNat → c ≠ 85 → c ≠ 86 → S2 c = S c := fun c h1 h2 h3 h4 => by rw [eb c h3 h4, ea c h1 h2]
    have w12 : ∀ i, i ≠ 4 → S2 12 i = S 12 i := fun i hi => by rw [eb 12 (by omega) (by omega), e12 i hi]
    have w124 : S2 12 4 = qb_ior (S 12 4) (qb_ishl 1 ((a.toNat : Nat) : Int)) := by rw [eb 12 (by omega) (by omega), e124, fa]
    obtain ⟨a1, a2, a3, a4, a5, a6⟩ := id hH
    refine ⟨sMany T Y, S1, S2, cl, md, T, lev, Y, ⟨hI2, hB, hc2, hm2⟩, hw, ⟨o, m, a1, a2, ?_, ?_, ?_, fun i hi => ?_⟩, ⟨?_, fun q hq => ?_⟩, iR_off hR (fun c hc => e3 c (by omega) (by omega) (by omega) (by omega)) (fun i hi => by rw [e3 70 (by omega) (by omega) (by omega) (by omega)]), iF_off hF (e3 11 (by omega) (by omega) (by omega) (by omega)) (e3 47 (by omega) (by omega) (by omega) (by omega))⟩
    · rw [w12 1 (by omega), a3]
    · rw [w12 2 (by omega), a4]
    · rw [e3 70 (by omega) (by omega) (by omega) (by omega), a5]
    · obtain ⟨Yi, i1, i2, i3, i4⟩ := a6 i (by omega)
      have hq : (o + i) % 12 < 12 := Nat.mod_lt _ (by omega)
      exact ⟨Yi, i1, i2, by rw [e3 _ (by omega) (by omega) (by omega) (by omega)]; exact i3, gR_cong i4 (fun u hu => r2 i (by omega) u hu)⟩
    · rw [w124]
      exact (bits_or_s hK.1.1 hK.1.2 (a := a.toNat) (q := 0) (by omega) (by omega)).1
    · obtain ⟨k1, k2, k3⟩ := hK.2 q hq
      rw [w124, (bits_or_s hK.1.1 hK.1.2 (a := a.toNat) (q := q) (by omega) hq).2, e86, k1]
      refine ⟨rfl, ?_, fun z => ?_⟩
      · split
        · exact Or.inr rfl
        · exact k2
      · by_cases y : q = a.toNat
        · refine ⟨Y, hB, hw, ?_, ?_⟩
          · rw [y, eb _ (by omega) (by omega), e65]
            exact x3
          · rw [y]
            exact r3
        · rw [if_neg y] at z
          obtain ⟨Yi, i1, i2, i3, i4⟩ := k3 z
          exact ⟨Yi, i1, i2, by rw [e3 _ (by omega) (by omega) (by omega) (by omega)]; exact i3, gR_cong i4 (fun u hu => r2 _ (by omega) u hu)⟩
  · refine ⟨-1, S, S, ?_, ?_, h⟩
    · rw [C_mark, qk_r m1 m2]
      by_cases q : a < 0
      · rw [if_pos q]
      · rw [if_neg q, qk_r m1 m2, if_neg (by omega)]
    · rw [M_mark, M_isMark_s ha]
      simp only [ob_some, ite01_r, ite01_e]
      rw [if_neg g]
theorem g_back {a : Int} (ha : qR a) : gOK (C_back a) (M_back a) := fun S h => by
  obtain ⟨T, lev, Y, hA', hw, ⟨o, m, hH⟩, hK, hR, hF⟩ := id h
  obtain ⟨hI, hB, hc, hm⟩ := id hA'
  obtain ⟨m1, m2⟩ := id ha
  by_cases g : 0 ≤ a ∧ a ≤ 3
  · have fa : ((a.toNat : Nat) : Int) = a := by omega
    obtain ⟨k1, k2, k3⟩ := hK.2 a.toNat (by omega)
    rcases k2 with k2 | k2
    · refine ⟨-1, S, S, ?_, ?_, h⟩
      · rw [C_back, isMade_s hK ha, if_neg (by omega)]
        rfl
      · rw [M_back, M_isMark_s ha]
        simp only [ob_some, ite01_r, ite01_e]
        rw [if_pos g, qk_ix (by omega) (by omega), k2]
        rfl
    · obtain ⟨Y', y1, y2, y3, y4⟩ := k3 k2
      obtain ⟨z1, z2⟩ := qrf64 (i := a.toNat) (by omega)
      obtain ⟨Sb, t1, t2, t3⟩ := load_x_s (S := S) z2 (by omega) hI y1 hc y3
      have ea : ∀ c, c ≠ 11 → c ≠ 12 → ¬ (37 ≤ c ∧ c ≤ 43) → (qup (qup Sb 12 2 0) 11 3 0) c = S c := fun c h1 h2 h3 => by rw [qup_off h1, qup_off h2, t3 c h3]
      have b113 : (qup (qup Sb 12 2 0) 11 3 0) 11 3 = 0 := by rw [qup_on, if_pos rfl]
      have b12 : ∀ i, (qup (qup Sb 12 2 0) 11 3 0) 12 i = if i = 2 then 0 else S 12 i := fun i => by rw [qup_off (by omega), qup_on, t3 12 (by omega)]
      have c1 : cY (qup (qup Sb 12 2 0) 11 3 0) T lev Y' := cY_off t2 (fun c hc => by rw [qup_off (by omega), qup_off (by omega)])
      have cl : C_back a S = Option.bind (Stays_howMany (qup (qup Sb 12 2 0) 11 3 0)) (fun q2068 => some (q2068.1, q2068.2)) := by
        rw [C_back, isMade_s hK ha, if_pos ⟨g, k2⟩]
        simp only [ob_some]
        rw [qk_r (by omega) (by omega), if_neg (by omega), qk_ix (by omega) (by omega), z1, t1]
        rfl
      generalize qup (qup Sb 12 2 0) 11 3 0 = S1 at cl ea b113 b12 c1
      have hI1 : iT S1 T lev := iT_off hI (fun c hc => ea c (by omega) (by omega) (by omega))
      have hm1 : mY S1 T lev Y := mY_off hm (fun c hc => ea c (by omega) (by omega) (by omega))
      rw [Stays_howMany_s hI1 y1 c1] at cl
      have r1 : ∀ q u, mR S1 q u = mR S q u := fun q u => by
        show S1 85 _ = S 85 _
        rw [ea 85 (by omega) (by omega) (by omega)]
      obtain ⟨S3, u1, u2, u3⟩ := takes_s (S := S1) (Y0 := Y) hI1 hB y1 (r := 12 + a.toNat) (by omega) hm1 (gR_cong y4 (fun i hi => r1 _ i))
      have fr : ((12 + a.toNat : Nat) : Int) = 12 + a := by omega
      rw [fr] at u1
      have eb : ∀ c, c ≠ 70 → ¬ (78 ≤ c ∧ c ≤ 82) → (qup S3 70 31 0) c = S1 c := fun c h1 h2 => by rw [qup_off h1, u3 c h2]
      have e7 : ∀ i, (qup S3 70 31 0) 70 i = if i = 31 then 0 else S 70 i := fun i => by rw [qup_on, u3 70 (by omega), ea 70 (by omega) (by omega) (by omega)]
      have m2' : mY (qup S3 70 31 0) T lev Y' := mY_off u2 (fun c hc => qup_off (by omega))
      have e86 : S1 86 = S 86 := ea 86 (by omega) (by omega) (by omega)
      have md : M_back a S1 = Option.bind (M_staying (qup S3 70 31 0)) (fun q4031 => some (q4031.1, q4031.2)) := by
        rw [M_back, M_isMark_s ha]
        simp only [ob_some, ite01_r, ite01_e]
        rw [if_pos g, qk_ix (by omega) (by omega), e86, k2, qk_r (by omega) (by omega), if_neg (by omega), u1]
        rfl
      generalize qup S3 70 31 0 = S2 at md eb e7 m2'
      have hI2 : iT S2 T lev := iT_off hI1 (fun c hc => eb c (by omega) (by omega))
      rw [M_staying_s hI2 y1 m2'] at md
      have e3 : ∀ c, c ≠ 11 → c ≠ 12 → ¬ (37 ≤ c ∧ c ≤ 43) → c ≠ 70 → ¬ (78 ≤ c ∧ c ≤ 82) → S2 c = S c := fun c h1 h2 h3 h4 h5 => by rw [eb c h4 h5, ea c h1 h2 h3]
      have r2 : ∀ q u, mR S2 q u = mR S q u := fun q u => by
        show S2 85 _ = S 85 _
        rw [e3 85 (by omega) (by omega) (by omega) (by omega) (by omega)]
      have w12 : ∀ i, S2 12 i = if i = 2 then 0 else S 12 i := fun i => by rw [eb 12 (by omega) (by omega), b12]
      refine ⟨sMany T Y', S1, S2, cl, md, T, lev, Y', ⟨hI2, y1, cY_off c1 (fun c hc => eb c (by omega) (by omega)), m2'⟩, y2, ⟨o, 0, hH.1, by omega, ?_, ?_, ?_, fun i hi => by omega⟩, hM_off hK ?_ (e3 86 (by omega) (by omega) (by omega) (by omega) (by omega)) (fun c h1 h2 => e3 c (by omega) (by omega) (by omega) (by omega) (by omega)) (fun q _ _ u _ => r2 q u), iR_off hR (fun c hc => e3 c (by omega) (by omega) (by omega) (by omega) (by omega)) (fun i hi => by rw [e7, if_neg (by omega)]), ?_⟩
      · rw [w12, if_neg (by omega), hH.2.2.1]
      · rw [w12, if_pos rfl]
        rfl
      · rw [e7, if_pos rfl]
        rfl
      · rw [w12, if_neg (by omega)]
      · have z : S2 11 3 = 0 := by rw [eb 11 (by omega) (by omega), b113]
        exact ⟨Or.inl z, fun q => by omega⟩
  · refine ⟨-1, S, S, ?_, ?_, h⟩
    · rw [C_back, isMade_s hK ha, if_neg (fun q => g q.1)]
      rfl
    · rw [M_back, M_isMark_s ha]
      simp only [ob_some, ite01_r, ite01_e]
      rw [if_neg g]
/-! what differs from a mark -/
def sSame (Y Y' : qY) (s : Nat) : Prop := Y.2.2 s = Y'.2.2 s ∧ (0 < Y.2.2 s → Y.1 s = Y'.1 s ∧ Y.2.1 s = Y'.2.1 s)
theorem asSaved_s {S : qSto} {Y' : qY} (hI : iT S T lev) (hB : bY T lev Y) (hc : cY S T lev Y) {x : Nat} (hx : qAr x 42 = true) (hB' : bY T lev Y') (hg : gR (S x) Y') {s : Nat} (hs : (s : Int) < T 9) : Stays_isAsSaved_x (s : Int) x S = some (cI (sSame Y Y' s) 1 0, S) := by
  have b9 := bT_n hI.1
  have e0 : ((s : Int) * 3).toNat = 3 * s := by omega
  have e1 : ((s : Int) * 3 + 1).toNat = 3 * s + 1 := by omega
  have e2 : ((s : Int) * 3 + 2).toNat = 3 * s + 2 := by omega
  obtain ⟨g1, g2, g3, g4⟩ := hg s (by omega)
  have kk : ∀ Z : qY, bY T lev Z → 0 ≤ Z.2.2 s ∧ Z.2.2 s ≤ 8 := fun Z hZ => by
    have p0 := (hZ.1 s).1
    by_cases q : 0 < Z.2.2 s
    · have := bY_one hI.1 hZ hs q
      omega
    · omega
  have k1 := kk Y hB
  have k2 := kk Y' hB'
  have c0 := hc.1 s (by omega)
  simp (disch := omega) only [Stays_isAsSaved_x, qk_ix, qk_of hx, qk_r, e0, e1, e2, Int.toNat_natCast, c0, g1]
  by_cases q : Y.2.2 s = Y'.2.2 s
  · simp only [if_pos q, Stays_has_s hB hc hI.1 (s := s) (by omega), ob_some, ite01_r, ite01_e]
    by_cases w : 0 < Y.2.2 s
    · obtain ⟨x1, x2⟩ := g2 (by omega)
      obtain ⟨d1, -, d3, -, -⟩ := hc.2.1 s hs w
      have o1 := bY_one hI.1 hB hs w
      have o2 := bY_one hI.1 hB' hs (by omega)
      simp (disch := omega) only [if_pos w, qk_r, x1, x2, d1, d3]
      by_cases u : Y.1 s = Y'.1 s
      · rw [if_pos u]
        by_cases v : Y.2.1 s = Y'.2.1 s
        · rw [if_pos v, cI_t ⟨q, fun _ => ⟨u, v⟩⟩]
        · rw [if_neg v, cI_f (fun z => v (z.2 w).2)]
      · rw [if_neg u, cI_f (fun z => u (z.2 w).1)]
    · rw [if_neg w, cI_t ⟨q, fun z => absurd z w⟩]
  · rw [if_neg q, cI_f (fun z => q z.1)]
theorem differsIn_s {S : qSto} {Y' : qY} (hI : iT S T lev) (hB : bY T lev Y) (hm : mY S T lev Y) {r : Nat} (hr : r < 18) (hB' : bY T lev Y') (hg : gR (mR S r) Y') {s : Nat} (hs : (s : Int) < T 9) : M_differsIn (s : Int) (42 * (r : Int) + 3 * (s : Int)) S = some (cI (sSame Y Y' s) 0 1, S) := by
  have b9 := bT_n hI.1
  have e0 : (42 * (r : Int) + 3 * (s : Int)).toNat = 42 * r + 3 * s := by omega
  have e1 : (42 * (r : Int) + 3 * (s : Int) + 1).toNat = 42 * r + (3 * s + 1) := by omega
  have e2 : (42 * (r : Int) + 3 * (s : Int) + 2).toNat = 42 * r + (3 * s + 2) := by omega
  obtain ⟨g1, g2, g3, g4⟩ := hg s (by omega)
  have g1' : S 85 (42 * r + (3 * s + 2)) = Y'.2.2 s := g1
  have kk : ∀ Z : qY, bY T lev Z → 0 ≤ Z.2.2 s ∧ Z.2.2 s ≤ 8 := fun Z hZ => by
    have p0 := (hZ.1 s).1
    by_cases q : 0 < Z.2.2 s
    · have := bY_one hI.1 hZ hs q
      omega
    · omega
  have k1 := kk Y hB
  have k2 := kk Y' hB'
  have c0 := hm.1 s (by omega)
  simp (disch := omega) only [M_differsIn, qk_ix, qk_r, e0, e1, e2, Int.toNat_natCast, g1', M_stays_s hB hm hI.1 (s := s) (by omega)]
  by_cases w' : Y'.2.2 s ≤ 0
  · simp (disch := omega) only [if_pos w', ob_some, qk_r, ite01_r]
    by_cases w : 0 < Y.2.2 s
    · rw [if_pos w, if_neg (by omega), cI_f (fun z => by have := z.1; omega)]
    · rw [if_neg w, if_pos rfl, if_pos trivial, cI_t ⟨by omega, fun z => absurd z w⟩]
  · simp (disch := omega) only [if_neg w', ob_some, qk_r, ite01_r]
    by_cases w : 0 < Y.2.2 s
    · obtain ⟨x1, x2⟩ := g2 (by omega)
      have x1' : S 85 (42 * r + 3 * s) = Y'.1 s := x1
      have x2' : S 85 (42 * r + (3 * s + 1)) = Y'.2.1 s := x2
      obtain ⟨d1, d3, -, -⟩ := hm.2.1 s hs w
      have o1 := bY_one hI.1 hB hs w
      have o2 := bY_one hI.1 hB' hs (by omega)
      rw [if_pos w, if_pos rfl, if_neg (by omega)]
      simp (disch := omega) only [qk_r, x1', x2', d1, d3, c0]
      by_cases u : Y'.1 s = Y.1 s
      · rw [if_pos u]
        by_cases v : Y'.2.1 s = Y.2.1 s
        · rw [if_pos v]
          rw [g1']
          by_cases q : Y'.2.2 s = Y.2.2 s
          · rw [if_pos q, cI_t ⟨q.symm, fun _ => ⟨u.symm, v.symm⟩⟩]
          · rw [if_neg q, cI_f (fun z => q z.1.symm)]
        · rw [if_neg v, cI_f (fun z => v (z.2 w).2.symm)]
      · rw [if_neg u, cI_f (fun z => u (z.2 w).1.symm)]
    · rw [if_neg w, if_neg (by omega), cI_f (fun z => by have := z.1; omega)]
theorem differs_L {S : qSto} {Y' : qY} (hA : iA S T lev Y) {a : Nat} (ha : a < 4) (hB' : bY T lev Y') (h1 : gR (S (65 + a)) Y') (h2 : gR (mR S (12 + a)) Y') : ∀ (j n i : Nat) (b : Int), (i : Int) + j = T 9 → j < n → ∃ r, C_differs_L17 n (a : Int) b (i : Int) S = some (r, S) ∧ M_differs_L22 n (a : Int) b (i : Int) S = some (r, S)
  | 0, n + 1, i, b, e, _ => by
    obtain ⟨hI, hB, hc, hm⟩ := id hA
    have b9 := bT_n hI.1
    have e1 := hI.2.1.2.2.2.2.1
    have e2 := hI.2.2.1 9
    rw [C_differs_L17, M_differs_L22]
    simp (disch := omega) only [qk_r, e1, e2, if_pos (show T 9 ≤ (i : Int) by omega)]
    exact ⟨b, rfl, rfl⟩
  | j + 1, n + 1, i, b, e, hn => by
    obtain ⟨hI, hB, hc, hm⟩ := id hA
    have b9 := bT_n hI.1
    have e1 := hI.2.1.2.2.2.2.1
    have e2 := hI.2.2.1 9
    obtain ⟨z1, z2⟩ := qrf64 ha
    have x1 := asSaved_s hI hB hc z2 hB' h1 (s := i) (by omega)
    have x2 := differsIn_s hI hB hm (r := 12 + a) (by omega) hB' h2 (s := i) (by omega)
    have f : ((12 + a : Nat) : Int) = 12 + (a : Int) := by omega
    rw [f] at x2
    rw [C_differs_L17, M_differs_L22]
    simp (disch := omega) only [qk_r, qk_ix, e1, e2, if_neg (show ¬ T 9 ≤ (i : Int) by omega), Int.toNat_natCast, z1, x1, x2, ob_some]
    by_cases g : sSame Y Y' i
    · rw [cI_t g, cI_t g]
      simp (disch := omega) only [qk_r, ob_some]
      rw [if_neg (by omega), if_pos trivial]
      exact differs_L hA ha hB' h1 h2 j n (i + 1) _ (by omega) (by omega)
    · rw [cI_f g, cI_f g]
      simp (disch := omega) only [qk_r, ob_some]
      rw [if_pos trivial, if_neg (by omega)]
      exact differs_L hA ha hB' h1 h2 j n (i + 1) _ (by omega) (by omega)
theorem g_differs {a : Int} (ha : qR a) : gOK (C_differs a) (M_differs a) := fun S h => by
  obtain ⟨T, lev, Y, hA', hw, ⟨o, m, hH⟩, hK, hR, hF⟩ := id h
  obtain ⟨hI, hB, hc, hm⟩ := id hA'
  obtain ⟨m1, m2⟩ := id ha
  have b9 := bT_n hI.1
  by_cases g : 0 ≤ a ∧ a ≤ 3
  · have fa : ((a.toNat : Nat) : Int) = a := by omega
    obtain ⟨k1, k2, k3⟩ := hK.2 a.toNat (by omega)
    rcases k2 with k2 | k2
    · refine ⟨-1, S, S, ?_, ?_, h⟩
      · rw [C_differs, isMade_s hK ha, if_neg (by omega)]
        rfl
      · rw [M_differs, M_isMark_s ha]
        simp only [ob_some, ite01_r, ite01_e]
        rw [if_pos g, qk_ix (by omega) (by omega), k2]
        rfl
    · obtain ⟨Y', y1, y2, y3, y4⟩ := k3 k2
      obtain ⟨r, x1, x2⟩ := differs_L hA' (a := a.toNat) (by omega) y1 y3 y4 (T 9).toNat qF 0 0 (by omega) (by unfold qF; omega)
      rw [fa] at x1 x2
      have x1' : C_differs_L17 qF a 0 0 S = _ := x1
      have x2' : M_differs_L22 qF a 0 0 S = _ := x2
      refine ⟨r, S, S, ?_, ?_, h⟩
      · rw [C_differs, isMade_s hK ha, if_pos ⟨g, k2⟩]
        simp only [ob_some]
        rw [qk_r (by omega) (by omega), if_neg (by omega), x1']
        rfl
      · rw [M_differs, M_isMark_s ha]
        simp only [ob_some, ite01_r, ite01_e]
        rw [if_pos g, qk_ix (by omega) (by omega), k2, qk_r (by omega) (by omega), if_neg (by omega), x2']
        rfl
  · refine ⟨-1, S, S, ?_, ?_, h⟩
    · rw [C_differs, isMade_s hK ha, if_neg (fun q => g q.1)]
      rfl
    · rw [M_differs, M_isMark_s ha]
      simp only [ob_some, ite01_r, ite01_e]
      rw [if_neg g]
end PUN
