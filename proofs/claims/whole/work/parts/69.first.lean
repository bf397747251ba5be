/-! the first store -/
section PFS
/-- what the class' constructor leaves, and the reference's rows before blank and stands -/
def iZ (S : qSto) : Prop :=
  (∀ i : Nat, i < 6 → S 15 i = tN0 i) ∧ (S 2 2 = 0 ∧ S 2 5 = 0 ∧ S 2 8 = 0 ∧ S 2 12 = 0) ∧ (∀ k : Nat, k < 21 → S 22 k = -1) ∧ (∀ t : Nat, t < 336 → S 36 t = 0) ∧
  ((∀ s, s < 14 → S 40 s = 0) ∧ (∀ t, t < 336 → S 43 t = 0) ∧ gB S 37 ∧ gB S 38 ∧ gB S 39 ∧ gB S 41 ∧ gB S 42) ∧ (gB S 78 ∧ gB S 79 ∧ gB S 81 ∧ gB S 82) ∧
  (S 12 1 = 0 ∧ S 12 2 = 0 ∧ S 12 4 = 0 ∧ S 11 3 = 0) ∧ (S 13 1 = 0 ∧ S 70 41 = 0 ∧ S 0 1 = 0 ∧ S 70 5 = 0) ∧ (S 4 5 = 0 ∧ S 4 6 = -1 ∧ S 70 15 = 0 ∧ S 70 16 = -1)
theorem first_iG {S : qSto} (h : iZ S) : ∃ S1 S2, M_blank S = some S1 ∧ M_stands S1 = some S2 ∧ iG S2 := by
  obtain ⟨a1, ⟨a2, a3, a4, a5⟩, a6, a7, ⟨b1, b2, b3, b4, b5, b6, b7⟩, ⟨c1, c2, c3, c4⟩, ⟨d1, d2, d3, d4⟩, ⟨e1, e2, e3, e4⟩, ⟨f1, f2, f3, f4⟩⟩ := h
  obtain ⟨S1, v1, v2, v3, v4, v5⟩ := blank_s (S := S)
  obtain ⟨T, hT⟩ : ∃ T : Nat → Int, T = fun k => if k < 250 then tN0 k else S 72 k := ⟨_, rfl⟩
  have eT : ∀ j, j < 250 → T j = tN0 j := fun j hj => by rw [hT]; exact if_pos hj
  have bT' : bT T := bT_eq (fun j hj _ => eT j hj) (hS_0 (S 34) (S 73)).1
  have z6 : T 6 = 0 := by rw [eT 6 (by omega)]; rfl
  have z7 : T 7 = 0 := by rw [eT 7 (by omega)]; rfl
  have z8 : T 8 = 0 := by rw [eT 8 (by omega)]; rfl
  have z9 : T 9 = 0 := by rw [eT 9 (by omega)]; rfl
  obtain ⟨lev, hlev⟩ := levels bT'
  have cw : cWat S T := ⟨by rw [a4, z8], fun k hk => by omega⟩
  have l0 : ∀ t : Nat, t < 336 → lev t = 0 := fun t ht => by
    have e := (hlev t ht).2.1 S cw
    have L : Waters_levelAt_L7 qF (t : Int) (-1) (-1) 0 S = some (-1, -1, S) := by
      show Waters_levelAt_L7 (4999 + 1) (t : Int) (-1) (-1) 0 S = some (-1, -1, S)
      rw [Waters_levelAt_L7, a4, qk_r (by omega) (by omega), qk_r (by omega) (by omega), if_pos (by omega)]
    rw [Waters_levelAt, L] at e
    simp only [ob_sn] at e
    rw [qk_r (by omega) (by omega), if_pos trivial, qk_r (by omega) (by omega), if_pos trivial] at e
    exact (Prod.mk.inj (Option.some.inj e)).1.symm
  obtain ⟨S2, j0, j1, j2, j3, j4, j5, j6, j7, j8, j9⟩ := stands_s (T := T) (lev := lev) (S := S1) bT' (fun k => by
    rw [hT, v2, v4 72 (by omega) (by omega)]
    dsimp only
    by_cases w : k < 250
    · rw [if_pos w, if_pos w, if_pos w]
    · rw [if_neg w, if_neg w]) (fun t ht => (hlev t ht).2.2)
  have e : ∀ c, ¬ ((70 ≤ c ∧ c ≤ 77) ∨ c = 80 ∨ c = 86) → S2 c = S c := fun c hc => by rw [j9 c (by omega), v4 c (by omega) (by omega)]
  have e7 : ∀ u, u ≠ 14 → u ≠ 31 → S2 70 u = S 70 u := fun u h1 h2 => by rw [j8 u h2, v5 u h1]
  refine ⟨S1, S2, v1, j0, T, lev, Y0, ⟨⟨bT', ⟨fun i hi => ?_, ?_, ?_, ?_, ?_, fun k hk => by omega, fun k hk => by omega, fun k hk => by omega, fun k hk => ?_, fun s hs => by omega⟩, j1, fun t ht => ⟨?_, j4 t ht, (hlev t ht).1.1, (hlev t ht).1.2⟩, j3⟩, bY_0, ⟨fun s hs => ?_, fun s hs hk => ?_, fun t ht => ?_, gB_off b3 (e 37 (by omega)), gB_off b4 (e 38 (by omega)), gB_off b5 (e 39 (by omega)), gB_off b6 (e 41 (by omega)), gB_off b7 (e 42 (by omega))⟩, ⟨fun s hs => ?_, fun s hs hk => ?_, gB_off c1 (e 78 (by omega)), gB_off c2 (e 79 (by omega)), gB_off c3 (e 81 (by omega)), gB_off c4 (e 82 (by omega))⟩⟩, wY_0 bT', ⟨0, 0, by omega, by omega, ?_, ?_, ?_, fun i hi => by omega⟩, ⟨?_, fun q hq => ?_⟩, ⟨fun s hs => by omega, ?_, ?_, ?_⟩, ?_⟩
  · rw [e 15 (by omega), eT i (by omega)]
    exact a1 i hi
  · rw [e 2 (by omega), z6]
    exact a2
  · rw [e 2 (by omega), z7]
    exact a3
  · rw [e 2 (by omega), z8]
    exact a4
  · rw [e 2 (by omega), z9]
    exact a5
  · rw [e 22 (by omega), eT _ (by omega), tN0_g hk]
    exact a6 k hk
  · rw [e 36 (by omega), a7 t ht, l0 t ht]
  · rw [e 40 (by omega), b1 s hs]
    rfl
  · have : Y0.2.2 s = 0 := rfl
    omega
  · rw [e 43 (by omega), b2 t ht, busy_0]
  · rw [j5 s hs]
    rfl
  · have : Y0.2.2 s = 0 := rfl
    omega
  · show S2 12 1 = 0
    rw [e 12 (by omega), d1]
  · show S2 12 2 = 0
    rw [e 12 (by omega), d2]
  · show S2 70 31 = 0
    exact j7
  · rw [e 12 (by omega), d3]
    omega
  · rw [e 12 (by omega), d3, j6 q hq]
    have : q = 0 ∨ q = 1 ∨ q = 2 ∨ q = 3 := by omega
    refine ⟨?_, Or.inl rfl, fun h => by omega⟩
    rcases this with rfl | rfl | rfl | rfl <;> decide +kernel
  · unfold iW
    rw [e 13 (by omega), e7 41 (by omega) (by omega), e1, e2]
    exact ⟨by omega, rfl, fun i hi => by omega⟩
  · unfold iP
    rw [e 0 (by omega), e7 5 (by omega) (by omega), e3, e4]
    exact ⟨by omega, rfl, fun i hi => by omega⟩
  · unfold iX
    rw [e 4 (by omega), e7 15 (by omega) (by omega), e7 16 (by omega) (by omega), f1, f2, f3, f4]
    exact ⟨rfl, rfl, ⟨by omega, by omega⟩, ⟨by omega, by omega⟩⟩
  · have q11' : S2 11 3 = 0 := by rw [e 11 (by omega), d4]
    exact ⟨Or.inl q11', fun h => by omega⟩
end PFS
