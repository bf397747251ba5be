/-! a whole text -/
section PGT
def Y0 : qY := (fun _ => 0, fun _ => 0, fun _ => 0)
theorem clear_n {S : qSto} : ∃ S', Stays_clear S = some S' ∧ (∀ s, s < 14 → S' 40 s = 0) ∧ (∀ t, t < 336 → S' 43 t = 0) ∧ ∀ c, c ≠ 40 → c ≠ 43 → S' c = S c := by
  obtain ⟨S1, t1, t2, t3⟩ := fill40_s (v := 0) (S := S)
  obtain ⟨S2, u1, u2, u3⟩ := fill43_s (v := 0) (S := S1)
  refine ⟨S2, ?_, fun s hs => by rw [u2 40 (by omega), t3 s hs], u3, fun c h1 h2 => (u2 c h2).trans (t2 c h1)⟩
  rw [Stays_clear, t1]
  simp only [ob_sn]
  rw [u1]
  rfl
theorem busy_0 {T : Nat → Int} {t : Nat} : sBusy T Y0 t = 0 := by
  unfold sBusy
  rw [sm_cong (g := fun _ => 0) (fun s _ => by
    have : Y0.2.2 s = 0 := rfl
    rw [if_neg (by omega)])]
  exact sm_zero _
theorem bY_0 {T lev : Nat → Int} : bY T lev Y0 := ⟨fun s => ⟨by show (0 : Int) ≤ 0; omega, fun _ => rfl⟩, fun s _ h => by
  have : Y0.2.2 s = 0 := rfl
  omega⟩
theorem wY_0 {T lev : Nat → Int} (hT : bT T) : wY T lev Y0 := ⟨fun a b _ _ _ h _ => by
  have : Y0.2.2 a = 0 := rfl
  omega, fun t _ => by rw [sDeal_idle (lev := lev) hT bY_0 (by rw [busy_0]; omega)], fun a _ h => by
  have : Y0.2.2 a = 0 := rfl
  omega⟩
theorem g_text {a : Int} (ha : qR a) : gOK (C_text a) (M_text a) := fun S h => by
  obtain ⟨T, lev, Y, hA0, hw, ⟨o, m, hh⟩, hK, hR, hF⟩ := id h
  obtain ⟨hN, hW, hP, hX⟩ := id hR
  obtain ⟨p1, p2, p3⟩ := id hP
  obtain ⟨ha1, ha2⟩ := ha
  by_cases g0 : a < 0
  · refine ⟨-2, S, S, ?_, ?_, h⟩
    · rw [C_text, qk_r (by omega) (by omega), if_pos g0]
    · rw [M_text, qk_r (by omega) (by omega), if_pos g0]
  by_cases g1 : ¬ a ≤ S 0 1
  · refine ⟨-2, S, S, ?_, ?_, h⟩
    · rw [C_text, qk_r (by omega) (by omega), if_neg g0, qk_r (by omega) (by omega), qk_r (by omega) (by omega), if_neg g1]
    · rw [M_text, qk_r (by omega) (by omega), if_neg g0, p2, qk_r (by omega) (by omega), qk_r (by omega) (by omega), if_neg g1]
  have g1 : a ≤ S 0 1 := by omega
  obtain ⟨n, hn⟩ : ∃ n : Nat, a = n := ⟨a.toNat, by omega⟩
  obtain ⟨B, hB⟩ : ∃ B : Nat → Int, B = S 75 := ⟨_, rfl⟩
  have hb : hBy B n := ⟨by omega, fun i hi => by rw [hB]; exact (p3 i (by omega)).1⟩
  -- nothing is heard: the class
  obtain ⟨S0, hS0⟩ : ∃ S0, S0 = qup (qup (qup (qup (qup S 0 1 0) 4 3 a) 4 4 0) 4 5 0) 4 6 (-1) := ⟨_, rfl⟩
  have o0 : ∀ c, c ≠ 0 → c ≠ 4 → S0 c = S c := fun c h1 h2 => by rw [hS0, qup_off h2, qup_off h2, qup_off h2, qup_off h2, qup_off h1]
  have o01 : S0 0 1 = 0 := by rw [hS0]; rfl
  have o4 : S0 4 3 = a ∧ S0 4 4 = 0 ∧ S0 4 5 = 0 ∧ S0 4 6 = -1 := by rw [hS0]; exact ⟨rfl, rfl, rfl, rfl⟩
  obtain ⟨S1, t1, t2, t3, t4⟩ := forget_s (S := S0)
  obtain ⟨F, hFd⟩ : ∃ F : Nat → Int, F = fun u => if u < 250 then tN0 u else S 71 u := ⟨_, rfl⟩
  have eF : ∀ j, j < 250 → F j = tN0 j := fun j hj => by rw [hFd]; exact if_pos hj
  have z6 : F 6 = 0 := by rw [eF 6 (by omega)]; rfl
  have z7 : F 7 = 0 := by rw [eF 7 (by omega)]; rfl
  have z8 : F 8 = 0 := by rw [eF 8 (by omega)]; rfl
  have z9 : F 9 = 0 := by rw [eF 9 (by omega)]; rfl
  have z10 : F 10 = 0 := by rw [eF 10 (by omega)]; rfl
  have hS : hS F 0 (S 34) (S 73) := ⟨bT_eq (fun j hj _ => eF j hj) (hS_0 (S 34) (S 73)).1, by omega, by omega, fun s hs => by omega⟩
  have c1 : cV B n F 0 (S 34) S1 := by
    obtain ⟨r0, r1, r2, r3, r4, r5, r6, r7, r8, r9⟩ := t2
    refine ⟨⟨by rw [t4 4 (by omega) (by omega) (by omega), o4.1, hn], fun i hi => ?_⟩, ⟨fun i hi => by rw [eF i (by omega)]; exact r0 i hi, by rw [eF 6 (by omega)]; exact r1, by rw [eF 7 (by omega)]; exact r2, by rw [eF 8 (by omega)]; exact r3, by rw [eF 9 (by omega)]; exact r4, fun k hk => by omega, fun k hk => by omega, fun k hk => by omega, fun k hk => by rw [eF (103 + k) (by omega)]; exact r8 k hk, fun s hs => by omega⟩, t3, fun j => by rw [t4 34 (by omega) (by omega) (by omega), o0 34 (by omega) (by omega)]⟩
    rw [t4 1 (by omega) (by omega) (by omega), o0 1 (by omega) (by omega), hB]
    exact (p3 i (by omega)).2
  have s4 : S1 4 4 = ((0 : Nat) : Int) := by rw [t4 4 (by omega) (by omega) (by omega), o4.2.1]; rfl
  have s45 : S1 4 5 = 0 := by rw [t4 4 (by omega) (by omega) (by omega), o4.2.2.1]
  have s46 : S1 4 6 = -1 := by rw [t4 4 (by omega) (by omega) (by omega), o4.2.2.2]
  have s1o : ∀ c, ¬ (c = 0 ∨ c = 3 ∨ c = 4 ∨ (25 ≤ c ∧ c ≤ 35)) → S1 c = S c := fun c hc => by rw [t4 c (by omega) (by omega) (by omega), o0 c (by omega) (by omega)]
  have s10 : S1 0 1 = 0 := by rw [t4 0 (by omega) (by omega) (by omega), o01]
  have ct : C_text a S = Option.bind (Option.bind (Reader_readText_L39 qF 0 0 S1) (fun q309 => Sum.elim (fun t311 => some (t311.1, t311.2)) (fun w => some w) q309)) (fun q312 => qk (qRb q312.1) (if q312.1 = (-1) then some ((-1), q312.2) else (Option.bind (Told_takeOver_3 q312.2) (fun q315 => Option.bind (Waters_reckon q315) (fun q367 => Option.bind (Stays_clear q367) (fun q381 => Option.bind (History_forget q381) (fun q383 => some (q312.1, qup q383 11 3 0)))))))) := by
    have e1 : Reader_readText a (qup S 0 1 0) = Option.bind (Reader_readText_L39 qF 0 0 S1) (fun q309 => Sum.elim (fun t311 => some (t311.1, t311.2)) (fun w => some w) q309) := by
      rw [Reader_readText, Jm_min, qk_r (by omega) (by omega), qk_r (by omega) (by omega), if_neg (by omega)]
      simp only [ob_sn]
      rw [← hS0, t1]
      simp only [ob_sn]
    rw [C_text, qk_r (by omega) (by omega), if_neg g0, qk_r (by omega) (by omega), qk_r (by omega) (by omega), if_pos g1, e1]
  -- nothing is heard: the reference
  have ref : ∀ Sx, (∀ c, 70 ≤ c → Sx c = S c) → ∃ R2, mV B n F 0 (S 34) (S 73) R2 ∧ tok B n 0 R2 ∧ R2 70 5 = 0 ∧ R2 70 12 = -1 ∧ (∀ c, c ≠ 70 → c ≠ 71 → R2 c = Sx c) ∧ (∀ u, ¬ ((5 ≤ u ∧ u ≤ 14) ∨ u = 17) → R2 70 u = S 70 u) ∧ M_text a Sx = Option.bind (M_text_L48 qF R2) (fun q2388 => qk (qRb ((qup (qup q2388 70 15 (q2388 70 11)) 70 16 ((qup q2388 70 15 (q2388 70 11)) 70 12)) 70 11)) (if ((qup (qup q2388 70 15 (q2388 70 11)) 70 16 ((qup q2388 70 15 (q2388 70 11)) 70 12)) 70 11) ≤ 0 then (Option.bind (M_stands (qup (qup q2388 70 15 (q2388 70 11)) 70 16 ((qup q2388 70 15 (q2388 70 11)) 70 12))) (fun q2465 => some (q2465 72 10, q2465))) else some ((-1), qup (qup q2388 70 15 (q2388 70 11)) 70 16 ((qup q2388 70 15 (q2388 70 11)) 70 12)))) := fun Sx hx => by
    obtain ⟨R0, hR0⟩ : ∃ R0, R0 = qup (qup (qup (qup (qup Sx 70 6 a) 70 5 0) 70 7 0) 70 11 0) 70 12 (-1) := ⟨_, rfl⟩
    have r0 : R0 70 6 = a ∧ R0 70 5 = 0 ∧ R0 70 7 = 0 ∧ R0 70 11 = 0 ∧ R0 70 12 = -1 := by rw [hR0]; exact ⟨rfl, rfl, rfl, rfl, rfl⟩
    have r0o : ∀ c, c ≠ 70 → R0 c = Sx c := fun c hc => by rw [hR0, qup_off hc, qup_off hc, qup_off hc, qup_off hc, qup_off hc]
    have r0u : ∀ u, ¬ ((5 ≤ u ∧ u ≤ 14) ∨ u = 17) → R0 70 u = Sx 70 u := fun u hu => by rw [hR0, qup_on, if_neg (by omega), qup_on, if_neg (by omega), qup_on, if_neg (by omega), qup_on, if_neg (by omega), qup_on, if_neg (by omega)]
    obtain ⟨R1, v1, v2, v3, v4, v5⟩ := blank_s (S := R0)
    have bq : bQ R1 B n := ⟨by rw [v5 6 (by omega), r0.1, hn], fun i hi => by rw [v4 75 (by omega) (by omega), r0o 75 (by omega), hx 75 (by omega), hB]⟩
    obtain ⟨R2, w1, w2, w3⟩ := goOn_s hb (show 0 ≤ n by omega) bq (by rw [v5 7 (by omega), r0.2.2.1]; rfl)
    refine ⟨R2, ⟨f7_b bq w3, fun k => ?_, ?_, fun s => ?_, ?_⟩, w2, ?_, ?_, fun c h1 h2 => ?_, fun u hu => ?_, ?_⟩
    · rw [w3.1 71 (by omega), v2, r0o 71 (by omega), hx 71 (by omega), hFd]
    · rw [w3.2 14 (by omega), v3]
    · rw [w3.1 73 (by omega), v4 73 (by omega) (by omega), r0o 73 (by omega), hx 73 (by omega)]
    · rw [w3.2 11 (by omega), v5 11 (by omega), r0.2.2.2.1]
    · rw [w3.2 5 (by omega), v5 5 (by omega), r0.2.1]
    · rw [w3.2 12 (by omega), v5 12 (by omega), r0.2.2.2.2]
    · rw [w3.1 c h1, v4 c h1 h2, r0o c h1]
    · rw [w3.2 u (by omega), v5 u (by omega), r0u u hu, hx 70 (by omega)]
    · have e5 : Sx 70 5 = S 0 1 := by rw [hx 70 (by omega), p2]
      rw [M_text, qk_r (by omega) (by omega), if_neg g0, qk_r (by omega) (by omega), e5, qk_r (by omega) (by omega), if_pos g1, ← hR0, v1]
      simp only [ob_sn]
      rw [w1]
      simp only [ob_sn]
  have mrE : ∀ R : qSto, R 85 = S 85 → ∀ q u, mR R q u = mR S q u := fun R e q u => by
    show R 85 _ = S 85 _
    rw [e]
  rcases text_L hb n F 0 (S 34) (S 73) 0 0 (by omega) (by omega) hS z10 (by omega) (Or.inl rfl) with ⟨k, q, k1, k2, k3, k4⟩ | ⟨F', o', N', ln', k1, k2, k3, k4⟩
  · -- a fault
    obtain ⟨Sc, x1, x2, x3⟩ := k3 qF S1 (by unfold qF; omega) c1 s4
    have x1' : Reader_readText_L39 qF 0 0 S1 = some (.inr (-1, Sc)) := x1
    have so : ∀ c, ¬ (c = 0 ∨ c = 3 ∨ c = 4 ∨ (25 ≤ c ∧ c ≤ 35)) → Sc c = S c := fun c hc => by rw [x3 c (by omega), s1o c hc]
    obtain ⟨R2, y1, y2, y3, y4, y5, y6, y7⟩ := ref Sc (fun c hc => so c (by omega))
    obtain ⟨R3, u1, u2, u3⟩ := k4 qF R2 (by unfold qF; have := hb.1; omega) y1 y2
    obtain ⟨R4, hR4⟩ : ∃ R4, R4 = qup (qup R3 70 15 (R3 70 11)) 70 16 ((qup R3 70 15 (R3 70 11)) 70 12) := ⟨_, rfl⟩
    have q11 : R4 70 11 = k := by rw [hR4, qup_on, if_neg (by omega), qup_on, if_neg (by omega)]; exact u2.2.1
    have q15 : R4 70 15 = k := by rw [hR4, qup_on, if_neg (by omega), qup_on, if_pos rfl]; exact u2.2.1
    have q16 : R4 70 16 = q := by rw [hR4, qup_on, if_pos rfl, qup_on, if_neg (by omega)]; exact u2.2.2
    have e4 : ∀ c, ¬ (c = 70 ∨ c = 71 ∨ c = 73) → R4 c = Sc c := fun c hc => by rw [hR4, qup_off (by omega), qup_off (by omega), u3.1 c hc, y5 c (by omega) (by omega)]
    have e : ∀ c, ¬ (c = 0 ∨ c = 3 ∨ c = 4 ∨ (25 ≤ c ∧ c ≤ 35) ∨ c = 70 ∨ c = 71 ∨ c = 73) → R4 c = S c := fun c hc => by rw [e4 c (by omega), so c (by omega)]
    have e7 : ∀ u, ¬ (5 ≤ u ∧ u ≤ 17) → R4 70 u = S 70 u := fun u hu => by rw [hR4, qup_on, if_neg (by omega), qup_on, if_neg (by omega), u3.2.1 u (by omega), y6 u (by omega)]
    have q5 : R4 70 5 = 0 := by rw [hR4, qup_on, if_neg (by omega), qup_on, if_neg (by omega), u3.2.1 5 (by omega), y3]
    have q0 : R4 0 1 = 0 := by rw [e4 0 (by omega), x3 0 (by omega), s10]
    refine ⟨-1, Sc, R4, ?_, ?_, T, lev, Y, ⟨iT_off hA0.1 (fun c hc => e c (by omega)), hA0.2.1, cY_off hA0.2.2.1 (fun c hc => e c (by omega)), mY_off hA0.2.2.2 (fun c hc => e c (by omega))⟩, hw, ⟨o, m, hA_off hh (e 12 (by omega)) (e7 31 (by omega)) (fun c _ _ => e c (by omega)) (fun q' _ u _ => mrE R4 (e 85 (by omega)) q' u)⟩, hM_off hK (by rw [e 12 (by omega)]) (e 86 (by omega)) (fun c _ _ => e c (by omega)) (fun q' _ _ u _ => mrE R4 (e 85 (by omega)) q' u), ⟨fun s hs => by rw [e 24 (by omega), e 74 (by omega)]; exact hN s hs, ?_, ?_, ?_⟩, iF_off hF (e 11 (by omega)) (e 47 (by omega))⟩
    · rw [ct, x1']
      rfl
    · rw [y7, u1]
      simp only [ob_sn]
      rw [← hR4, q11, qk_r (by omega) (by omega), if_neg (by omega)]
    · unfold iW
      rw [e 13 (by omega), e7 41 (by omega), e 69 (by omega), e 92 (by omega)]
      exact hW
    · unfold iP
      rw [q0, q5]
      exact ⟨by omega, rfl, fun i hi => by omega⟩
    · unfold iX
      rw [e4 4 (by omega), x2.1, x2.2, q15, q16]
      exact ⟨rfl, rfl, ⟨by omega, by omega⟩, ⟨by omega, by omega⟩⟩
  · -- all lines are taken
    obtain ⟨kT, ko, kl, kn⟩ := id k1
    obtain ⟨Sc, x1, x2, ⟨x3, x3'⟩, x4⟩ := k3 qF S1 (by unfold qF; omega) c1 s4
    have x1' : Reader_readText_L39 qF 0 0 S1 = some (.inl (F' 10, Sc)) := x1
    have so : ∀ c, ¬ (c = 0 ∨ c = 3 ∨ c = 4 ∨ (25 ≤ c ∧ c ≤ 35)) → Sc c = S c := fun c hc => by rw [x4 c (by omega), s1o c hc]
    obtain ⟨S2, d0, d1, d2, d3, d4, d5, d6, d7, d8, d9, d10, d11, d12, d13, d14, d15, d16⟩ := takeOver_s Sc
    obtain ⟨⟨-, -⟩, ⟨r0, r1, r2, r3, r4, r5, r6, r7, r8, r9⟩, r10, r11⟩ := x2
    obtain ⟨T', hT'⟩ : ∃ T' : Nat → Int, T' = fun k => if k < 250 then F' k else S 72 k := ⟨_, rfl⟩
    have eT : ∀ j, j < 250 → T' j = F' j := fun j hj => by rw [hT']; exact if_pos hj
    have bT' : bT T' := bT_eq (fun j hj _ => eT j hj) kT
    have b6 : 0 ≤ F' 6 ∧ F' 6 ≤ 8 := kT.2.2.2.2.2.2.1
    have b7 : 0 ≤ F' 7 ∧ F' 7 ≤ 8 := kT.2.2.2.2.2.2.2.1
    have b8 : 0 ≤ F' 8 ∧ F' 8 ≤ 30 := kT.2.2.2.2.2.2.2.2.1
    have b9 : 0 ≤ F' 9 ∧ F' 9 ≤ 14 := kT.2.2.2.2.2.2.2.2.2.1
    have y6 := eT 6 (by omega)
    have y7 := eT 7 (by omega)
    have y8 := eT 8 (by omega)
    have y9 := eT 9 (by omega)
    obtain ⟨lev', hlev⟩ := levels bT'
    have cw : cWat S2 T' := ⟨by rw [d9, r3, y8], fun k hk => by
      rw [y8] at hk
      rw [d10 k (by omega), d11 k (by omega), eT _ (by omega), eT _ (by omega)]
      exact r7 k hk⟩
    obtain ⟨S3, f1, f2, f3⟩ := waters_s (fun t ht => (hlev t ht).2.1) cw
    obtain ⟨S4, h1, h2, h3, h4⟩ := clear_n (S := S3)
    obtain ⟨S6, hS6⟩ : ∃ S6, S6 = qup (qup (qup S4 12 2 0) 12 4 0) 11 3 0 := ⟨_, rfl⟩
    have o6 : ∀ c, c ≠ 11 → c ≠ 12 → S6 c = S4 c := fun c h1 h2 => by rw [hS6, qup_off h1, qup_off h2, qup_off h2]
    have o12 : S6 12 1 = S4 12 1 ∧ S6 12 2 = 0 ∧ S6 12 4 = 0 ∧ S6 11 3 = 0 := by rw [hS6]; exact ⟨rfl, rfl, rfl, rfl⟩
    have s6 : ∀ c, ¬ (c = 0 ∨ (2 ≤ c ∧ c ≤ 4) ∨ c = 11 ∨ c = 12 ∨ (15 ≤ c ∧ c ≤ 36) ∨ c = 40 ∨ c = 43) → S6 c = S c := fun c hc => by rw [o6 c (by omega) (by omega), h4 c (by omega) (by omega), f2 c (by omega), d16 c (by omega), so c (by omega)]
    have s62 : ∀ c, c = 2 ∨ (15 ≤ c ∧ c ≤ 24) → S6 c = S2 c := fun c hc => by rw [o6 c (by omega) (by omega), h4 c (by omega) (by omega), f2 c (by omega)]
    obtain ⟨R2, y1, y2, y3, y4, y5, y6', y7'⟩ := ref S6 (fun c hc => s6 c (by omega))
    obtain ⟨R3, u1, u2, u3⟩ := k4 qF R2 (by unfold qF; have := hb.1; omega) y1 y2
    obtain ⟨v1, v2, v3, v4, v5⟩ := id u2
    obtain ⟨R4, hR4⟩ : ∃ R4, R4 = qup (qup R3 70 15 (R3 70 11)) 70 16 ((qup R3 70 15 (R3 70 11)) 70 12) := ⟨_, rfl⟩
    have q11 : R4 70 11 = 0 := by rw [hR4, qup_on, if_neg (by omega), qup_on, if_neg (by omega)]; exact v5
    have q15 : R4 70 15 = 0 := by rw [hR4, qup_on, if_neg (by omega), qup_on, if_pos rfl]; exact v5
    have q16 : R4 70 16 = -1 := by rw [hR4, qup_on, if_pos rfl, qup_on, if_neg (by omega), (u3.2.2 v5).2, y4]
    have q71 : ∀ k, R4 71 k = F' k := fun k => by rw [hR4, qup_off (by omega), qup_off (by omega)]; exact v2 k
    have q73 : ∀ s, R4 73 s = ln' s := fun s => by rw [hR4, qup_off (by omega), qup_off (by omega)]; exact v4 s
    have e4 : ∀ c, ¬ (c = 70 ∨ c = 71 ∨ c = 73) → R4 c = S6 c := fun c hc => by rw [hR4, qup_off (by omega), qup_off (by omega), u3.1 c hc, y5 c (by omega) (by omega)]
    have e7 : ∀ u, ¬ (5 ≤ u ∧ u ≤ 17) → R4 70 u = S 70 u := fun u hu => by rw [hR4, qup_on, if_neg (by omega), qup_on, if_neg (by omega), u3.2.1 u (by omega), y6' u (by omega)]
    have q5 : R4 70 5 = 0 := by rw [hR4, qup_on, if_neg (by omega), qup_on, if_neg (by omega), u3.2.1 5 (by omega), y3]
    obtain ⟨R5, j0, j1, j2, j3, j4, j5, j6, j7, j8, j9⟩ := stands_s (T := T') (lev := lev') (S := R4) bT' (fun k => by
      rw [hT', q71, e4 72 (by omega), s6 72 (by omega)]) (fun t ht => (hlev t ht).2.2)
    have e5 : ∀ c, ¬ ((70 ≤ c ∧ c ≤ 77) ∨ c = 80 ∨ c = 86) → R5 c = S6 c := fun c hc => by rw [j9 c (by omega), e4 c (by omega)]
    have e5S : ∀ c, ¬ (c = 0 ∨ (2 ≤ c ∧ c ≤ 4) ∨ c = 11 ∨ c = 12 ∨ (15 ≤ c ∧ c ≤ 36) ∨ c = 40 ∨ c = 43 ∨ (70 ≤ c ∧ c ≤ 77) ∨ c = 80 ∨ c = 86) → R5 c = S c := fun c hc => by rw [e5 c (by omega), s6 c (by omega)]
    have e52 : ∀ c, c = 2 ∨ (15 ≤ c ∧ c ≤ 24) → R5 c = S2 c := fun c hc => by rw [e5 c (by omega), s62 c hc]
    have q0 : R5 0 1 = 0 := by rw [e5 0 (by omega), o6 0 (by omega) (by omega), h4 0 (by omega) (by omega), f2 0 (by omega), d16 0 (by omega), x4 0 (by omega), s10]
    have q4 : R5 4 = Sc 4 := by rw [e5 4 (by omega), o6 4 (by omega) (by omega), h4 4 (by omega) (by omega), f2 4 (by omega), d16 4 (by omega)]
    have iT' : iT R5 T' lev' := by
      refine ⟨bT', ⟨fun i hi => ?_, ?_, ?_, ?_, ?_, fun k hk => ?_, fun k hk => ?_, fun k hk => ?_, fun k hk => ?_, fun s hs w hw => ?_⟩, j1, fun t ht => ⟨?_, j4 t ht, (hlev t ht).1.1, (hlev t ht).1.2⟩, j3⟩
      · rw [e52 15 (by omega), d1 i hi, eT i (by omega)]
        exact r0 i hi
      · rw [e52 2 (by omega), d3, y6]
        exact r1
      · rw [e52 2 (by omega), d6, y7]
        exact r2
      · rw [e52 2 (by omega), d9, y8]
        exact r3
      · rw [e52 2 (by omega), d13, y9]
        exact r4
      · rw [y6] at hk
        rw [e52 16 (by omega), e52 17 (by omega), d4 k (by omega), d5 k (by omega), eT _ (by omega), eT _ (by omega)]
        exact r5 k hk
      · rw [y7] at hk
        rw [e52 18 (by omega), e52 19 (by omega), d7 k (by omega), d8 k (by omega), eT _ (by omega), eT _ (by omega)]
        exact r6 k hk
      · rw [y8] at hk
        rw [e52 20 (by omega), e52 21 (by omega), d10 k (by omega), d11 k (by omega), eT _ (by omega), eT _ (by omega)]
        exact r7 k hk
      · rw [e52 22 (by omega), d12 k hk, eT _ (by omega)]
        exact r8 k hk
      · rw [y9] at hs
        rw [e52 23 (by omega), d14 _ (by omega), eT _ (by omega)]
        exact r9 s hs w hw
      · rw [e5 36 (by omega), o6 36 (by omega) (by omega), h4 36 (by omega) (by omega), f3 t ht]
    have cY' : cY R5 T' lev' Y0 := by
      obtain ⟨-, -, -, w37, w38, w39, w41, w42⟩ := hA0.2.2.1
      refine ⟨fun s hs => ?_, fun s hs hk => ?_, fun t ht => ?_, gB_off w37 (e5S 37 (by omega)), gB_off w38 (e5S 38 (by omega)), gB_off w39 (e5S 39 (by omega)), gB_off w41 (e5S 41 (by omega)), gB_off w42 (e5S 42 (by omega))⟩
      · rw [e5 40 (by omega), o6 40 (by omega) (by omega), h2 s hs]
        rfl
      · have : Y0.2.2 s = 0 := rfl
        omega
      · rw [e5 43 (by omega), o6 43 (by omega) (by omega), h3 t ht, busy_0]
    have mY' : mY R5 T' lev' Y0 := by
      obtain ⟨-, -, w78, w79, w81, w82⟩ := hA0.2.2.2
      refine ⟨fun s hs => ?_, fun s hs hk => ?_, gB_off w78 (e5S 78 (by omega)), gB_off w79 (e5S 79 (by omega)), gB_off w81 (e5S 81 (by omega)), gB_off w82 (e5S 82 (by omega))⟩
      · rw [j5 s hs]
        rfl
      · have : Y0.2.2 s = 0 := rfl
        omega
    obtain ⟨hh1, hh2, hh3, hh4, hh5, hh6⟩ := hh
    have q12 : R5 12 = S6 12 := e5 12 (by omega)
    refine ⟨F' 10, S6, R5, ?_, ?_, T', lev', Y0, ⟨iT', bY_0, cY', mY'⟩, wY_0 bT', ⟨o, 0, hh1, by omega, ?_, ?_, ?_, fun i hi => by omega⟩, ⟨?_, fun q hq => ?_⟩, ⟨fun s hs => ?_, ?_, ?_, ?_⟩, ?_⟩
    · rw [ct, x1']
      simp only [ob_sn, Sum.elim_inl]
      rw [qk_r (by omega) (by omega), if_neg (by omega), d0]
      simp only [ob_sn]
      rw [f1]
      simp only [ob_sn]
      rw [h1]
      simp only [ob_sn]
      rw [History_forget]
      simp only [ob_sn]
      rw [← hS6]
    · rw [y7', u1]
      simp only [ob_sn]
      rw [← hR4, q11, qk_r (by omega) (by omega), if_pos (by omega), j0]
      simp only [ob_sn]
      rw [j1, eT 10 (by omega)]
    · rw [q12, o12.1, h4 12 (by omega) (by omega), f2 12 (by omega), d16 12 (by omega), so 12 (by omega)]
      exact hh3
    · show R5 12 2 = 0
      rw [q12, o12.2.1]
    · show R5 70 31 = 0
      exact j7
    · rw [q12, o12.2.2.1]
      omega
    · rw [q12, o12.2.2.1, j6 q hq]
      have : q = 0 ∨ q = 1 ∨ q = 2 ∨ q = 3 := by omega
      refine ⟨?_, Or.inl rfl, fun h => by omega⟩
      rcases this with rfl | rfl | rfl | rfl <;> decide +kernel
    · rw [y9] at hs
      obtain ⟨l, l1, l2, l3, l4⟩ := kn s hs
      have en : (fun i => R5 24 (8 * s + i)) = fun i => if 8 * s + i < 112 then N' (8 * s + i) else R5 24 (8 * s + i) := by
        funext i
        by_cases w : 8 * s + i < 112
        · rw [if_pos w, e52 24 (by omega), d15 _ w, r11]
        · rw [if_neg w]
      have ev : ∀ i, i < 8 → R5 24 (8 * s + i) = N' (8 * s + i) := fun i hi => by rw [e52 24 (by omega), d15 _ (by omega), r11]
      refine ⟨l, l1, fun i hi => ?_, fun i hi h8 => ?_, ?_⟩
      · show 97 ≤ R5 24 (8 * s + i) ∧ R5 24 (8 * s + i) ≤ 122
        rw [ev i (by omega)]
        exact l2 i hi
      · show R5 24 (8 * s + i) = 0
        rw [ev i h8]
        exact l3 i hi h8
      · rw [j2 s (by omega), q73, l4]
        exact nmW_cong l (fun i hi => by
          show N' (8 * s + i) = R5 24 (8 * s + i)
          rw [ev i (by omega)])
    · unfold iW
      rw [e5S 13 (by omega), j8 41 (by omega), e7 41 (by omega), e5S 69 (by omega), e5S 92 (by omega)]
      exact hW
    · unfold iP
      rw [q0, j8 5 (by omega), q5]
      exact ⟨by omega, rfl, fun i hi => by omega⟩
    · unfold iX
      rw [q4, x3, x3', s45, s46, j8 15 (by omega), j8 16 (by omega), q15, q16]
      exact ⟨rfl, rfl, ⟨by omega, by omega⟩, ⟨by omega, by omega⟩⟩
    · have q11' : R5 11 3 = 0 := by rw [e5 11 (by omega), o12.2.2.2]
      exact ⟨Or.inl q11', fun h => by omega⟩
end PGT
