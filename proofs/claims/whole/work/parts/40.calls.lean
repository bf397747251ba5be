/-! calls of both sides, one behind the other: they answer alike, and the whole state stands again -/
def gOK (c m : qSto → Option (Int × qSto)) : Prop := ∀ S, iG S → ∃ r S1 S2, c S = some (r, S1) ∧ m S1 = some (r, S2) ∧ iG S2
theorem gOK_0 {c m : qSto → Option (Int × qSto)} (p : ∀ S T lev Y, iA S T lev Y → wY T lev Y → ∃ r, c S = some (r, S) ∧ m S = some (r, S)) : gOK c m := fun S h => by
  obtain ⟨T, lev, Y, hA, hw, -⟩ := id h
  obtain ⟨r, e1, e2⟩ := p S T lev Y hA hw
  exact ⟨r, S, S, e1, e2, h⟩
theorem gOK_1 {c m : qSto → Option (Int × qSto)} (p : ∀ S T lev Y, iA S T lev Y → wY T lev Y → ∃ r S1 S2, c S = some (r, S1) ∧ m S1 = some (r, S2) ∧ fC S S1 ∧ fM S1 S2 ∧ iA S2 T lev Y) : gOK c m := fun S h => by
  obtain ⟨T, lev, Y, hA, hw, hH, hK, hR, hF⟩ := h
  obtain ⟨r, S1, S2, e1, e2, f1, f2, i2⟩ := p S T lev Y hA hw
  exact ⟨r, S1, S2, e1, e2, read_iG hA hw hH hK hR hF (fC_S f1) (cY_off i2.2.2.1 (fun c hc => (f2.1 c (by omega)).symm)) (fM_T f2) i2.2.2.2⟩
theorem g_gangs {a b : Int} (ha : qR a) (hb : qR b) : gOK (C_gangs a b) (M_gangs a b) := gOK_0 (fun S T lev Y h _ => p_gangs h.1 ha hb)
theorem g_crane {a b : Int} (ha : qR a) (hb : qR b) : gOK (C_crane a b) (M_crane a b) := gOK_0 (fun S T lev Y h _ => p_crane h.1 ha hb)
theorem g_level {a : Int} (ha : qR a) : gOK (C_level a) (M_level a) := gOK_0 (fun S T lev Y h _ => p_level h.1 ha)
theorem g_open {a b : Int} (ha : qR a) (hb : qR b) : gOK (C_open a b) (M_open a b) := gOK_0 (fun S T lev Y h _ => p_open h.1 ha hb)
theorem g_next {a b : Int} (ha : qR a) (hb : qR b) : gOK (C_next a b) (M_next a b) := gOK_0 (fun S T lev Y h _ => p_next h.1 ha hb)
theorem g_shut {a b : Int} (ha : qR a) (hb : qR b) : gOK (C_shut a b) (M_shut a b) := gOK_0 (fun S T lev Y h _ => p_shut h.1 ha hb)
theorem g_tide {a b w : Int} (ha : qR a) (hb : qR b) (hw : qR w) : gOK (C_tide a b w) (M_tide a b w) := gOK_0 (fun S T lev Y h _ => p_tide h.1 ha hb hw)
theorem g_moves {a : Int} (ha : qR a) : gOK (C_moves a) (M_moves a) := gOK_0 (fun S T lev Y h _ => p_moves h.1 ha)
theorem g_depth {a : Int} (ha : qR a) : gOK (C_depth a) (M_depth a) := gOK_0 (fun S T lev Y h _ => p_depth h.1 ha)
theorem g_shallow {a b : Int} (ha : qR a) (hb : qR b) : gOK (C_shallow a b) (M_shallow a b) := gOK_0 (fun S T lev Y h _ => p_shallow h.1 ha hb)
theorem g_at {a b : Int} (ha : qR a) (hb : qR b) : gOK (C_at a b) (M_at a b) := gOK_0 (fun S T lev Y h _ => p_at h ha hb)
theorem g_left {a b : Int} (ha : qR a) (hb : qR b) : gOK (C_left a b) (M_left a b) := gOK_0 (fun S T lev Y h _ => p_left h ha hb)
theorem g_ship {a b : Int} (ha : qR a) (hb : qR b) : gOK (C_ship a b) (M_ship a b) := gOK_0 (fun S T lev Y h _ => p_ship h ha hb)
theorem g_shift {a b w : Int} (ha : qR a) (hb : qR b) (hw : qR w) : gOK (C_shift a b w) (M_shift a b w) := gOK_0 (fun S T lev Y h _ => p_shift h ha hb hw)
theorem g_busiest {a : Int} (ha : qR a) : gOK (C_busiest a) (M_busiest a) := gOK_0 (fun S T lev Y h _ => p_busiest h ha)
theorem g_used {a : Int} (ha : qR a) : gOK (C_used a) (M_used a) := gOK_0 (fun S T lev Y h _ => p_used h ha)
theorem g_meet {a b : Int} (ha : qR a) (hb : qR b) : gOK (C_meet a b) (M_meet a b) := gOK_0 (fun S T lev Y h _ => p_meet h ha hb)
theorem g_rank {a b : Int} (ha : qR a) (hb : qR b) : gOK (C_rank a b) (M_rank a b) := gOK_0 (fun S T lev Y h _ => p_rank h ha hb)
theorem g_leaver {a : Int} (ha : qR a) : gOK (C_leaver a) (M_leaver a) := gOK_0 (fun S T lev Y h _ => p_leaver h ha)
theorem g_works {a b : Int} (ha : qR a) (hb : qR b) : gOK (C_works a b) (M_works a b) := gOK_1 (fun S T lev Y h hv => p_works h hv ha hb)
theorem g_hours {a : Int} (ha : qR a) : gOK (C_hours a) (M_hours a) := gOK_1 (fun S T lev Y h hv => p_hours h hv ha)
theorem g_without {a : Int} (ha : qR a) : gOK (C_without a) (M_without a) := gOK_1 (fun S T lev Y h hv => p_without h hv ha)
theorem g_lies {a b : Int} (ha : qR a) (hb : qR b) : gOK (C_lies a b) (M_lies a b) := gOK_1 (fun S T lev Y h hv => p_lies h hv ha hb)
theorem g_free {a b : Int} (ha : qR a) (hb : qR b) : gOK (C_free a b) (M_free a b) := gOK_1 (fun S T lev Y h hv => p_free h hv ha hb)
theorem g_breaks {a b w z : Int} (ha : qR a) (hb : qR b) (hw : qR w) (hz : qR z) : gOK (C_breaks a b w z) (M_breaks a b w z) := gOK_1 (fun S T lev Y h hv => p_breaks h hv ha hb hw hz)
theorem g_inWay {a b w z : Int} (ha : qR a) (hb : qR b) (hw : qR w) (hz : qR z) : gOK (C_inWay a b w z) (M_inWay a b w z) := gOK_1 (fun S T lev Y h hv => p_inWay h ha hb hw hz)
theorem g_slack {a : Int} (ha : qR a) : gOK (C_slack a) (M_slack a) := gOK_1 (fun S T lev Y h hv => p_slack h hv ha)
theorem g_along {a b : Int} (ha : qR a) (hb : qR b) : gOK (C_along a b) (M_along a b) := gOK_1 (fun S T lev Y h hv => p_along h hv ha hb)
theorem g_places {a b w z : Int} (ha : qR a) (hb : qR b) (hw : qR w) (hz : qR z) : gOK (C_places a b w z) (M_places a b w z) := gOK_1 (fun S T lev Y h hv => p_places h hv ha hb hw hz)
theorem g_earliest {a b w : Int} (ha : qR a) (hb : qR b) (hw : qR w) : gOK (C_earliest a b w) (M_earliest a b w) := gOK_1 (fun S T lev Y h hv => p_earliest h hv ha hb hw)
theorem g_fault {a : Int} (ha : qR a) : gOK (C_fault a) (M_fault a) := fun S h => by
  obtain ⟨T, lev, Y, hA, hw, hH, hK, hR, hF⟩ := id h
  obtain ⟨m1, m2⟩ := ha
  obtain ⟨x1, x2, -, -⟩ := hR.2.2.2
  simp (disch := omega) only [C_fault, M_fault, qk_r, x1, x2]
  by_cases g : a = 0
  · simp only [if_pos g]
    exact ⟨_, S, S, rfl, rfl, h⟩
  · simp only [if_neg g]
    by_cases g1 : a = 1
    · simp only [if_pos g1]
      exact ⟨_, S, S, rfl, rfl, h⟩
    · simp only [if_neg g1]
      exact ⟨_, S, S, rfl, rfl, h⟩
theorem g_octet {a : Int} (ha : qR a) : gOK (C_octet a) (M_octet a) := fun S h => by
  obtain ⟨T, lev, Y, hA, hw, hH, hK, hR, hF⟩ := id h
  obtain ⟨m1, m2⟩ := ha
  obtain ⟨⟨b1, b2⟩, e1, e2⟩ := hR.2.1
  suffices q : ∃ r, C_octet a S = some (r, S) ∧ M_octet a S = some (r, S) by
    obtain ⟨r, q1, q2⟩ := q
    exact ⟨r, S, S, q1, q2, h⟩
  simp (disch := omega) only [C_octet, M_octet, qk_r, e1]
  rw [M_in_s ⟨by omega, by omega⟩ ⟨by omega, by omega⟩ ⟨by omega, by omega⟩]
  simp only [ob_some, ite01_r, ite01_e]
  by_cases g : a < 0
  · rw [if_pos g, if_neg (show ¬ (0 ≤ a ∧ a ≤ S 13 1 - 1) by omega)]
    exact ⟨_, rfl, rfl⟩
  · rw [if_neg g]
    by_cases g1 : S 13 1 ≤ a
    · rw [if_pos g1, if_neg (show ¬ (0 ≤ a ∧ a ≤ S 13 1 - 1) by omega)]
      exact ⟨_, rfl, rfl⟩
    · have e3 := (e2 a.toNat (by omega)).1
      rw [if_neg g1, if_pos (show 0 ≤ a ∧ a ≤ S 13 1 - 1 by omega), qk_ix (by omega) (by omega), qk_ix (by omega) (by omega), e3]
      exact ⟨_, rfl, rfl⟩
/-! how many marks are made -/
theorem made_L {S : qSto} (hb : ∀ q : Nat, q < 4 → S 86 q = 0 ∨ S 86 q = 1) : ∀ (j n i : Nat), i + j = 4 → j < n → M_made_L4 n (sm (fun q => S 86 q) i) (i : Int) S = some (sm (fun q => S 86 q) 4, S)
  | 0, n + 1, i, e, _ => by
    rw [M_made_L4]
    simp (disch := omega) only [qk_r]
    rw [if_pos (by omega), show i = 4 by omega]
  | j + 1, n + 1, i, e, hn => by
    rw [M_made_L4]
    have ih := made_L hb j n (i + 1) (by omega) (by omega)
    rw [sm] at ih
    rcases hb i (by omega) with g | g
    · simp (disch := omega) only [qk_r, qk_ix, if_neg (show ¬ (4 : Int) ≤ (i : Int) by omega), Int.toNat_natCast, g, if_pos, ob_some, Int.add_zero] at ih ⊢
      exact ih
    · simp (disch := omega) only [qk_r, qk_ix, if_neg (show ¬ (4 : Int) ≤ (i : Int) by omega), Int.toNat_natCast, g, ob_some] at ih ⊢
      rw [if_neg (show ¬ (1 : Int) = 0 by omega)]
      exact ih
theorem bits4 : ∀ m : Fin 16, (Ji_bitCount (m.val : Int) (fun _ _ => 0)).map Prod.fst = some (qb_iand (qb_ishr (m.val : Int) 0) 1 + qb_iand (qb_ishr (m.val : Int) 1) 1 + qb_iand (qb_ishr (m.val : Int) 2) 1 + qb_iand (qb_ishr (m.val : Int) 3) 1) := by decide +kernel
theorem p_made {S : qSto} {T lev : Nat → Int} (hK : hM S T lev) : ∃ r, History_marksMade S = some (r, S) ∧ M_made S = some (r, S) := by
  obtain ⟨⟨b1, b2⟩, hk⟩ := hK
  have e := made_L (S := S) (fun q hq => (hk q hq).2.1) 4 qF 0 (by omega) (by unfold qF; omega)
  have e' : M_made_L4 qF 0 0 S = some (sm (fun q => S 86 q) 4, S) := e
  refine ⟨sm (fun q => S 86 q) 4, ?_, by rw [M_made, e']; rfl⟩
  have z := bits4 ⟨(S 12 4).toNat, by omega⟩
  have f : (((S 12 4).toNat : Nat) : Int) = S 12 4 := by omega
  simp only [f] at z
  have s4 : sm (fun q => S 86 q) 4 = 0 + S 86 0 + S 86 1 + S 86 2 + S 86 3 := rfl
  have h0 := (hk 0 (by omega)).1
  have h1 := (hk 1 (by omega)).1
  have h2 := (hk 2 (by omega)).1
  have h3 := (hk 3 (by omega)).1
  have g0 : qb_iand (qb_ishr (S 12 4) 0) 1 = S 86 0 := h0
  have g1 : qb_iand (qb_ishr (S 12 4) 1) 1 = S 86 1 := h1
  have g2 : qb_iand (qb_ishr (S 12 4) 2) 1 = S 86 2 := h2
  have g3 : qb_iand (qb_ishr (S 12 4) 3) 1 = S 86 3 := h3
  rw [g0, g1, g2, g3] at z
  have y : Ji_bitCount (S 12 4) S = (Ji_bitCount (S 12 4) (fun _ _ => 0)).map (fun p => (p.1, S)) := rfl
  have x : Ji_bitCount (S 12 4) S = ((Ji_bitCount (S 12 4) (fun _ _ => 0)).map Prod.fst).map (fun v => (v, S)) := rfl
  rw [History_marksMade, x, z, s4]
  simp only [Option.map_some, ob_some, Int.zero_add]
theorem g_count {a : Int} (ha : qR a) : gOK (C_count a) (M_count a) := fun S h => by
  obtain ⟨T, lev, Y, hA, hw, ⟨o, m, hH⟩, hK, hR, hF⟩ := id h
  obtain ⟨m1, m2⟩ := ha
  obtain ⟨hI, hB, hc, hm⟩ := id hA
  obtain ⟨hb, hr, h72, -, -⟩ := id hI
  suffices q : ∃ r, C_count a S = some (r, S) ∧ M_count a S = some (r, S) by
    obtain ⟨r, q1, q2⟩ := q
    exact ⟨r, S, S, q1, q2, h⟩
  by_cases g0 : a < 0
  · refine ⟨-1, ?_, ?_⟩
    · simp (disch := omega) only [C_count, qk_r, if_pos g0, if_neg (show ¬ a = 6 by omega), if_neg (show ¬ a = 7 by omega), if_neg (show ¬ a = 8 by omega), if_neg (show ¬ a = 9 by omega), if_neg (show ¬ a = 10 by omega), if_neg (show ¬ a = 11 by omega), if_neg (show ¬ a = 12 by omega), if_neg (show ¬ a = 13 by omega), if_neg (show ¬ a = 14 by omega), if_neg (show ¬ a = 15 by omega)]
    · simp (disch := omega) only [M_count, qk_r, if_neg (show ¬ a = 10 by omega), if_neg (show ¬ a = 11 by omega), if_neg (show ¬ a = 12 by omega), if_neg (show ¬ a = 13 by omega), if_neg (show ¬ a = 14 by omega), if_neg (show ¬ a = 15 by omega)]
      rw [M_in_s ⟨by omega, by omega⟩ ⟨by omega, by omega⟩ ⟨by omega, by omega⟩, if_neg (show ¬ (0 ≤ a ∧ a ≤ 9) by omega)]
      rfl
  · by_cases g15 : 15 < a
    · refine ⟨-1, ?_, ?_⟩
      · simp (disch := omega) only [C_count, qk_r, if_neg g0, if_pos (show 6 ≤ a by omega), if_neg (show ¬ a = 6 by omega), if_neg (show ¬ a = 7 by omega), if_neg (show ¬ a = 8 by omega), if_neg (show ¬ a = 9 by omega), if_neg (show ¬ a = 10 by omega), if_neg (show ¬ a = 11 by omega), if_neg (show ¬ a = 12 by omega), if_neg (show ¬ a = 13 by omega), if_neg (show ¬ a = 14 by omega), if_neg (show ¬ a = 15 by omega)]
      · simp (disch := omega) only [M_count, qk_r, if_neg (show ¬ a = 10 by omega), if_neg (show ¬ a = 11 by omega), if_neg (show ¬ a = 12 by omega), if_neg (show ¬ a = 13 by omega), if_neg (show ¬ a = 14 by omega), if_neg (show ¬ a = 15 by omega)]
        rw [M_in_s ⟨by omega, by omega⟩ ⟨by omega, by omega⟩ ⟨by omega, by omega⟩, if_neg (show ¬ (0 ≤ a ∧ a ≤ 9) by omega)]
        rfl
    · by_cases g6 : a < 6
      · refine ⟨T a.toNat, ?_, ?_⟩
        · simp (disch := omega) only [C_count, qk_r, qk_ix, if_neg g0, if_neg (show ¬ 6 ≤ a by omega), hr.1 a.toNat (by omega)]
        · simp (disch := omega) only [M_count, qk_r, if_neg (show ¬ a = 10 by omega), if_neg (show ¬ a = 11 by omega), if_neg (show ¬ a = 12 by omega), if_neg (show ¬ a = 13 by omega), if_neg (show ¬ a = 14 by omega), if_neg (show ¬ a = 15 by omega)]
          rw [M_in_s ⟨by omega, by omega⟩ ⟨by omega, by omega⟩ ⟨by omega, by omega⟩, if_pos (show 0 ≤ a ∧ a ≤ 9 by omega)]
          simp (disch := omega) only [ob_some, qk_r, qk_ix, h72]
          rfl
      · have hcl : C_count a S = (if a = 6 then some (S 2 2, S) else (if a = 7 then some (S 2 5, S) else (if a = 8 then some (S 2 8, S) else (if a = 9 then some (S 2 12, S) else (if a = 10 then (Option.bind (Stays_howMany S) (fun q438 => some (q438.1, q438.2))) else (if a = 11 then some (S 12 2, S) else (if a = 12 then (Option.bind (History_marksMade S) (fun q440 => some (q440.1, q440.2))) else (if a = 13 then some (S 0 1, S) else (if a = 14 then (Option.bind (C_costOfAll S) (fun q442 => some (q442.1, q442.2))) else (if a = 15 then (Option.bind (Stays_busyIn 0 336 S) (fun q444 => some (q444.1, q444.2))) else some ((-1), S))))))))))) := by
          rw [C_count, qk_r m1 m2, if_neg g0, qk_r m1 m2, if_pos (show 6 ≤ a by omega), qk_r m1 m2]
        have hml : a < 10 → M_count a S = some (T a.toNat, S) := fun ga => by
          simp (disch := omega) only [M_count, qk_r, if_neg (show ¬ a = 10 by omega), if_neg (show ¬ a = 11 by omega), if_neg (show ¬ a = 12 by omega), if_neg (show ¬ a = 13 by omega), if_neg (show ¬ a = 14 by omega), if_neg (show ¬ a = 15 by omega)]
          rw [M_in_s ⟨by omega, by omega⟩ ⟨by omega, by omega⟩ ⟨by omega, by omega⟩, if_pos (show 0 ≤ a ∧ a ≤ 9 by omega)]
          simp (disch := omega) only [ob_some, qk_r, qk_ix, h72]
          rfl
        rw [hcl]
        have za : a = 6 ∨ a = 7 ∨ a = 8 ∨ a = 9 ∨ a = 10 ∨ a = 11 ∨ a = 12 ∨ a = 13 ∨ a = 14 ∨ a = 15 := by omega
        rcases za with z | z | z | z | z | z | z | z | z | z
        · subst z
          rw [hml (by omega)]
          exact ⟨T 6, by rw [if_pos rfl, hr.2.1], rfl⟩
        · subst z
          rw [hml (by omega)]
          exact ⟨T 7, by rw [if_neg (by omega), if_pos rfl, hr.2.2.1], rfl⟩
        · subst z
          rw [hml (by omega)]
          exact ⟨T 8, by rw [if_neg (by omega), if_neg (by omega), if_pos rfl, hr.2.2.2.1], rfl⟩
        · subst z
          rw [hml (by omega)]
          exact ⟨T 9, by rw [if_neg (by omega), if_neg (by omega), if_neg (by omega), if_pos rfl, hr.2.2.2.2.1], rfl⟩
        · subst z
          refine ⟨sMany T Y, ?_, ?_⟩
          · rw [if_neg (by omega), if_neg (by omega), if_neg (by omega), if_neg (by omega), if_pos rfl, Stays_howMany_s hI hB hc]
            rfl
          · rw [M_count, qk_r (by omega) (by omega), if_pos rfl, M_staying_s hI hB hm]
            rfl
        · subst z
          refine ⟨m, ?_, ?_⟩
          · rw [if_neg (by omega), if_neg (by omega), if_neg (by omega), if_neg (by omega), if_neg (by omega), if_pos rfl, hH.2.2.2.1]
          · rw [M_count, qk_r (by omega) (by omega), if_neg (by omega), if_pos rfl, hH.2.2.2.2.1]
        · subst z
          obtain ⟨r, y1, y2⟩ := p_made hK
          refine ⟨r, ?_, ?_⟩
          · rw [if_neg (by omega), if_neg (by omega), if_neg (by omega), if_neg (by omega), if_neg (by omega), if_neg (by omega), if_pos rfl, y1]
            rfl
          · rw [M_count, qk_r (by omega) (by omega), if_neg (by omega), if_neg (by omega), if_pos rfl, y2]
            rfl
        · subst z
          refine ⟨S 0 1, ?_, ?_⟩
          · rw [if_neg (by omega), if_neg (by omega), if_neg (by omega), if_neg (by omega), if_neg (by omega), if_neg (by omega), if_neg (by omega), if_pos rfl]
          · rw [M_count, qk_r (by omega) (by omega), if_neg (by omega), if_neg (by omega), if_neg (by omega), if_pos rfl, hR.2.2.1.2.1]
        · subst z
          obtain ⟨r, y1, y2⟩ := p_costOfAll hI hB hc hm
          refine ⟨r, ?_, ?_⟩
          · rw [if_neg (by omega), if_neg (by omega), if_neg (by omega), if_neg (by omega), if_neg (by omega), if_neg (by omega), if_neg (by omega), if_neg (by omega), if_pos rfl, y1]
            rfl
          · rw [M_count, qk_r (by omega) (by omega), if_neg (by omega), if_neg (by omega), if_neg (by omega), if_neg (by omega), if_pos rfl, y2]
            rfl
        · subst z
          obtain ⟨r, y1, y2⟩ := p_workOfAll hI hB hc hm
          refine ⟨r, ?_, ?_⟩
          · rw [if_neg (by omega), if_neg (by omega), if_neg (by omega), if_neg (by omega), if_neg (by omega), if_neg (by omega), if_neg (by omega), if_neg (by omega), if_neg (by omega), if_pos rfl, y1]
            rfl
          · rw [M_count, qk_r (by omega) (by omega), if_neg (by omega), if_neg (by omega), if_neg (by omega), if_neg (by omega), if_neg (by omega), if_pos rfl, y2]
            rfl
/-! letters of a name -/
theorem nmW_b {f : Nat → Int} : ∀ {n : Nat}, (∀ i, i < n → 97 ≤ f i ∧ f i ≤ 122) → 0 ≤ nmW f n ∧ nmW f n + 1 ≤ ((32 ^ n : Nat) : Int)
  | 0, _ => by simp [nmW]
  | n + 1, h => by
    have ih := nmW_b (n := n) (fun i hi => h i (by omega))
    have := h n (by omega)
    have e : ((32 ^ (n + 1) : Nat) : Int) = 32 * ((32 ^ n : Nat) : Int) := by
      rw [Nat.pow_succ]
      omega
    rw [nmW]
    omega
theorem pow8 {n : Nat} (h : n ≤ 8) : ((32 ^ n : Nat) : Int) ≤ 1099511627776 := by
  have := Nat.pow_le_pow_right (n := 32) (by omega) h
  have e : 32 ^ 8 = 1099511627776 := by decide
  omega
theorem nmW_u {f : Nat → Int} {n : Nat} (h8 : n ≤ 8) (h : ∀ i, i < n → 97 ≤ f i ∧ f i ≤ 122) : 0 ≤ nmW f n ∧ nmW f n ≤ 1099511627776 := by
  have := nmW_b h
  have := pow8 h8
  omega
theorem nmW_div {f : Nat → Int} {n : Nat} (h : ∀ i, i < n + 1 → 97 ≤ f i ∧ f i ≤ 122) : 0 < nmW f (n + 1) ∧ (nmW f (n + 1)).tdiv 32 = nmW f n ∧ (nmW f (n + 1)).tmod 32 = f n - 96 := by
  have a := nmW_b (n := n) (fun i hi => h i (by omega))
  have b := h n (by omega)
  rw [nmW]
  rw [Int.tdiv_eq_ediv_of_nonneg (by omega), Int.tmod_eq_emod_of_nonneg (by omega)]
  omega
theorem lettersOf_L {S : qSto} {f : Nat → Int} : ∀ (j n : Nat) (a : Int), j < n → j ≤ 8 → (∀ i, i < j → 97 ≤ f i ∧ f i ≤ 122) → M_lettersOf_L9 n a (nmW f j) S = some (a + j, S)
  | 0, n + 1, a, _, _, _ => by
    rw [M_lettersOf_L9, nmW, qk_rl (by omega) (by omega), if_pos (by omega)]
    simp
  | j + 1, n + 1, a, hn, h8, hf => by
    have b := nmW_u h8 hf
    obtain ⟨d1, d2, d3⟩ := nmW_div hf
    rw [M_lettersOf_L9, qk_rl (by omega) (by omega), if_neg (by omega), qk_rl (by omega) (by omega), d2, lettersOf_L j n (a + 1) (by omega) (by omega) (fun i hi => hf i (by omega))]
    congr 2
    omega
theorem letter_L {S : qSto} {f : Nat → Int} {i : Nat} : ∀ (j n : Nat), j < n → i + j + 1 ≤ 8 → (∀ u, u < i + j + 1 → 97 ≤ f u ∧ f u ≤ 122) → M_letter_L48 n (i : Int) (nmW f (i + j + 1)) ((i + j : Nat) : Int) S = some (nmW f (i + 1), S)
  | 0, n + 1, _, h8, hf => by
    rw [M_letter_L48, qk_r (by omega) (by omega), qk_r (by omega) (by omega), if_pos (by omega)]
  | j + 1, n + 1, hn, h8, hf => by
    have b := nmW_u h8 hf
    obtain ⟨d1, d2, d3⟩ := nmW_div hf
    have e : (((i + (j + 1) : Nat)) : Int) + -1 = ((i + j : Nat) : Int) := by omega
    have e2 : i + (j + 1) = i + j + 1 := by omega
    rw [M_letter_L48, qk_r (by omega) (by omega), qk_r (by omega) (by omega), if_neg (by omega), qk_rl (by omega) (by omega), d2, e, e2]
    exact letter_L j n (by omega) (by omega) (fun u hu => hf u (by omega))
theorem nameByte_s {S : qSto} {s i : Nat} (hs : s < 14) (hi : i < 8) : Told_nameByte (s : Int) (i : Int) S = some (S 24 (8 * s + i), S) := by
  have e : ((s : Int) * 8 + (i : Int)).toNat = 8 * s + i := by omega
  simp (disch := omega) only [Told_nameByte, qk_r, qk_ix, if_neg (show ¬ (14 : Int) ≤ (s : Int) by omega), e]
theorem lettersOf_s {S : qSto} {f : Nat → Int} {s n : Nat} (hs : s < 14) (hn : n ≤ 8) (hf : ∀ i, i < n → 97 ≤ f i ∧ f i ≤ 122) (e : S 74 s = nmW f n) : M_lettersOf (s : Int) S = some ((n : Int), S) := by
  have z := lettersOf_L (S := S) (f := f) n qF 0 (by unfold qF; omega) hn hf
  rw [M_lettersOf, qk_ix (by omega) (by omega), Int.toNat_natCast, e, z]
  simp
theorem letter_s {S : qSto} {T lev : Nat → Int} (hI : iT S T lev) (hN : iN S T) {s i : Nat} (hs : (s : Int) < T 9) (hi : i < 8) : M_letter (s : Int) (i : Int) S = some (if S 24 (8 * s + i) = 0 then 0 else S 24 (8 * s + i) - 96, S) := by
  have b9 := bT_n hI.1
  obtain ⟨n, ⟨n1, n8⟩, hf, hz, hw⟩ := hN s hs
  have el := lettersOf_s (S := S) (s := s) (by omega) n8 hf hw
  simp (disch := omega) only [M_letter, M_isShip_s hI (m := (s : Int)) ⟨by omega, by omega⟩, ob_some, ite01_r, ite01_e, qk_r]
  rw [if_pos ⟨by omega, hs⟩, M_in_s ⟨by omega, by omega⟩ ⟨by omega, by omega⟩ ⟨by omega, by omega⟩, if_pos ⟨by omega, by omega⟩]
  simp (disch := omega) only [ob_some, qk_r]
  rw [if_neg (by omega), el]
  simp (disch := omega) only [ob_some, qk_r]
  by_cases g : i < n
  · have q := hf i g
    have q' : 97 ≤ S 24 (8 * s + i) ∧ S 24 (8 * s + i) ≤ 122 := q
    have lt := letter_L (S := S) (f := fun i => S 24 (8 * s + i)) (i := i) (n - 1 - i) qF (by unfold qF; omega) (by omega) (fun u hu => hf u (by omega))
    have e1 : i + (n - 1 - i) + 1 = n := by omega
    have e2 : ((i + (n - 1 - i) : Nat) : Int) = (n : Int) - 1 := by omega
    rw [e1, e2] at lt
    have bu := nmW_u (f := fun i => S 24 (8 * s + i)) (n := i + 1) (by omega) (fun u hu => hf u (by omega))
    obtain ⟨d1, d2, d3⟩ := nmW_div (f := fun i => S 24 (8 * s + i)) (n := i) (fun u hu => hf u (by omega))
    rw [if_pos (by omega), qk_ix (by omega) (by omega), Int.toNat_natCast, hw, lt]
    simp only [ob_some]
    rw [qk_rl (by omega) (by omega), d3, if_neg (by omega)]
  · have q : S 24 (8 * s + i) = 0 := hz i (by omega) hi
    rw [if_neg (by omega), q, if_pos rfl]
theorem g_letter {a b : Int} (ha : qR a) (hb : qR b) : gOK (C_letter a b) (M_letter a b) := fun S h => by
  obtain ⟨T, lev, Y, hA, hw, hH, hK, hR, hF⟩ := id h
  obtain ⟨hI, hB, hc, hm⟩ := id hA
  have b9 := bT_n hI.1
  obtain ⟨m1, m2⟩ := id ha
  obtain ⟨n1, n2⟩ := id hb
  suffices q : ∃ r, C_letter a b S = some (r, S) ∧ M_letter a b S = some (r, S) by
    obtain ⟨r, q1, q2⟩ := q
    exact ⟨r, S, S, q1, q2, h⟩
  by_cases g : 0 ≤ a ∧ a < T 9
  · by_cases g2 : 0 ≤ b ∧ b < 8
    · have fa : ((a.toNat : Nat) : Int) = a := by omega
      have fb : ((b.toNat : Nat) : Int) = b := by omega
      have y := letter_s hI hR.1 (s := a.toNat) (i := b.toNat) (by omega) (by omega)
      have x := nameByte_s (S := S) (s := a.toNat) (i := b.toNat) (by omega) (by omega)
      rw [fa, fb] at y x
      refine ⟨_, ?_, y⟩
      obtain ⟨n, ⟨k1, k8⟩, hf, hz, -⟩ := hR.1 a.toNat (by omega)
      have bb : 0 ≤ S 24 (8 * a.toNat + b.toNat) ∧ S 24 (8 * a.toNat + b.toNat) ≤ 122 := by
        by_cases q : b.toNat < n
        · have : 97 ≤ S 24 (8 * a.toNat + b.toNat) ∧ S 24 (8 * a.toNat + b.toNat) ≤ 122 := hf b.toNat q
          omega
        · have : S 24 (8 * a.toNat + b.toNat) = 0 := hz b.toNat (by omega) (by omega)
          omega
      simp (disch := omega) only [C_letter, C_isShip_s hI ha, ob_some, ite01_r, ite01_e, qk_r]
      rw [if_pos g, if_neg (by omega), if_pos (by omega), x]
      simp (disch := omega) only [ob_some, qk_r]
      split
      · rfl
      · congr 2
        omega
    · refine ⟨-1, ?_, ?_⟩
      · simp (disch := omega) only [C_letter, C_isShip_s hI ha, ob_some, ite01_r, ite01_e, qk_r]
        rw [if_pos g]
        by_cases q : b < 0
        · rw [if_pos q]
        · rw [if_neg q, if_neg (by omega)]
      · simp (disch := omega) only [M_letter, M_isShip_s hI ha, ob_some, ite01_r, ite01_e, qk_r]
        rw [if_pos g, M_in_s ⟨by omega, by omega⟩ ⟨by omega, by omega⟩ ⟨by omega, by omega⟩, if_neg (by omega)]
        rfl
  · refine ⟨-1, ?_, ?_⟩
    · simp only [C_letter, C_isShip_s hI ha, ob_some, ite01_r, ite01_e]
      rw [if_neg g]
    · simp only [M_letter, M_isShip_s hI ha, ob_some, ite01_r, ite01_e]
      rw [if_neg g]
