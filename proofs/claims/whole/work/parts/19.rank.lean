/-! rank -/
section PK
variable {S : qSto} {T lev : Nat → Int} {Y : qY}
theorem rank_L (h : iA S T lev Y) {r w : Int} (hr : 0 ≤ r ∧ r ≤ 3) (hw : 0 ≤ w ∧ w ≤ 4) : ∀ (j n i : Nat) (a b c d : Int), (i : Int) + j = T 9 → j < n → (0 ≤ b ∧ b ≤ 2680) → (0 ≤ d ∧ d ≤ 2680) → (w ≠ 3 → a = c) → (w = 3 → b = d) → ∃ a2 b2 c2 d2, C_rank_L28 n r w a b (i : Int) S = some (a2, b2, S) ∧ M_rank_L34 n r w c d (i : Int) S = some (c2, d2, S) ∧ (w ≠ 3 → a2 = c2) ∧ (w = 3 → b2 = d2)
  | 0, n + 1, i, a, b, c, d, e, _, _, _, h1, h2 => by
    have b9 := bT_n h.1.1
    have e1 := h.1.2.1.2.2.2.2.1
    have e2 := h.1.2.2.1 9
    rw [C_rank_L28, M_rank_L34]
    simp (disch := omega) only [qk_r, e1, e2, if_pos (show T 9 ≤ (i : Int) by omega)]
    exact ⟨a, b, c, d, rfl, rfl, h1, h2⟩
  | j + 1, n + 1, i, a, b, c, d, e, hn, hb, hd, h1, h2 => by
    obtain ⟨hI, hB, hc, hm⟩ := id h
    have b9 := bT_n hI.1
    have hs : (i : Int) < T 9 := by omega
    have e1 := hI.2.1.2.2.2.2.1
    have e2 := hI.2.2.1 9
    have cc := bT_con hI.1 hs
    have ec : Told_contractOf (i : Int) 6 S = some (sCon T i 6, S) := Told_contractOf_s hI hs (w := 6) (by omega)
    have em : M_of (i : Int) 6 S = some (sCon T i 6, S) := M_of_s hI hs (w := 6) (by omega)
    have hrw := qRb_of (a := w) (by omega) (by omega)
    have hrr := qRb_of (a := r) (by omega) (by omega)
    have hr6 := qRb_of (a := sCon T i 6) (by omega) (by omega)
    rw [C_rank_L28, M_rank_L34]
    simp (disch := omega) only [qk_r (a := (i : Int)), qk_r (a := T 9), e1, e2, if_neg (show ¬ T 9 ≤ (i : Int) by omega)]
    simp only [ec, em, ob_some, qk_of hrr, qk_of hr6, qk_of hrw]
    by_cases g : sCon T i 6 = r
    · simp only [if_pos g, M_rankNumber, qk_of hrw, C_rankShare]
      by_cases gk : 0 < Y.2.2 i
      · have lb := sLate_b hI.1 hB hs gk
        have cb := sCost_b hI.1 hB hs gk
        simp only [Stays_has_s hB hc hI.1 (s := i) (by omega), M_stays_s hB hm hI.1 (s := i) (by omega), Stays_lateOf_s hI hB hc hs, M_lateOf_s hI hB hm hs gk, Stays_costOf_s hI hB hc hs gk, M_costOf_s hI hB hm hs gk, if_pos gk, ob_some, ite01_r, ite01_e, Jm_max_s (S := S) (a := b) (b := sLate T lev Y i) ⟨by omega, by omega⟩ ⟨by omega, by omega⟩]
        have lateE : Stays_lateOf (i : Int) S = some (sLate T lev Y i, S) := by rw [Stays_lateOf_s hI hB hc hs, if_pos gk]
        have jE := Jm_max_s (S := S) (a := b) (b := sLate T lev Y i) ⟨by omega, by omega⟩ ⟨by omega, by omega⟩
        have hcs : w = 0 ∨ w = 1 ∨ w = 2 ∨ w = 3 ∨ w = 4 := by omega
        rcases hcs with hk | hk | hk | hk | hk
        · simp (disch := omega) only [if_pos (show w = 0 by omega), if_neg (show ¬ w = 1 by omega), if_neg (show ¬ w = 2 by omega), if_neg (show ¬ w = 4 by omega), ob_some, qk_r, lateE, jE, if_neg (show ¬ (1 : Int) = 0 by omega), if_pos (show (0 : Int) = 0 from rfl)]
          by_cases q : (1 : Int) ≤ d
          · simp only [if_pos q, ob_some]
            exact rank_L h hr hw j n (i + 1) (a + 1) (max b (sLate T lev Y i)) (c + 1) (d) (by omega) (by omega) (by omega) (by omega) (fun z => by have := h1 z; omega) (fun z => absurd z (by omega))
          · simp only [if_neg q, ob_some]
            exact rank_L h hr hw j n (i + 1) (a + 1) (max b (sLate T lev Y i)) (c + 1) (1) (by omega) (by omega) (by omega) (by omega) (fun z => by have := h1 z; omega) (fun z => absurd z (by omega))
        · simp (disch := omega) only [if_neg (show ¬ w = 0 by omega), if_pos (show w = 1 by omega), if_neg (show ¬ w = 2 by omega), if_neg (show ¬ w = 4 by omega), ob_some, qk_r, lateE, jE, if_neg (show ¬ (1 : Int) = 0 by omega), if_pos (show (0 : Int) = 0 from rfl)]
          by_cases q : (1 : Int) ≤ d
          · simp only [if_pos q, ob_some]
            exact rank_L h hr hw j n (i + 1) (a + 1) (max b (sLate T lev Y i)) (c + 1) (d) (by omega) (by omega) (by omega) (by omega) (fun z => by have := h1 z; omega) (fun z => absurd z (by omega))
          · simp only [if_neg q, ob_some]
            exact rank_L h hr hw j n (i + 1) (a + 1) (max b (sLate T lev Y i)) (c + 1) (1) (by omega) (by omega) (by omega) (by omega) (fun z => by have := h1 z; omega) (fun z => absurd z (by omega))
        · simp (disch := omega) only [if_neg (show ¬ w = 0 by omega), if_neg (show ¬ w = 1 by omega), if_pos (show w = 2 by omega), if_neg (show ¬ w = 4 by omega), ob_some, qk_r, lateE, jE, if_neg (show ¬ (1 : Int) = 0 by omega), if_pos (show (0 : Int) = 0 from rfl)]
          by_cases q : sLate T lev Y i ≤ d
          · simp only [if_pos q, ob_some]
            exact rank_L h hr hw j n (i + 1) (a + sLate T lev Y i) (max b (sLate T lev Y i)) (c + sLate T lev Y i) (d) (by omega) (by omega) (by omega) (by omega) (fun z => by have := h1 z; omega) (fun z => absurd z (by omega))
          · simp only [if_neg q, ob_some]
            exact rank_L h hr hw j n (i + 1) (a + sLate T lev Y i) (max b (sLate T lev Y i)) (c + sLate T lev Y i) (sLate T lev Y i) (by omega) (by omega) (by omega) (by omega) (fun z => by have := h1 z; omega) (fun z => absurd z (by omega))
        · simp (disch := omega) only [if_neg (show ¬ w = 0 by omega), if_neg (show ¬ w = 1 by omega), if_neg (show ¬ w = 2 by omega), if_neg (show ¬ w = 4 by omega), ob_some, qk_r, lateE, jE, if_neg (show ¬ (1 : Int) = 0 by omega), if_pos (show (0 : Int) = 0 from rfl)]
          have hbd := h2 hk
          subst hbd
          by_cases q : sLate T lev Y i ≤ b
          · simp only [if_pos q, ob_some]
            exact rank_L h hr hw j n (i + 1) (a + 1) (max b (sLate T lev Y i)) (c + sLate T lev Y i) (b) (by omega) (by omega) (by omega) (by omega) (fun z => absurd hk z) (fun _ => by omega)
          · simp only [if_neg q, ob_some]
            exact rank_L h hr hw j n (i + 1) (a + 1) (max b (sLate T lev Y i)) (c + sLate T lev Y i) (sLate T lev Y i) (by omega) (by omega) (by omega) (by omega) (fun z => absurd hk z) (fun _ => by omega)
        · simp (disch := omega) only [if_neg (show ¬ w = 0 by omega), if_neg (show ¬ w = 1 by omega), if_neg (show ¬ w = 2 by omega), if_pos (show w = 4 by omega), ob_some, qk_r, lateE, jE, if_neg (show ¬ (1 : Int) = 0 by omega), if_pos (show (0 : Int) = 0 from rfl)]
          by_cases q : sCost T lev Y i ≤ d
          · simp only [if_pos q, ob_some]
            exact rank_L h hr hw j n (i + 1) (a + sCost T lev Y i) (max b (sLate T lev Y i)) (c + sCost T lev Y i) (d) (by omega) (by omega) (by omega) (by omega) (fun z => by have := h1 z; omega) (fun z => absurd z (by omega))
          · simp only [if_neg q, ob_some]
            exact rank_L h hr hw j n (i + 1) (a + sCost T lev Y i) (max b (sLate T lev Y i)) (c + sCost T lev Y i) (sCost T lev Y i) (by omega) (by omega) (by omega) (by omega) (fun z => by have := h1 z; omega) (fun z => absurd z (by omega))
      · simp only [Stays_has_s hB hc hI.1 (s := i) (by omega), M_stays_s hB hm hI.1 (s := i) (by omega), if_neg gk, ob_some, ite01_r, ite01_e]
        have lateE : Stays_lateOf (i : Int) S = some (0, S) := by rw [Stays_lateOf_s hI hB hc hs, if_neg gk]
        have jE := Jm_max_s (S := S) (a := b) (b := 0) ⟨by omega, by omega⟩ ⟨by omega, by omega⟩
        by_cases g0 : w = 0
        · simp (disch := omega) only [if_pos (show w = 0 by omega), if_neg (show ¬ w = 2 by omega), if_neg (show ¬ w = 4 by omega), ob_some, qk_r, lateE, jE, if_neg (show ¬ (1 : Int) = 0 by omega), if_pos (show (0 : Int) = 0 from rfl)]
          by_cases q : (1 : Int) ≤ d
          · simp only [if_pos q, ob_some]
            exact rank_L h hr hw j n (i + 1) (a + 1) (max b 0) (c + 1) d (by omega) (by omega) (by omega) hd (fun z => by have := h1 z; omega) (fun z => absurd z (by omega))
          · simp only [if_neg q, ob_some]
            exact rank_L h hr hw j n (i + 1) (a + 1) (max b 0) (c + 1) 1 (by omega) (by omega) (by omega) (by omega) (fun z => by have := h1 z; omega) (fun z => absurd z (by omega))
        · simp (disch := omega) only [if_neg g0, reduceIte, ob_some, qk_r, if_pos (show (0 : Int) ≤ d by omega)]
          exact rank_L h hr hw j n (i + 1) a b (c + 0) d (by omega) (by omega) hb hd (fun z => by have := h1 z; omega) h2
    · simp only [if_neg g, ob_some]
      exact rank_L h hr hw j n (i + 1) a b c d (by omega) (by omega) hb hd h1 h2
/-- rank(rank, what) -/
theorem p_rank (h : iA S T lev Y) {a b : Int} (ha : qR a) (hb : qR b) : ∃ r, C_rank a b S = some (r, S) ∧ M_rank a b S = some (r, S) := by
  obtain ⟨m1, m2⟩ := id ha
  obtain ⟨n1, n2⟩ := id hb
  have b9 := bT_n h.1.1
  simp (disch := omega) only [C_rank, M_rank, qk_r]
  rw [M_in_s ⟨by omega, by omega⟩ ⟨by omega, by omega⟩ ⟨by omega, by omega⟩]
  simp only [ob_some, ite01_r, ite01_e]
  by_cases g : 0 ≤ a ∧ a ≤ 3
  · rw [M_in_s ⟨by omega, by omega⟩ ⟨by omega, by omega⟩ ⟨by omega, by omega⟩]
    simp only [ob_some, ite01_r, ite01_e, if_pos g, if_neg (show ¬ a < 0 by omega), if_neg (show ¬ 4 ≤ a by omega)]
    by_cases g2 : 0 ≤ b ∧ b ≤ 4
    · obtain ⟨a2, b2, c2, d2, e1, e2, e3, e4⟩ := rank_L h g g2 (T 9).toNat qF 0 0 0 0 0 (by omega) (by unfold qF; omega) (by omega) (by omega) (fun _ => rfl) (fun _ => rfl)
      have e1' : C_rank_L28 qF a b 0 0 0 S = _ := e1
      have e2' : M_rank_L34 qF a b 0 0 0 S = _ := e2
      simp only [if_pos g2, if_neg (show ¬ b < 0 by omega), if_pos (show b ≤ 4 by omega), e1', e2', ob_some]
      by_cases g3 : b = 3
      · simp only [if_pos g3, e4 g3]
        exact ⟨_, rfl, rfl⟩
      · simp only [if_neg g3, e3 g3]
        exact ⟨_, rfl, rfl⟩
    · simp only [if_neg g2]
      by_cases g3 : b < 0
      · simp only [if_pos g3]
        exact ⟨_, rfl, rfl⟩
      · simp only [if_neg g3, if_neg (show ¬ b ≤ 4 by omega)]
        exact ⟨_, rfl, rfl⟩
  · simp only [if_neg g]
    by_cases g2 : a < 0
    · simp only [if_pos g2]
      exact ⟨_, rfl, rfl⟩
    · simp only [if_neg g2, if_pos (show 4 ≤ a by omega)]
      exact ⟨_, rfl, rfl⟩
end PK
