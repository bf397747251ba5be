/-! the tide, the depth, moves and work -/
theorem bnd_mul {a b A B : Int} (ha : 0 ≤ a) (hA : a ≤ A) (hb : 0 ≤ b) (hB : b ≤ B) : 0 ≤ a * b ∧ a * b ≤ A * B :=
  ⟨Int.mul_nonneg ha hb, Int.mul_le_mul hA hB hb (by omega)⟩
/-- the first slot from t on (j slots are left) that is open for w; -1 without -/
def sNextN (T lev : Nat → Int) (w : Int) : Nat → Nat → Int
  | 0, _ => -1
  | j + 1, t => if T 3 + lev t < w + T 2 then sNextN T lev w j (t + 1) else t
def sNext (T lev : Nat → Int) (w : Int) (t : Nat) : Int := sNextN T lev w (336 - t) t
theorem sNextN_spec (T lev : Nat → Int) (w : Int) : ∀ (j t : Nat), (sNextN T lev w j t = -1 ∧ ∀ u, t ≤ u → u < t + j → T 3 + lev u < w + T 2) ∨ ∃ u : Nat, sNextN T lev w j t = u ∧ t ≤ u ∧ u < t + j ∧ ¬ T 3 + lev u < w + T 2 ∧ ∀ v, t ≤ v → v < u → T 3 + lev v < w + T 2
  | 0, t => Or.inl ⟨rfl, fun u h1 h2 => absurd h1 (by omega)⟩
  | j + 1, t => by
    by_cases g : T 3 + lev t < w + T 2
    · rw [sNextN, if_pos g]
      rcases sNextN_spec T lev w j (t + 1) with ⟨h1, h2⟩ | ⟨u, h1, h2, h3, h4, h5⟩
      · refine Or.inl ⟨h1, fun u a b => ?_⟩
        rcases Nat.lt_or_ge t u with q | q
        · exact h2 u (by omega) (by omega)
        · have : u = t := by omega
          rw [this]
          exact g
      · refine Or.inr ⟨u, h1, by omega, by omega, h4, fun v a b => ?_⟩
        rcases Nat.lt_or_ge t v with q | q
        · exact h5 v (by omega) b
        · have : v = t := by omega
          rw [this]
          exact g
    · rw [sNextN, if_neg g]
      exact Or.inr ⟨t, rfl, Nat.le_refl t, by omega, g, fun v a b => absurd a (by omega)⟩
theorem sNext_rng (T lev : Nat → Int) (w : Int) (t : Nat) : sNext T lev w t = -1 ∨ ((t : Int) ≤ sNext T lev w t ∧ sNext T lev w t ≤ 335) := by
  unfold sNext
  rcases sNextN_spec T lev w (336 - t) t with ⟨h1, -⟩ | ⟨u, h1, h2, h3, -⟩
  · exact Or.inl h1
  · refine Or.inr ?_
    rw [h1]
    omega
section PW
variable {S : qSto} {T lev : Nat → Int}
theorem Waters_firstOpen_L (h : iT S T lev) {w : Int} (hw1 : -2147483000 ≤ w) (hw2 : w ≤ 2147483000) : ∀ (j n t : Nat), t + j = 336 → j < n → Waters_firstOpen_L2 n w (t : Int) S = some (if sNextN T lev w j t = -1 then .inl S else .inr (sNextN T lev w j t, S))
  | 0, n + 1, t, e, _ => by
    have : t = 336 := by omega
    subst this
    rfl
  | j + 1, n + 1, t, e, hn => by
    rw [Waters_firstOpen_L2]
    simp (disch := omega) only [qk_r]
    rw [if_neg (by omega), Waters_isOpen_s h (by omega) hw1 hw2]
    simp only [ob_some, ite01_m, ite01_n, sNextN]
    by_cases g : T 3 + lev t < w + T 2
    · simp only [if_pos g]
      have := Waters_firstOpen_L h hw1 hw2 j n (t + 1) (by omega) (by omega)
      rw [← this]
      rfl
    · simp only [if_neg g]
      rw [if_neg (by omega)]
theorem Waters_firstOpen_s (h : iT S T lev) {w t : Int} (hw1 : -2147483000 ≤ w) (hw2 : w ≤ 2147483000) (ht : 0 ≤ t) (ht2 : t ≤ 2147483647) : Waters_firstOpen w t S = some (sNext T lev w t.toNat, S) := by
  rw [Waters_firstOpen]
  rcases Int.lt_or_le t 336 with g | g
  · have e := Waters_firstOpen_L h hw1 hw2 (336 - t.toNat) qF t.toNat (by omega) (by unfold qF; omega)
    have e2 : ((t.toNat : Nat) : Int) = t := by omega
    rw [e2] at e
    rw [e, ob_some]
    unfold sNext
    split
    · next q => rw [q]; rfl
    · rfl
  · have e : Waters_firstOpen_L2 qF w t S = some (.inl S) := by
      show Waters_firstOpen_L2 (4999 + 1) w t S = _
      rw [Waters_firstOpen_L2]
      simp (disch := omega) only [qk_r]
      rw [if_pos g]
    rw [e, ob_some]
    have e3 : sNext T lev w t.toNat = -1 := by
      unfold sNext
      rw [show 336 - t.toNat = 0 by omega]
      rfl
    rw [e3]
    rfl
theorem M_nextOpen_L (h : iT S T lev) {w : Int} (hw1 : -2147483000 ≤ w) (hw2 : w ≤ 2147483000) : ∀ (j n t : Nat), t + j = 336 → j < n → M_nextOpen_L2 n w (t : Int) S = some (if sNextN T lev w j t = -1 then .inl S else .inr (sNextN T lev w j t, S))
  | 0, n + 1, t, e, _ => by
    have : t = 336 := by omega
    subst this
    rfl
  | j + 1, n + 1, t, e, hn => by
    rw [M_nextOpen_L2]
    simp (disch := omega) only [qk_r]
    rw [if_neg (by omega), M_isOpen_s h (by omega) hw1 hw2]
    simp only [ob_some, ite01_m, ite01_n, sNextN]
    by_cases g : T 3 + lev t < w + T 2
    · simp only [if_pos g]
      have := M_nextOpen_L h hw1 hw2 j n (t + 1) (by omega) (by omega)
      rw [← this]
      rfl
    · simp only [if_neg g]
      rw [if_neg (by omega)]
theorem M_nextOpen_s (h : iT S T lev) {w t : Int} (hw1 : -2147483000 ≤ w) (hw2 : w ≤ 2147483000) (ht : 0 ≤ t) (ht2 : t ≤ 2147483647) : M_nextOpen w t S = some (sNext T lev w t.toNat, S) := by
  rw [M_nextOpen]
  rcases Int.lt_or_le t 336 with g | g
  · have e := M_nextOpen_L h hw1 hw2 (336 - t.toNat) qF t.toNat (by omega) (by unfold qF; omega)
    have e2 : ((t.toNat : Nat) : Int) = t := by omega
    rw [e2] at e
    rw [e, ob_some]
    unfold sNext
    split
    · next q => rw [q]; rfl
    · rfl
  · have e : M_nextOpen_L2 qF w t S = some (.inl S) := by
      show M_nextOpen_L2 (4999 + 1) w t S = _
      rw [M_nextOpen_L2]
      simp (disch := omega) only [qk_r]
      rw [if_pos g]
    rw [e, ob_some]
    have e3 : sNext T lev w t.toNat = -1 := by
      unfold sNext
      rw [show 336 - t.toNat = 0 by omega]
      rfl
    rw [e3]
    rfl
/-- next(water, slot) -/
theorem p_next (h : iT S T lev) {a b : Int} (ha : qR a) (hb : qR b) : ∃ r, C_next a b S = some (r, S) ∧ M_next a b S = some (r, S) := by
  simp only [C_next, M_next, C_isWater_s ha, M_isWater_s ha, C_isSlot_s hb, M_isSlot_s hb, ob_some, ite01_r, ite01_e]
  by_cases g : 0 ≤ a ∧ a ≤ 300
  · by_cases g2 : 0 ≤ b ∧ b < 336
    · simp only [if_pos g, if_pos g2, Waters_firstOpen_s h (w := a) (t := b) (by omega) (by omega) (by omega) (by omega), M_nextOpen_s h (w := a) (t := b) (by omega) (by omega) (by omega) (by omega), ob_some]
      rcases sNext_rng T lev a b.toNat with e | e
      · rw [e]
        exact ⟨_, rfl, rfl⟩
      · simp (disch := omega) only [qk_r]
        rw [if_neg (by omega)]
        exact ⟨_, rfl, rfl⟩
    · simp only [if_pos g, if_neg g2]
      exact ⟨_, rfl, rfl⟩
  · simp only [if_neg g]
    exact ⟨_, rfl, rfl⟩
/-- shut(water, what) -/
theorem shut_L (h : iT S T lev) {w : Int} (hw1 : -2147483000 ≤ w) (hw2 : w ≤ 2147483000) : ∀ (j n t : Nat) (a b c : Int), t + j = 336 → j < n → (0 ≤ a ∧ a ≤ 336) → (-2 ≤ b ∧ b ≤ 336) → (0 ≤ c ∧ c ≤ t) → ∃ a2 b2 : Int, C_shut_L30 n w a b c (t : Int) S = some (a2, b2, S) ∧ M_shut_L31 n w a b c (t : Int) S = some (a2, b2, S)
  | 0, n + 1, t, a, b, c, e, _, _, _, _ => by
    have : t = 336 := by omega
    subst this
    exact ⟨a, b, rfl, rfl⟩
  | j + 1, n + 1, t, a, b, c, e, hn, ha, hb, hc => by
    rw [C_shut_L30, M_shut_L31]
    simp (disch := omega) only [qk_r]
    rw [if_neg (by omega), if_neg (by omega), Waters_isOpen_s h (by omega) hw1 hw2, M_isOpen_s h (by omega) hw1 hw2]
    simp only [ob_some, ite01_m, ite01_n]
    by_cases g : T 3 + lev t < w + T 2
    · simp (disch := omega) only [if_pos g, ob_some, qk_r]
      by_cases g2 : c + 1 ≤ a
      · simp only [if_pos g2, if_neg (show ¬ a < c + 1 by omega), ob_some]
        exact shut_L h hw1 hw2 j n (t + 1) a b (c + 1) (by omega) (by omega) ha hb (by omega)
      · simp only [if_neg g2, if_pos (show a < c + 1 by omega), ob_some]
        exact shut_L h hw1 hw2 j n (t + 1) (c + 1) ((t : Int) - (c + 1) + 1) (c + 1) (by omega) (by omega) (by omega) (by omega) (by omega)
    · simp (disch := omega) only [if_neg g, ob_some, qk_r]
      simp only [if_pos (show (0 : Int) ≤ a by omega), if_neg (show ¬ a < 0 by omega), ob_some]
      exact shut_L h hw1 hw2 j n (t + 1) a b 0 (by omega) (by omega) ha hb (by omega)
theorem p_shut (h : iT S T lev) {a b : Int} (ha : qR a) (hb : qR b) : ∃ r, C_shut a b S = some (r, S) ∧ M_shut a b S = some (r, S) := by
  obtain ⟨n1, n2⟩ := id hb
  simp (disch := omega) only [C_shut, M_shut, C_isWater_s ha, M_isWater_s ha, ob_some, ite01_r, ite01_e, qk_r]
  by_cases g : 0 ≤ a ∧ a ≤ 300
  · rw [if_pos g, if_pos g, M_in_s ⟨by omega, by omega⟩ ⟨by omega, by omega⟩ ⟨by omega, by omega⟩]
    simp only [ob_some, ite01_r, ite01_e]
    by_cases g1 : 0 ≤ b ∧ b ≤ 1
    · obtain ⟨a2, b2, e1, e2⟩ := shut_L h (w := a) (by omega) (by omega) 336 qF 0 0 (-2) 0 (by omega) (by unfold qF; omega) (by omega) (by omega) (by omega)
      have e1' : C_shut_L30 qF a 0 (-2) 0 0 S = _ := e1
      have e2' : M_shut_L31 qF a 0 (-2) 0 0 S = _ := e2
      rw [if_neg (show ¬ b < 0 by omega), if_pos (show b ≤ 1 by omega), if_pos g1, e1', e2']
      simp only [ob_some]
      split <;> exact ⟨_, rfl, rfl⟩
    · rw [if_neg g1]
      by_cases g2 : b < 0
      · rw [if_pos g2]
        exact ⟨_, rfl, rfl⟩
      · rw [if_neg g2, if_neg (show ¬ b ≤ 1 by omega)]
        exact ⟨_, rfl, rfl⟩
  · rw [if_neg g, if_neg g]
    exact ⟨_, rfl, rfl⟩
/-- tide(from, to, what) -/
theorem tide_L (h : iT S T lev) {z : Nat} (hz : z < 336) : ∀ (j n t a b : Nat), t + j = z + 1 → j < n → a < 336 → b < 336 → ∃ a2 b2 : Nat, a2 < 336 ∧ b2 < 336 ∧ C_tide_L39 n (z : Int) (a : Int) (b : Int) (t : Int) S = some ((a2 : Int), (b2 : Int), S) ∧ M_tide_L42 n (z : Int) (a : Int) (b : Int) (t : Int) S = some ((a2 : Int), (b2 : Int), S)
  | 0, n + 1, t, a, b, e, _, ha, hb => by
    refine ⟨a, b, ha, hb, ?_, ?_⟩
    · rw [C_tide_L39]
      simp (disch := omega) only [qk_r]
      rw [if_pos (by omega)]
    · rw [M_tide_L42]
      simp (disch := omega) only [qk_r]
      rw [if_pos (by omega)]
  | j + 1, n + 1, t, a, b, e, hn, ha, hb => by
    obtain ⟨-, -, -, hl, -⟩ := id h
    obtain ⟨t1, t2, t3, t4⟩ := hl t (by omega)
    obtain ⟨a1, a2, a3, a4⟩ := hl a ha
    obtain ⟨b1, b2, b3, b4⟩ := hl b hb
    rw [C_tide_L39, M_tide_L42]
    simp (disch := omega) only [qk_r, qk_ix, Int.toNat_natCast, t1, t2, a1, a2, b1, b2, if_neg (show ¬ (z : Int) < (t : Int) by omega)]
    by_cases g1 : lev t ≤ lev a <;> by_cases g2 : lev b ≤ lev t
    · simp only [if_pos g1, if_pos g2, ob_some]
      exact tide_L h hz j n (t + 1) a b (by omega) (by omega) ha hb
    · simp only [if_pos g1, if_neg g2, ob_some]
      exact tide_L h hz j n (t + 1) a t (by omega) (by omega) ha (by omega)
    · simp only [if_neg g1, if_pos g2, ob_some]
      exact tide_L h hz j n (t + 1) t b (by omega) (by omega) (by omega) hb
    · simp only [if_neg g1, if_neg g2, ob_some]
      exact tide_L h hz j n (t + 1) t t (by omega) (by omega) (by omega) (by omega)
theorem p_tide (h : iT S T lev) {a b w : Int} (ha : qR a) (hb : qR b) (hw : qR w) : ∃ r, C_tide a b w S = some (r, S) ∧ M_tide a b w S = some (r, S) := by
  obtain ⟨m1, m2⟩ := id ha
  obtain ⟨n1, n2⟩ := id hb
  obtain ⟨w1, w2⟩ := id hw
  simp (disch := omega) only [C_tide, M_tide, C_isSlot_s ha, M_isSlot_s ha, C_isSlot_s hb, M_isSlot_s hb, ob_some, ite01_r, ite01_e, qk_r]
  by_cases ga : 0 ≤ a ∧ a < 336
  · by_cases gb : 0 ≤ b ∧ b < 336
    · simp only [if_pos ga, if_pos gb]
      by_cases gc : b < a
      · simp only [if_pos gc]
        exact ⟨_, rfl, rfl⟩
      · simp only [if_neg gc]
        rw [M_in_s ⟨by omega, by omega⟩ ⟨by omega, by omega⟩ ⟨by omega, by omega⟩]
        simp only [ob_some, ite01_r, ite01_e]
        by_cases gw : 0 ≤ w ∧ w ≤ 3
        · rw [if_pos gw, if_neg (show ¬ w < 0 by omega), if_pos (show w ≤ 3 by omega)]
          obtain ⟨x, y, hx, hy, e1, e2⟩ := tide_L h (z := b.toNat) (by omega) (b.toNat + 1 - a.toNat) qF a.toNat a.toNat a.toNat (by omega) (by unfold qF; omega) (by omega) (by omega)
          have f1 : ((a.toNat : Nat) : Int) = a := by omega
          have f2 : ((b.toNat : Nat) : Int) = b := by omega
          rw [f1, f2] at e1 e2
          rw [e1, e2]
          simp only [ob_some]
          obtain ⟨-, -, -, hl, -⟩ := id h
          obtain ⟨x1, x2, -⟩ := hl x hx
          obtain ⟨y1, y2, -⟩ := hl y hy
          have hc : w = 0 ∨ w = 1 ∨ w = 2 ∨ w = 3 := by omega
          rcases hc with rfl | rfl | rfl | rfl
          · refine ⟨lev x, ?_, ?_⟩ <;> simp (disch := omega) [qk_ix, qk_r, x1, x2]
          · refine ⟨(x : Int), ?_, ?_⟩ <;> simp (disch := omega) [qk_ix, qk_r]
          · refine ⟨lev y, ?_, ?_⟩ <;> simp (disch := omega) [qk_ix, qk_r, y1, y2]
          · refine ⟨(y : Int), ?_, ?_⟩ <;> simp (disch := omega) [qk_ix, qk_r]
        · rw [if_neg gw]
          by_cases g2 : w < 0
          · rw [if_pos g2]
            exact ⟨_, rfl, rfl⟩
          · rw [if_neg g2, if_neg (show ¬ w ≤ 3 by omega)]
            exact ⟨_, rfl, rfl⟩
    · simp only [if_pos ga, if_neg gb]
      exact ⟨_, rfl, rfl⟩
  · simp only [if_neg ga]
    exact ⟨_, rfl, rfl⟩
end PW
