/-! who lies where, boxes, shifts -/
def iA (S : qSto) (T lev : Nat → Int) (Y : qY) : Prop := iT S T lev ∧ bY T lev Y ∧ cY S T lev Y ∧ mY S T lev Y
theorem sWork_ge {T : Nat → Int} (hT : bT T) {s : Nat} (hs : (s : Int) < T 9) {k : Int} (h1 : 1 ≤ k) (h2 : k ≤ 8) : sCon T s 3 ≤ sWork T s k * sMoves T k ∧ ∀ n : Int, 0 ≤ n → n < sWork T s k → n * sMoves T k ≤ sCon T s 3 := by
  obtain ⟨-, m1, m2⟩ := sMoves_b hT h1 h2
  have c := (bT_con hT hs).2.2.2.1
  have g : (sCon T s 3 + sMoves T k - 1).tdiv (sMoves T k) = (sCon T s 3 + sMoves T k - 1) / sMoves T k := Int.tdiv_eq_ediv_of_nonneg (by omega)
  have q1 := Int.lt_ediv_add_one_mul_self (sCon T s 3 + sMoves T k - 1) (b := sMoves T k) (by omega)
  have q2 := Int.ediv_mul_le (sCon T s 3 + sMoves T k - 1) (b := sMoves T k) (by omega)
  have q3 : ((sCon T s 3 + sMoves T k - 1) / sMoves T k + 1) * sMoves T k = (sCon T s 3 + sMoves T k - 1) / sMoves T k * sMoves T k + sMoves T k := by rw [Int.add_mul, Int.one_mul]
  unfold sWork
  rw [g]
  generalize (sCon T s 3 + sMoves T k - 1) / sMoves T k = q at q1 q2 q3 ⊢
  refine ⟨?_, fun n h0 hn => ?_⟩
  · have : q * sMoves T k ≤ max 1 q * sMoves T k := Int.mul_le_mul_of_nonneg_right (by omega) (by omega)
    omega
  · rcases Int.lt_or_le 0 n with p | p
    · have e : n * sMoves T k ≤ (q - 1) * sMoves T k := Int.mul_le_mul_of_nonneg_right (by omega) (by omega)
      rw [Int.sub_mul, Int.one_mul] at e
      omega
    · have : n = 0 := by omega
      rw [this, Int.zero_mul]
      omega
def sMoved (T : Nat → Int) (Y : qY) (s : Nat) (t : Int) : Int := if 0 < Y.2.2 s ∧ Y.2.1 s < t then min (sCon T s 3) (min (sWork T s (Y.2.2 s)) (t - Y.2.1 s) * sMoves T (Y.2.2 s)) else 0
section PL
variable {S : qSto} {T lev : Nat → Int} {Y : qY}
theorem Stays_liesIn_s (h : iA S T lev Y) {s t : Nat} (hs : (s : Int) < T 9) (ht : t < 336) : Stays_liesIn (s : Int) (t : Int) S = some (if 0 < Y.2.2 s ∧ Y.2.1 s ≤ t ∧ (t : Int) < sLeave T lev s (Y.2.1 s) (Y.2.2 s) then 1 else 0, S) := by
  obtain ⟨hI, hb, hc, hm⟩ := h
  have b9 := bT_n hI.1
  simp only [Stays_liesIn, Stays_has_s hb hc hI.1 (s := s) (by omega), ob_some, ite01_r, ite01_e]
  by_cases g : 0 < Y.2.2 s
  · have o := bY_one hI.1 hb hs g
    obtain ⟨-, -, e3, -, e5⟩ := hc.2.1 s hs g
    simp (disch := omega) only [if_pos g, qk_ix, qk_r, Int.toNat_natCast, e3, e5]
    by_cases g1 : (t : Int) < Y.2.1 s
    · rw [if_pos g1, if_neg (by omega)]
    · rw [if_neg g1]
      by_cases g2 : sLeave T lev s (Y.2.1 s) (Y.2.2 s) ≤ t
      · rw [if_pos g2, if_neg (by omega)]
      · rw [if_neg g2, if_pos (by omega)]
  · simp only [if_neg g]
    rw [if_neg (fun q => g q.1)]
theorem M_isLying_s (h : iA S T lev Y) {s t : Nat} (hs : (s : Int) < T 9) (ht : t < 336) : M_isLying (s : Int) (t : Int) S = some (if 0 < Y.2.2 s ∧ Y.2.1 s ≤ t ∧ (t : Int) < sLeave T lev s (Y.2.1 s) (Y.2.2 s) then 1 else 0, S) := by
  obtain ⟨hI, hb, hc, hm⟩ := h
  have b9 := bT_n hI.1
  simp only [M_isLying, M_stays_s hb hm hI.1 (s := s) (by omega), ob_some, ite01_r, ite01_e]
  by_cases g : 0 < Y.2.2 s
  · have o := bY_one hI.1 hb hs g
    obtain ⟨-, e3, -, e5⟩ := hm.2.1 s hs g
    simp (disch := omega) only [if_pos g, qk_ix, qk_r, Int.toNat_natCast, e3, e5]
    by_cases g1 : (t : Int) < Y.2.1 s
    · rw [if_pos g1, if_neg (by omega)]
    · rw [if_neg g1]
      by_cases g2 : sLeave T lev s (Y.2.1 s) (Y.2.2 s) ≤ t
      · rw [if_pos g2, if_neg (by omega)]
      · rw [if_neg g2, if_pos (by omega)]
  · simp only [if_neg g]
    rw [if_neg (fun q => g q.1)]
theorem M_isAtWork_s (hI : iT S T lev) (hb : bY T lev Y) (hm : mY S T lev Y) {s t : Nat} (hs : (s : Int) < T 9) (ht : t < 20000) : M_isAtWork (s : Int) (t : Int) S = some (if 0 < Y.2.2 s ∧ Y.2.1 s ≤ t ∧ (t : Int) < Y.2.1 s + sWork T s (Y.2.2 s) then 1 else 0, S) := by
  have b9 := bT_n hI.1
  simp only [M_isAtWork, M_stays_s hb hm hI.1 (s := s) (by omega), ob_some, ite01_r, ite01_e]
  by_cases g : 0 < Y.2.2 s
  · have o := bY_one hI.1 hb hs g
    obtain ⟨-, e3, e4, e5⟩ := hm.2.1 s hs g
    simp (disch := omega) only [if_pos g, qk_ix, qk_r, Int.toNat_natCast, e3, e4]
    by_cases g1 : (t : Int) < Y.2.1 s
    · rw [if_pos g1, if_neg (by omega)]
    · rw [if_neg g1]
      by_cases g2 : Y.2.1 s + sWork T s (Y.2.2 s) ≤ t
      · rw [if_pos g2, if_neg (by omega)]
      · rw [if_neg g2, if_pos (by omega)]
  · simp only [if_neg g]
    rw [if_neg (fun q => g q.1)]
theorem M_cranesIn_L (hI : iT S T lev) (hb : bY T lev Y) (hm : mY S T lev Y) {t : Nat} (ht : t < 20000) : ∀ (j n i : Nat), (i : Int) + j = T 9 → j < n → M_cranesIn_L4 n (t : Int) (sm (fun s => if 0 < Y.2.2 s ∧ Y.2.1 s ≤ t ∧ (t : Int) < Y.2.1 s + sWork T s (Y.2.2 s) then Y.2.2 s else 0) i) (i : Int) S = some (sBusy T Y t, S)
  | 0, n + 1, i, e, _ => by
    have b9 := bT_n hI.1
    have e2 := hI.2.2.1 9
    rw [M_cranesIn_L4]
    simp (disch := omega) only [qk_r, e2]
    rw [if_pos (by omega)]
    unfold sBusy sN
    rw [show (T 9).toNat = i by omega]
  | j + 1, n + 1, i, e, hn => by
    have b9 := bT_n hI.1
    have e2 := hI.2.2.1 9
    have e3 := hm.1 i (by omega)
    rw [M_cranesIn_L4]
    simp (disch := omega) only [qk_r, e2, if_neg (show ¬ T 9 ≤ (i : Int) by omega), M_isAtWork_s hI hb hm (s := i) (t := t) (by omega) ht, ob_some, ite01_r, ite01_e, qk_ix, Int.toNat_natCast, e3]
    have ih := M_cranesIn_L hI hb hm ht j n (i + 1) (by omega) (by omega)
    rw [sm] at ih
    by_cases g : 0 < Y.2.2 i ∧ Y.2.1 i ≤ t ∧ (t : Int) < Y.2.1 i + sWork T i (Y.2.2 i)
    · simp only [if_pos g, ob_some] at ih ⊢
      exact ih
    · simp only [if_neg g, ob_some, Int.add_zero] at ih ⊢
      exact ih
theorem M_cranesIn_s (hI : iT S T lev) (hb : bY T lev Y) (hm : mY S T lev Y) {t : Nat} (ht : t < 20000) : M_cranesIn (t : Int) S = some (sBusy T Y t, S) := by
  have b9 := bT_n hI.1
  have e := M_cranesIn_L hI hb hm ht (T 9).toNat qF 0 (by omega) (by unfold qF; omega)
  have e' : M_cranesIn_L4 qF (t : Int) 0 0 S = some (sBusy T Y t, S) := e
  rw [M_cranesIn, e']
  rfl
theorem M_lastMetre_s (hI : iT S T lev) (hb : bY T lev Y) (hm : mY S T lev Y) {s : Nat} (hs : (s : Int) < T 9) (g : 0 < Y.2.2 s) : M_lastMetre (s : Int) S = some (Y.1 s + sCon T s 0 - 1, S) := by
  have b9 := bT_n hI.1
  obtain ⟨e1, -⟩ := hm.2.1 s hs g
  have ec : M_of (s : Int) 0 S = some (sCon T s 0, S) := M_of_s hI hs (w := 0) (by omega)
  simp (disch := omega) only [M_lastMetre, qk_ix, Int.toNat_natCast, ec, ob_some, e1]
/-- at(slot, metre) -/
theorem at_L (h : iA S T lev Y) {t : Nat} (ht : t < 336) {m : Int} (hm0 : 0 ≤ m) (hm1 : m ≤ 1000) : ∀ (j n i : Nat), (i : Int) + j = T 9 → j < n → (C_at_L19 n (t : Int) m (i : Int) S = some (.inl S) ∧ M_liesAt_L2 n (t : Int) m (i : Int) S = some (.inl S)) ∨ ∃ r, C_at_L19 n (t : Int) m (i : Int) S = some (.inr (r, S)) ∧ M_liesAt_L2 n (t : Int) m (i : Int) S = some (.inr (r, S))
  | 0, n + 1, i, e, _ => by
    have b9 := bT_n h.1.1
    have e1 := h.1.2.1.2.2.2.2.1
    have e2 := h.1.2.2.1 9
    rw [C_at_L19, M_liesAt_L2]
    simp (disch := omega) only [qk_r, e1, e2, if_pos (show T 9 ≤ (i : Int) by omega)]
    first | exact Or.inl ⟨trivial, trivial⟩ | exact Or.inl ⟨rfl, rfl⟩
  | j + 1, n + 1, i, e, hn => by
    have h0 := h
    obtain ⟨hI, hb, hc, hm⟩ := h
    have b9 := bT_n hI.1
    have e1 := hI.2.1.2.2.2.2.1
    have e2 := hI.2.2.1 9
    have ih := at_L h0 ht hm0 hm1 j n (i + 1) (by omega) (by omega)
    rw [C_at_L19, M_liesAt_L2]
    simp (disch := omega) only [qk_r, e1, e2, if_neg (show ¬ T 9 ≤ (i : Int) by omega), Stays_liesIn_s h0 (s := i) (t := t) (by omega) ht, M_isLying_s h0 (s := i) (t := t) (by omega) ht, ob_some, ite01_r, ite01_e]
    by_cases g : 0 < Y.2.2 i ∧ Y.2.1 i ≤ t ∧ (t : Int) < sLeave T lev i (Y.2.1 i) (Y.2.2 i)
    · have o := bY_one hI.1 hb (s := i) (by omega) g.1
      have c := bT_con hI.1 (s := i) (by omega)
      obtain ⟨f1, f2, -⟩ := hc.2.1 i (by omega) g.1
      obtain ⟨g1, -⟩ := hm.2.1 i (by omega) g.1
      simp (disch := omega) only [if_pos g, qk_ix, qk_r, Int.toNat_natCast, f1, f2, g1, M_lastMetre_s hI hb hm (s := i) (by omega) g.1, ob_some]
      by_cases p : m < Y.1 i
      · simp only [if_pos p]
        exact ih
      · simp only [if_neg p]
        by_cases q : Y.1 i + sCon T i 0 - 1 < m
        · simp only [if_pos q]
          exact ih
        · simp only [if_neg q]
          exact Or.inr ⟨_, rfl, rfl⟩
    · simp only [if_neg g]
      exact ih
theorem p_at (h : iA S T lev Y) {a b : Int} (ha : qR a) (hb : qR b) : ∃ r, C_at a b S = some (r, S) ∧ M_at a b S = some (r, S) := by
  have b9 := bT_n h.1.1
  have b0 := h.1.1.1
  simp only [C_at, M_at, M_liesAt, C_isSlot_s ha, M_isSlot_s ha, C_isMetre_s h.1 hb, M_isMetre_s h.1 hb, ob_some, ite01_r, ite01_e]
  by_cases g : 0 ≤ a ∧ a < 336
  · by_cases g2 : 0 ≤ b ∧ b < T 0
    · simp only [if_pos g, if_pos g2]
      have f1 : ((a.toNat : Nat) : Int) = a := by omega
      have L := at_L h (t := a.toNat) (by omega) (m := b) (by omega) (by omega) (T 9).toNat qF 0 (by omega) (by unfold qF; omega)
      rw [f1] at L
      have L' : (C_at_L19 qF a b 0 S = some (.inl S) ∧ M_liesAt_L2 qF a b 0 S = some (.inl S)) ∨ ∃ r, C_at_L19 qF a b 0 S = some (.inr (r, S)) ∧ M_liesAt_L2 qF a b 0 S = some (.inr (r, S)) := L
      rcases L' with ⟨e1, e2⟩ | ⟨r, e1, e2⟩
      · rw [e1, e2]
        exact ⟨_, rfl, rfl⟩
      · rw [e1, e2]
        exact ⟨_, rfl, rfl⟩
    · simp only [if_pos g, if_neg g2]
      exact ⟨_, rfl, rfl⟩
  · simp only [if_neg g]
    exact ⟨_, rfl, rfl⟩
/-! boxes -/
theorem sMoved_b (hT : bT T) {s : Nat} (hs : (s : Int) < T 9) (hb : bY T lev Y) {t : Int} (ht : t ≤ 20000) : 0 ≤ sMoved T Y s t ∧ sMoved T Y s t ≤ 9999 := by
  have c := (bT_con hT hs).2.2.2.1
  unfold sMoved
  split
  · next q =>
    have o := bY_one hT hb hs q.1
    obtain ⟨-, m1, m2⟩ := sMoves_b hT (k := Y.2.2 s) (by omega) (by omega)
    have : 0 ≤ min (sWork T s (Y.2.2 s)) (t - Y.2.1 s) * sMoves T (Y.2.2 s) := Int.mul_nonneg (by omega) (by omega)
    omega
  · omega
theorem Stays_movedAhead_s (h : iA S T lev Y) {s : Nat} (hs : (s : Int) < T 9) {t : Int} (ht0 : 0 ≤ t) (ht : t ≤ 400) : Stays_movedAhead (s : Int) t S = some (sMoved T Y s t, S) := by
  obtain ⟨hI, hb, hc, hm⟩ := h
  have b9 := bT_n hI.1
  simp only [Stays_movedAhead, Stays_has_s hb hc hI.1 (s := s) (by omega), ob_some, ite01_r, ite01_e]
  unfold sMoved
  by_cases g : 0 < Y.2.2 s
  · have o := bY_one hI.1 hb hs g
    have c := bT_con hI.1 hs
    obtain ⟨-, -, e3, e4, -⟩ := hc.2.1 s hs g
    have e5 := hc.1 s (by omega)
    have ec : Told_contractOf (s : Int) 3 S = some (sCon T s 3, S) := Told_contractOf_s hI hs (w := 3) (by omega)
    have em := Told_movesWith_s hI (k := Y.2.2 s) (by omega) (by omega)
    obtain ⟨-, m1, m2⟩ := sMoves_b hI.1 (k := Y.2.2 s) (by omega) (by omega)
    simp (disch := omega) only [if_pos g, qk_ix, qk_r, Int.toNat_natCast, e3, e4, e5]
    by_cases g1 : Y.2.1 s < t
    · have hw := sWork_b hI.1 hs (k := Y.2.2 s) (by omega) (by omega)
      have p := bnd_mul (a := min (sWork T s (Y.2.2 s)) (t - Y.2.1 s)) (b := sMoves T (Y.2.2 s)) (A := 400) (B := 792) (by omega) (by omega) (by omega) (by omega)
      rw [if_pos g1, if_pos ⟨g, g1⟩, Jm_min_s ⟨by omega, by omega⟩ ⟨by omega, by omega⟩]
      simp only [ob_some, ec]
      simp (disch := omega) only [qk_ix, Int.toNat_natCast, e5, em, ob_some]
      rw [Jm_min_s ⟨by omega, by omega⟩ ⟨by omega, by omega⟩]
      rfl
    · rw [if_neg g1, if_neg (fun q => g1 q.2)]
  · simp only [if_neg g]
    rw [if_neg (fun q => g q.1)]
theorem M_leftAhead_s (h : iA S T lev Y) {s : Nat} (hs : (s : Int) < T 9) {t : Int} (ht0 : 0 ≤ t) (ht : t ≤ 400) : M_leftAhead (s : Int) t S = some (sCon T s 3 - sMoved T Y s t, S) := by
  obtain ⟨hI, hb, hc, hm⟩ := h
  have b9 := bT_n hI.1
  have ec : M_of (s : Int) 3 S = some (sCon T s 3, S) := M_of_s hI hs (w := 3) (by omega)
  simp only [M_leftAhead, ec, M_stays_s hb hm hI.1 (s := s) (by omega), ob_some, ite01_r, ite01_e]
  unfold sMoved
  by_cases g : 0 < Y.2.2 s
  · have o := bY_one hI.1 hb hs g
    have c := bT_con hI.1 hs
    obtain ⟨-, e3, e4, -⟩ := hm.2.1 s hs g
    have e5 := hm.1 s (by omega)
    have em := M_movesBy_s hI (k := Y.2.2 s) (by omega) (by omega)
    obtain ⟨-, m1, m2⟩ := sMoves_b hI.1 (k := Y.2.2 s) (by omega) (by omega)
    have hw := sWork_b hI.1 hs (k := Y.2.2 s) (by omega) (by omega)
    obtain ⟨w1, w2⟩ := sWork_ge hI.1 hs (k := Y.2.2 s) (by omega) (by omega)
    simp (disch := omega) only [if_pos g, qk_ix, qk_r, Int.toNat_natCast, e3, e4, e5]
    by_cases g1 : Y.2.1 s < t
    · rw [if_pos g1, if_pos (show 0 < Y.2.2 s ∧ Y.2.1 s < t from ⟨g, g1⟩)]
      by_cases g2 : t - Y.2.1 s < sWork T s (Y.2.2 s)
      · have := w2 (t - Y.2.1 s) (by omega) g2
        rw [if_pos g2, em, Int.min_eq_right (show t - Y.2.1 s ≤ sWork T s (Y.2.2 s) by omega), Int.min_eq_right this]
        rfl
      · rw [if_neg g2, Int.min_eq_left (show sWork T s (Y.2.2 s) ≤ t - Y.2.1 s by omega), Int.min_eq_left w1, Int.sub_self]
    · rw [if_neg g1, if_neg (fun q => g1 q.2), Int.sub_zero]
  · simp only [if_neg g]
    rw [if_neg (fun q => g q.1), Int.sub_zero]
/-- left(ship, slot) -/
theorem p_left (h : iA S T lev Y) {a b : Int} (ha : qR a) (hb : qR b) : ∃ r, C_left a b S = some (r, S) ∧ M_left a b S = some (r, S) := by
  have b9 := bT_n h.1.1
  simp only [C_left, M_left, C_isShip_s h.1 ha, M_isShip_s h.1 ha, C_isSlot_s hb, M_isSlot_s hb, ob_some, ite01_r, ite01_e]
  by_cases g : 0 ≤ a ∧ a < T 9
  · by_cases g2 : 0 ≤ b ∧ b < 336
    · have f : ((a.toNat : Nat) : Int) = a := by omega
      have ec : Told_contractOf ((a.toNat : Nat) : Int) 3 S = some (sCon T a.toNat 3, S) := Told_contractOf_s h.1 (s := a.toNat) (by omega) (w := 3) (by omega)
      have e1 := Stays_movedAhead_s h (s := a.toNat) (by omega) (t := b) (by omega) (by omega)
      have e2 := M_leftAhead_s h (s := a.toNat) (by omega) (t := b) (by omega) (by omega)
      rw [f] at ec e1 e2
      simp only [if_pos g, if_pos g2, ec, e1, e2, ob_some]
      exact ⟨_, rfl, rfl⟩
    · simp only [if_pos g, if_neg g2]
      exact ⟨_, rfl, rfl⟩
  · simp only [if_neg g]
    exact ⟨_, rfl, rfl⟩
def sBox (T : Nat → Int) (Y : qY) (q : Int) : Int := sm (fun s => sMoved T Y s (16 * q + 16) - sMoved T Y s (16 * q)) (sN T)
theorem sMoved_mono (hT : bT T) {s : Nat} (hs : (s : Int) < T 9) (hb : bY T lev Y) {t : Int} (ht : t ≤ 400) : sMoved T Y s t ≤ sMoved T Y s (t + 16) := by
  have c := (bT_con hT hs).2.2.2.1
  unfold sMoved
  by_cases q : 0 < Y.2.2 s ∧ Y.2.1 s < t
  · have o := bY_one hT hb hs q.1
    obtain ⟨-, m1, m2⟩ := sMoves_b hT (k := Y.2.2 s) (by omega) (by omega)
    rw [if_pos q, if_pos ⟨q.1, by omega⟩]
    have : min (sWork T s (Y.2.2 s)) (t - Y.2.1 s) * sMoves T (Y.2.2 s) ≤ min (sWork T s (Y.2.2 s)) (t + 16 - Y.2.1 s) * sMoves T (Y.2.2 s) := Int.mul_le_mul_of_nonneg_right (by omega) (by omega)
    omega
  · rw [if_neg q]
    by_cases q2 : 0 < Y.2.2 s ∧ Y.2.1 s < t + 16
    · rw [if_pos q2]
      have o := bY_one hT hb hs q2.1
      obtain ⟨-, m1, m2⟩ := sMoves_b hT (k := Y.2.2 s) (by omega) (by omega)
      have : 0 ≤ min (sWork T s (Y.2.2 s)) (t + 16 - Y.2.1 s) * sMoves T (Y.2.2 s) := Int.mul_nonneg (by omega) (by omega)
      omega
    · rw [if_neg q2]
      exact Int.le_refl 0
theorem sBox_b (hT : bT T) (hb : bY T lev Y) {q : Int} (h0 : 0 ≤ q) (h1 : q < 21) : 0 ≤ sBox T Y q ∧ sBox T Y q ≤ 139986 := by
  have b9 := bT_n hT
  have := sm_bnd (f := fun s => sMoved T Y s (16 * q + 16) - sMoved T Y s (16 * q)) (c := 9999) (n := sN T) (fun s hs => by
    have hs' : (s : Int) < T 9 := by unfold sN at hs; omega
    have p1 := sMoved_b hT hs' hb (t := 16 * q + 16) (by omega)
    have p2 := sMoved_b hT hs' hb (t := 16 * q) (by omega)
    have p3 := sMoved_mono hT hs' hb (t := 16 * q) (by omega)
    omega)
  unfold sBox
  unfold sN at this ⊢
  omega
theorem C_movedIn_L (h : iA S T lev Y) {q : Int} (h0 : 0 ≤ q) (h1 : q < 21) : ∀ (j n i : Nat), (i : Int) + j = T 9 → j < n → C_movedIn_L10 n (q * 16) (sm (fun s => sMoved T Y s (16 * q + 16) - sMoved T Y s (16 * q)) i) (i : Int) S = some (sBox T Y q, S)
  | 0, n + 1, i, e, _ => by
    have b9 := bT_n h.1.1
    have e2 := h.1.2.1.2.2.2.2.1
    rw [C_movedIn_L10]
    simp (disch := omega) only [qk_r, e2]
    rw [if_pos (by omega)]
    unfold sBox sN
    rw [show (T 9).toNat = i by omega]
  | j + 1, n + 1, i, e, hn => by
    have b9 := bT_n h.1.1
    have e2 := h.1.2.1.2.2.2.2.1
    have f : q * 16 = 16 * q := by omega
    rw [C_movedIn_L10]
    simp (disch := omega) only [qk_r, e2, if_neg (show ¬ T 9 ≤ (i : Int) by omega), Stays_movedAhead_s h (s := i) (t := q * 16 + 16) (by omega) (by omega) (by omega), Stays_movedAhead_s h (s := i) (t := q * 16) (by omega) (by omega) (by omega), ob_some]
    have ih := C_movedIn_L h h0 h1 j n (i + 1) (by omega) (by omega)
    rw [sm, ← f] at ih
    rw [← f]
    exact ih
theorem C_movedIn_s (h : iA S T lev Y) {q : Int} (h0 : 0 ≤ q) (h1 : q < 21) : C_movedIn q S = some (sBox T Y q, S) := by
  have b9 := bT_n h.1.1
  have e := C_movedIn_L h h0 h1 (T 9).toNat qF 0 (by omega) (by unfold qF; omega)
  have e' : C_movedIn_L10 qF (q * 16) 0 0 S = some (sBox T Y q, S) := e
  rw [C_movedIn, e']
  rfl
theorem M_boxesIn_L (h : iA S T lev Y) {q : Int} (h0 : 0 ≤ q) (h1 : q < 21) : ∀ (j n i : Nat), (i : Int) + j = T 9 → j < n → M_boxesIn_L4 n q (sm (fun s => sMoved T Y s (16 * q + 16) - sMoved T Y s (16 * q)) i) (i : Int) S = some (sBox T Y q, S)
  | 0, n + 1, i, e, _ => by
    have b9 := bT_n h.1.1
    have e2 := h.1.2.2.1 9
    rw [M_boxesIn_L4]
    simp (disch := omega) only [qk_r, e2]
    rw [if_pos (by omega)]
    unfold sBox sN
    rw [show (T 9).toNat = i by omega]
  | j + 1, n + 1, i, e, hn => by
    have b9 := bT_n h.1.1
    have e2 := h.1.2.2.1 9
    rw [M_boxesIn_L4]
    simp (disch := omega) only [qk_r, e2, if_neg (show ¬ T 9 ≤ (i : Int) by omega), M_leftAhead_s h (s := i) (t := 16 * q + 16) (by omega) (by omega) (by omega), M_leftAhead_s h (s := i) (t := 16 * q) (by omega) (by omega) (by omega), ob_some]
    have ih := M_boxesIn_L h h0 h1 j n (i + 1) (by omega) (by omega)
    rw [sm] at ih
    rw [show sm (fun s => sMoved T Y s (16 * q + 16) - sMoved T Y s (16 * q)) i + (sCon T i 3 - sMoved T Y i (16 * q)) - (sCon T i 3 - sMoved T Y i (16 * q + 16)) = sm (fun s => sMoved T Y s (16 * q + 16) - sMoved T Y s (16 * q)) i + (sMoved T Y i (16 * q + 16) - sMoved T Y i (16 * q)) by omega]
    exact ih
theorem M_boxesIn_s (h : iA S T lev Y) {q : Int} (h0 : 0 ≤ q) (h1 : q < 21) : M_boxesIn q S = some (sBox T Y q, S) := by
  have b9 := bT_n h.1.1
  have e := M_boxesIn_L h h0 h1 (T 9).toNat qF 0 (by omega) (by unfold qF; omega)
  have e' : M_boxesIn_L4 qF q 0 0 S = some (sBox T Y q, S) := e
  rw [M_boxesIn, e']
  rfl
end PL
