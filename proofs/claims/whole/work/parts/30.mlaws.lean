/-! the laws of a stay: the reference -/
theorem ior_R (a b : Int) : qR (qb_ior a b) := ⟨Int32.le_toInt _, by have := Int32.toInt_lt (Int32.ofInt a ||| Int32.ofInt b); unfold qb_ior; omega⟩
theorem ishl_R (a b : Int) : qR (qb_ishl a b) := ⟨Int32.le_toInt _, by have := Int32.toInt_lt (Int32.ofInt a <<< (Int32.ofInt b &&& 31)); unfold qb_ishl; omega⟩
theorem ior_0 {a b : Int} (hb : qR b) (h : qb_ior a b = 0) : b = 0 := by
  have h1 : Int32.ofInt a ||| Int32.ofInt b = 0 := Int32.toInt_inj.mp h
  have h2 := congrArg Int32.toBitVec h1
  rw [Int32.toBitVec_or] at h2
  have h3 : (Int32.ofInt b).toBitVec = (0 : Int32).toBitVec := (BitVec.or_eq_zero_iff.mp h2).2
  have h4 : Int32.ofInt b = 0 := Int32.toBitVec_inj.mp h3
  have h5 := congrArg Int32.toInt h4
  rw [q_to hb] at h5
  exact h5
theorem ishl_nz {i : Nat} (h : i < 14) : qb_ishl 1 (i : Int) ≠ 0 := by
  have : ∀ i : Fin 14, qb_ishl 1 ((i : Nat) : Int) ≠ 0 := by decide
  exact this ⟨i, h⟩
/-- the ships in the way, as bits -/
def sWays (T lev : Nat → Int) (Y : qY) (s : Nat) (x t l : Int) : Nat → Int
  | 0 => 0
  | i + 1 => if crP T lev Y s x t l i then qb_ior (sWays T lev Y s x t l i) (qb_ishl 1 (i : Int)) else sWays T lev Y s x t l i
theorem sWays_R {T lev : Nat → Int} {Y : qY} {s : Nat} {x t l : Int} : ∀ n : Nat, qR (sWays T lev Y s x t l n)
  | 0 => ⟨by show (-2147483648 : Int) ≤ 0; omega, by show (0 : Int) ≤ 2147483647; omega⟩
  | n + 1 => by
    rw [sWays]
    split
    · exact ior_R _ _
    · exact sWays_R n
theorem sWays_0 {T lev : Nat → Int} {Y : qY} {s : Nat} {x t l : Int} : ∀ n : Nat, n ≤ 14 → (sWays T lev Y s x t l n = 0 ↔ ∀ o, o < n → ¬ crP T lev Y s x t l o)
  | 0, _ => ⟨fun _ o ho => absurd ho (by omega), fun _ => rfl⟩
  | n + 1, hn => by
    have ih := sWays_0 (T := T) (lev := lev) (Y := Y) (s := s) (x := x) (t := t) (l := l) n (by omega)
    rw [sWays]
    by_cases g : crP T lev Y s x t l n
    · rw [if_pos g]
      constructor
      · intro h
        exact absurd (ior_0 (ishl_R _ _) h) (ishl_nz (by omega))
      · intro h
        exact absurd g (h n (by omega))
    · rw [if_neg g]
      constructor
      · intro h o ho
        rcases Nat.lt_or_ge o n with q | q
        · exact ih.mp h o q
        · have : o = n := by omega
          rw [this]
          exact g
      · intro h
        exact ih.mpr (fun o ho => h o (by omega))
theorem yP_yP {Y : qY} {s : Nat} {x t k x' t' k' : Int} : yP (yP Y s x t k) s x' t' k' = yP Y s x' t' k' := by
  unfold yP
  refine Prod.ext ?_ (Prod.ext ?_ ?_)
  · funext i
    by_cases h : i = s <;> simp [h]
  · funext i
    by_cases h : i = s <;> simp [h]
  · funext i
    by_cases h : i = s <;> simp [h]
theorem yP_self {Y : qY} {s : Nat} : yP Y s (Y.1 s) (Y.2.1 s) (Y.2.2 s) = Y := by
  obtain ⟨a, b, c⟩ := Y
  unfold yP
  refine Prod.ext ?_ (Prod.ext ?_ ?_)
  · funext i
    by_cases h : i = s <;> simp [h]
  · funext i
    by_cases h : i = s <;> simp [h]
  · funext i
    by_cases h : i = s <;> simp [h]
theorem yE_0 {Y : qY} {s : Nat} {x t : Int} (h : Y.2.2 s = 0) : yE (yP Y s x t 0) Y := by
  refine ⟨fun i => ?_, fun i hi => ?_⟩
  · show (if i = s then 0 else Y.2.2 i) = Y.2.2 i
    split
    · next e => rw [e, h]
    · rfl
  · have hi' : 0 < (if i = s then (0 : Int) else Y.2.2 i) := hi
    by_cases e : i = s
    · rw [if_pos e] at hi'
      omega
    · show (if i = s then x else Y.1 i) = Y.1 i ∧ (if i = s then t else Y.2.1 i) = Y.2.1 i
      rw [if_neg e, if_neg e]
      exact ⟨rfl, rfl⟩
section PE
variable {T lev : Nat → Int} {Y : qY}
theorem M_earlyLaw_s {S : qSto} (hI : iT S T lev) {s : Nat} (hs : (s : Int) < T 9) {x t k : Int} (hx : -1000000000000 ≤ x ∧ x ≤ 1000000000000) (ht : -1000000000000 ≤ t ∧ t ≤ 1000000000000) (hk : qR k) : M_earlyLaw (s : Int) x t k S = some (sEarly T lev s x t k, S) := by
  obtain ⟨k1, k2⟩ := id hk
  have c := bT_con hI.1 hs
  have b0 := hI.1.1
  have e0 := hI.2.2.1 0
  have ec : ∀ w : Nat, w < 9 → M_of (s : Int) (w : Int) S = some (sCon T s w, S) := fun w hw => M_of_s hI hs hw
  have c0 : M_of (s : Int) 0 S = some (sCon T s 0, S) := ec 0 (by omega)
  have c4 : M_of (s : Int) 4 S = some (sCon T s 4, S) := ec 4 (by omega)
  have c7 : M_of (s : Int) 7 S = some (sCon T s 7, S) := ec 7 (by omega)
  have c8 : M_of (s : Int) 8 S = some (sCon T s 8, S) := ec 8 (by omega)
  have c1 : M_of (s : Int) 1 S = some (sCon T s 1, S) := ec 1 (by omega)
  simp (disch := omega) only [M_earlyLaw, c0, c4, c7, c8, c1, ob_some, qk_r, qk_rl, e0]
  unfold sEarly sTime
  by_cases g0 : x < 0
  · rw [if_pos g0, if_pos (Or.inl g0)]
  · rw [if_neg g0]
    by_cases g00 : x + sCon T s 0 ≤ T 0
    · rw [if_pos g00, if_neg (show ¬ (x < 0 ∨ T 0 < x + sCon T s 0) by omega)]
      by_cases g1 : t < sCon T s 4
      · rw [if_neg (show ¬ sCon T s 4 ≤ t by omega), if_pos g1]
      · rw [if_pos (show sCon T s 4 ≤ t by omega), if_neg g1]
        by_cases g2 : k < sCon T s 7
        · rw [if_pos g2, if_pos (Or.inl g2)]
        · rw [if_neg g2]
          by_cases g3 : k ≤ sCon T s 8
          · rw [if_pos g3, if_neg (show ¬ (k < sCon T s 7 ∨ sCon T s 8 < k) by omega)]
            by_cases g4 : 335 < t
            · rw [if_pos g4, if_pos (Or.inl (by omega))]
            · rw [if_neg g4]
              have ft : ((t.toNat : Nat) : Int) = t := by omega
              have eo := M_isOpen_s hI (w := sCon T s 1) (t := t.toNat) (by omega) (by omega) (by omega)
              rw [ft] at eo
              rw [eo]
              simp only [ob_some, ite01_m, ite01_n]
              by_cases g5 : T 3 + lev t.toNat < sCon T s 1 + T 2
              · rw [if_pos g5, if_pos (Or.inr g5)]
              · have hl := sNext_rng T lev (sCon T s 2) (t + sWork T s k).toNat
                have el : sNext T lev (sCon T s 2) (t + sWork T s k).toNat = sLeave T lev s t k := rfl
                rw [el] at hl
                rw [if_neg g5, if_neg (show ¬ (336 ≤ t ∨ T 3 + lev t.toNat < sCon T s 1 + T 2) by omega), M_leaveBy_s hI hs (by omega) (by omega) (by omega) (by omega)]
                simp only [ob_some]
                rw [qk_r (by omega) (by omega)]
                split <;> rfl
          · rw [if_neg g3, if_pos (show k < sCon T s 7 ∨ sCon T s 8 < k by omega)]
    · rw [if_neg g00, if_pos (show x < 0 ∨ T 0 < x + sCon T s 0 by omega)]
theorem M_shareSlots_s {S : qSto} (hI : iT S T lev) (hb : bY T lev Y) (hm : mY S T lev Y) {s o : Nat} (hs : (s : Int) < T 9) (ho : (o : Int) < T 9) (ks : 0 < Y.2.2 s) (ko : 0 < Y.2.2 o) : M_shareSlots (s : Int) (o : Int) S = some (if Y.2.1 s < sLv T lev Y o ∧ Y.2.1 o < sLv T lev Y s then 1 else 0, S) := by
  have b9 := bT_n hI.1
  have o1 := bY_one hI.1 hb hs ks
  have o2 := bY_one hI.1 hb ho ko
  obtain ⟨-, p2, -, p4⟩ := hm.2.1 s hs ks
  obtain ⟨-, q2, -, q4⟩ := hm.2.1 o ho ko
  unfold sLv
  simp (disch := omega) only [M_shareSlots, qk_ix, qk_r, Int.toNat_natCast, p2, p4, q2, q4]
  by_cases g1 : sLeave T lev o (Y.2.1 o) (Y.2.2 o) ≤ Y.2.1 s
  · rw [if_pos g1, if_neg (by omega)]
  · rw [if_neg g1]
    by_cases g2 : sLeave T lev s (Y.2.1 s) (Y.2.2 s) ≤ Y.2.1 o
    · rw [if_pos g2, if_neg (by omega)]
    · rw [if_neg g2, if_pos (by omega)]
theorem M_areClose_s {S : qSto} (hI : iT S T lev) (hb : bY T lev Y) (hm : mY S T lev Y) {s o : Nat} (hs : (s : Int) < T 9) (ho : (o : Int) < T 9) (ks : 0 < Y.2.2 s) (ko : 0 < Y.2.2 o) : M_areClose (s : Int) (o : Int) S = some (if Y.1 s - sLast T Y o ≤ T 1 ∧ Y.1 o - sLast T Y s ≤ T 1 then 1 else 0, S) := by
  have b9 := bT_n hI.1
  have o1 := bY_one hI.1 hb hs ks
  have o2 := bY_one hI.1 hb ho ko
  have c1 := bT_con hI.1 hs
  have c2 := bT_con hI.1 ho
  have b1 := hI.1.2.1
  have e1 := hI.2.2.1 1
  obtain ⟨p1, -⟩ := hm.2.1 s hs ks
  obtain ⟨q1, -⟩ := hm.2.1 o ho ko
  unfold sLast
  simp (disch := omega) only [M_areClose, qk_ix, qk_r, Int.toNat_natCast, p1, q1, e1, M_lastMetre_s hI hb hm hs ks, M_lastMetre_s hI hb hm ho ko, ob_some]
  by_cases g1 : T 1 < Y.1 s - (Y.1 o + sCon T o 0 - 1)
  · rw [if_pos g1, if_neg (by omega)]
  · rw [if_neg g1]
    by_cases g2 : T 1 < Y.1 o - (Y.1 s + sCon T s 0 - 1)
    · rw [if_pos g2, if_neg (by omega)]
    · rw [if_neg g2, if_pos (by omega)]
theorem M_waysOf_L {S : qSto} (hI : iT S T lev) {s : Nat} (hs : (s : Int) < T 9) {x t k : Int} (hk : 0 < k) (hb : bY T lev (yP Y s x t k)) (hm : mY S T lev (yP Y s x t k)) : ∀ (j n i : Nat), (i : Int) + j = T 9 → j < n → M_waysOf_L4 n (s : Int) (sWays T lev Y s x t (sLeave T lev s t k) i) (i : Int) S = some (sWays T lev Y s x t (sLeave T lev s t k) (sN T), S)
  | 0, n + 1, i, e, _ => by
    have b9 := bT_n hI.1
    have e1 := hI.2.2.1 9
    rw [M_waysOf_L4]
    simp (disch := omega) only [qk_r, e1, if_pos (show T 9 ≤ (i : Int) by omega)]
    unfold sN
    rw [show (T 9).toNat = i by omega]
  | j + 1, n + 1, i, e, hn => by
    have b9 := bT_n hI.1
    have e1 := hI.2.2.1 9
    have ih := M_waysOf_L hI hs hk hb hm j n (i + 1) (by omega) (by omega)
    have f1 : (((i + 1 : Nat)) : Int) = (i : Int) + 1 := by omega
    rw [f1, sWays] at ih
    rw [M_waysOf_L4]
    simp (disch := omega) only [qk_r, e1, if_neg (show ¬ T 9 ≤ (i : Int) by omega)]
    by_cases g0 : i = s
    · rw [if_neg (fun q => q.1 g0)] at ih
      rw [if_pos (show (i : Int) = (s : Int) by omega)]
      exact ih
    · have z1 : (yP Y s x t k).1 i = Y.1 i := if_neg g0
      have z2 : (yP Y s x t k).2.1 i = Y.2.1 i := if_neg g0
      have z3 : (yP Y s x t k).2.2 i = Y.2.2 i := if_neg g0
      have y1 : (yP Y s x t k).1 s = x := if_pos rfl
      have y2 : (yP Y s x t k).2.1 s = t := if_pos rfl
      have y3 : (yP Y s x t k).2.2 s = k := if_pos rfl
      rw [if_neg (show ¬ (i : Int) = (s : Int) by omega), M_stays_s hb hm hI.1 (s := i) (by omega), z3]
      simp only [ob_some, ite01_r, ite01_e]
      by_cases g1 : 0 < Y.2.2 i
      · rw [if_pos g1, M_shareSlots_s hI hb hm hs (o := i) (by omega) (by rw [y3]; exact hk) (by rw [z3]; exact g1)]
        have s1 : sLv T lev (yP Y s x t k) i = sLv T lev Y i := by unfold sLv; rw [z2, z3]
        have s2 : sLv T lev (yP Y s x t k) s = sLeave T lev s t k := by unfold sLv; rw [y2, y3]
        rw [s1, s2, y2, z2]
        simp only [ob_some, ite01_r, ite01_e]
        by_cases g2 : t < sLv T lev Y i ∧ Y.2.1 i < sLeave T lev s t k
        · rw [if_pos g2, M_areClose_s hI hb hm hs (o := i) (by omega) (by rw [y3]; exact hk) (by rw [z3]; exact g1)]
          have s3 : sLast T (yP Y s x t k) i = sLast T Y i := by unfold sLast; rw [z1]
          have s4 : sLast T (yP Y s x t k) s = x + sCon T s 0 - 1 := by unfold sLast; rw [y1]
          rw [s3, s4, y1, z1]
          simp only [ob_some, ite01_r, ite01_e]
          by_cases g3 : x - sLast T Y i ≤ T 1 ∧ Y.1 i - (x + sCon T s 0 - 1) ≤ T 1
          · rw [if_pos (show crP T lev Y s x t (sLeave T lev s t k) i from ⟨g0, g1, ⟨g2.2, g2.1⟩, by omega, by omega⟩)] at ih
            rw [if_pos g3]
            exact ih
          · rw [if_neg (fun q => g3 ⟨by have := q.2.2.2.1; omega, by have := q.2.2.2.2; omega⟩)] at ih
            rw [if_neg g3]
            exact ih
        · rw [if_neg (fun q => g2 ⟨q.2.2.1.2, q.2.2.1.1⟩)] at ih
          rw [if_neg g2]
          exact ih
      · rw [if_neg (fun q => g1 q.2.1)] at ih
        rw [if_neg g1]
        exact ih
theorem M_waysOf_s {S : qSto} (hI : iT S T lev) {s : Nat} (hs : (s : Int) < T 9) {x t k : Int} (hk : 0 < k) (hb : bY T lev (yP Y s x t k)) (hm : mY S T lev (yP Y s x t k)) : M_waysOf (s : Int) S = some (sWays T lev Y s x t (sLeave T lev s t k) (sN T), S) := by
  have b9 := bT_n hI.1
  have e := M_waysOf_L hI hs hk hb hm (T 9).toNat qF 0 (by omega) (by unfold qF; omega)
  have e' : M_waysOf_L4 qF (s : Int) 0 0 S = _ := e
  rw [M_waysOf, e']
  rfl
theorem M_hasGangs_L {S : qSto} (hI : iT S T lev) (hb : bY T lev Y) (hm : mY S T lev Y) {s : Nat} (hs : (s : Int) < T 9) (hk : 0 < Y.2.2 s) {z : Nat} (ez : (z : Int) = Y.2.1 s + sWork T s (Y.2.2 s)) : ∀ (j n i : Nat), i + j = z → j < n → ∃ r, M_hasGangs_L7 n (s : Int) (i : Int) S = some r ∧ ((r = .inl S ∧ ∀ u, i ≤ u → u < z → ¬ sGangs T (u / 16) < sBusy T Y u) ∨ (r = .inr (0, S) ∧ ∃ u, i ≤ u ∧ u < z ∧ sGangs T (u / 16) < sBusy T Y u))
  | 0, n + 1, i, e, _ => by
    have b9 := bT_n hI.1
    have o := bY_one hI.1 hb hs hk
    obtain ⟨-, p2, p3, -⟩ := hm.2.1 s hs hk
    rw [M_hasGangs_L7]
    simp (disch := omega) only [qk_r, qk_ix, Int.toNat_natCast, p2, p3, ← ez, if_pos (show (z : Int) ≤ (i : Int) by omega)]
    exact ⟨_, rfl, Or.inl ⟨rfl, fun u h1 h2 => absurd h1 (by omega)⟩⟩
  | j + 1, n + 1, i, e, hn => by
    have b9 := bT_n hI.1
    have o := bY_one hI.1 hb hs hk
    obtain ⟨-, p2, p3, -⟩ := hm.2.1 s hs hk
    have gb := sGangs_b hI.1 (n := i / 16) (by omega)
    have bb := sBusy_b hI.1 hb i
    obtain ⟨r, r1, r2⟩ := M_hasGangs_L hI hb hm hs hk ez j n (i + 1) (by omega) (by omega)
    have f1 : (((i + 1 : Nat)) : Int) = (i : Int) + 1 := by omega
    rw [f1] at r1
    have f2 : Int.tdiv (i : Int) 16 = ((i / 16 : Nat) : Int) := by
      rw [Int.tdiv_eq_ediv_of_nonneg (by omega)]
      omega
    rw [M_hasGangs_L7]
    simp (disch := omega) only [qk_r, qk_ix, Int.toNat_natCast, p2, p3, ← ez, if_neg (show ¬ (z : Int) ≤ (i : Int) by omega), M_cranesIn_s hI hb hm (t := i) (by omega), ob_some, f2, M_gangsBy_s hI (n := i / 16) (by omega)]
    by_cases g : sBusy T Y i ≤ sGangs T (i / 16)
    · rw [if_pos g]
      refine ⟨r, r1, ?_⟩
      rcases r2 with ⟨q1, q2⟩ | ⟨q1, u, q2, q3, q4⟩
      · refine Or.inl ⟨q1, fun u h1 h2 => ?_⟩
        rcases Nat.lt_or_ge i u with w | w
        · exact q2 u (by omega) h2
        · have : u = i := by omega
          rw [this]
          omega
      · exact Or.inr ⟨q1, u, by omega, q3, q4⟩
    · rw [if_neg g]
      exact ⟨_, rfl, Or.inr ⟨rfl, i, by omega, by omega, by omega⟩⟩
theorem M_hasGangs_s {S : qSto} (hI : iT S T lev) (hb : bY T lev Y) (hm : mY S T lev Y) {s : Nat} (hs : (s : Int) < T 9) (hk : 0 < Y.2.2 s) : ∃ r, M_hasGangs (s : Int) S = some (r, S) ∧ (r = 0 ∨ r = 1) ∧ (r = 0 ↔ ∃ u : Nat, (Y.2.1 s ≤ u ∧ (u : Int) < Y.2.1 s + sWork T s (Y.2.2 s)) ∧ sGangs T (u / 16) < sBusy T Y u) := by
  have b9 := bT_n hI.1
  have o := bY_one hI.1 hb hs hk
  obtain ⟨-, p2, -, -⟩ := hm.2.1 s hs hk
  obtain ⟨r, r1, r2⟩ := M_hasGangs_L hI hb hm hs hk (z := (Y.2.1 s + sWork T s (Y.2.2 s)).toNat) (by omega) (sWork T s (Y.2.2 s)).toNat qF (Y.2.1 s).toNat (by omega) (by unfold qF; omega)
  have f2 : (((Y.2.1 s).toNat : Nat) : Int) = Y.2.1 s := by omega
  rw [f2] at r1
  simp (disch := omega) only [M_hasGangs, qk_ix, Int.toNat_natCast, p2]
  rw [r1]
  rcases r2 with ⟨q1, q2⟩ | ⟨q1, u, q2, q3, q4⟩
  · rw [q1]
    refine ⟨1, rfl, Or.inr rfl, fun z => absurd z (by omega), fun ⟨u, u1, u2⟩ => ?_⟩
    exact absurd u2 (q2 u (by omega) (by omega))
  · rw [q1]
    exact ⟨0, rfl, Or.inl rfl, fun _ => ⟨u, by omega, q4⟩, fun _ => rfl⟩
theorem M_hasCranes_L (hb : bY T lev Y) (hT : bT T) (hw : wP T lev Y) {s : Nat} (hs : (s : Int) < T 9) (hk : 0 < Y.2.2 s) {z : Nat} (ez : (z : Int) = Y.2.1 s + sWork T s (Y.2.2 s)) : ∀ (j n i : Nat) (S : qSto), i + j = z → j < n → iT S T lev → mY S T lev Y → ∃ r S', M_hasCranes_L7 n (s : Int) (i : Int) S = some r ∧ fO 83 S S' ∧ ((r = .inl S' ∧ ∀ u, i ≤ u → u < z → (sDeal T (-1) Y u).1 = true) ∨ (r = .inr (0, S') ∧ ∃ u, i ≤ u ∧ u < z ∧ ¬ (sDeal T (-1) Y u).1 = true))
  | 0, n + 1, i, S, e, _, hI, hm => by
    have b9 := bT_n hI.1
    have o := bY_one hI.1 hb hs hk
    obtain ⟨-, p2, p3, -⟩ := hm.2.1 s hs hk
    rw [M_hasCranes_L7]
    simp (disch := omega) only [qk_r, qk_ix, Int.toNat_natCast, p2, p3, ← ez, if_pos (show (z : Int) ≤ (i : Int) by omega)]
    exact ⟨_, S, rfl, fun c _ => rfl, Or.inl ⟨rfl, fun u h1 h2 => absurd h1 (by omega)⟩⟩
  | j + 1, n + 1, i, S, e, hn, hI, hm => by
    have b9 := bT_n hI.1
    have o := bY_one hI.1 hb hs hk
    obtain ⟨-, p2, p3, -⟩ := hm.2.1 s hs hk
    have f1 : (((i + 1 : Nat)) : Int) = (i : Int) + 1 := by omega
    obtain ⟨S1, v1, v2, -⟩ := M_deals_s (m := -1) ⟨by omega, by omega⟩ hb (t := i) (by omega) (tie_at hT hb hw i) hI hm
    rw [M_hasCranes_L7]
    simp (disch := omega) only [qk_r, qk_ix, Int.toNat_natCast, p2, p3, ← ez, if_neg (show ¬ (z : Int) ≤ (i : Int) by omega), v1, ob_some, ite01_r, ite01_e]
    by_cases g : (sDeal T (-1) Y i).1 = true
    · rw [if_pos g]
      obtain ⟨r, S', r1, r2, r3⟩ := M_hasCranes_L hb hT hw hs hk ez j n (i + 1) S1 (by omega) (by omega) (iT_off hI (fun c hc => v2 c (by omega))) (mY_off hm (fun c hc => v2 c (by omega)))
      rw [f1] at r1
      refine ⟨r, S', r1, fun c hc => (r2 c hc).trans (v2 c hc), ?_⟩
      rcases r3 with ⟨q1, q2⟩ | ⟨q1, u, q2, q3, q4⟩
      · refine Or.inl ⟨q1, fun u h1 h2 => ?_⟩
        rcases Nat.lt_or_ge i u with w | w
        · exact q2 u (by omega) h2
        · have : u = i := by omega
          rw [this]
          exact g
      · exact Or.inr ⟨q1, u, by omega, q3, q4⟩
    · rw [if_neg g]
      exact ⟨_, S1, rfl, v2, Or.inr ⟨rfl, i, by omega, by omega, g⟩⟩
theorem M_hasCranes_s {S : qSto} (hI : iT S T lev) (hb : bY T lev Y) (hm : mY S T lev Y) (hw : wP T lev Y) {s : Nat} (hs : (s : Int) < T 9) (hk : 0 < Y.2.2 s) : ∃ r S', M_hasCranes (s : Int) S = some (r, S') ∧ fO 83 S S' ∧ (r = 0 ∨ r = 1) ∧ (r = 0 ↔ ∃ u : Nat, (Y.2.1 s ≤ u ∧ (u : Int) < Y.2.1 s + sWork T s (Y.2.2 s)) ∧ ¬ (sDeal T (-1) Y u).1 = true) := by
  have b9 := bT_n hI.1
  have o := bY_one hI.1 hb hs hk
  obtain ⟨-, p2, -, -⟩ := hm.2.1 s hs hk
  obtain ⟨r, S', r1, r2, r3⟩ := M_hasCranes_L hb hI.1 hw hs hk (z := (Y.2.1 s + sWork T s (Y.2.2 s)).toNat) (by omega) (sWork T s (Y.2.2 s)).toNat qF (Y.2.1 s).toNat S (by omega) (by unfold qF; omega) hI hm
  have f2 : (((Y.2.1 s).toNat : Nat) : Int) = Y.2.1 s := by omega
  rw [f2] at r1
  simp (disch := omega) only [M_hasCranes, qk_ix, Int.toNat_natCast, p2]
  rw [r1]
  rcases r3 with ⟨q1, q2⟩ | ⟨q1, u, q2, q3, q4⟩
  · rw [q1]
    refine ⟨1, S', rfl, r2, Or.inr rfl, fun z => absurd z (by omega), fun ⟨u, u1, u2⟩ => ?_⟩
    exact absurd (q2 u (by omega) (by omega)) u2
  · rw [q1]
    exact ⟨0, S', rfl, r2, Or.inl rfl, fun _ => ⟨u, by omega, q4⟩, fun _ => rfl⟩
theorem M_lowestIn_L {S : qSto} (hI : iT S T lev) {s : Nat} (hs : s < 14) {z : Nat} (hz : z ≤ 336) (e82 : S 82 s = z) : ∀ (j n t : Nat) (a : Int), t + j = z → j < n → 0 ≤ a → a ≤ 99 → M_lowestIn_L19 n (s : Int) a (t : Int) S = some (sLowN lev j t a, S)
  | 0, n + 1, t, a, e, _, _, _ => by
    rw [M_lowestIn_L19]
    simp (disch := omega) only [qk_r, qk_ix, Int.toNat_natCast, e82]
    rw [if_pos (by omega)]
    rfl
  | j + 1, n + 1, t, a, e, hn, ha, hb => by
    obtain ⟨l1, l2, l3, l4⟩ := hI.2.2.2.1 t (by omega)
    have f1 : (((t + 1 : Nat)) : Int) = (t : Int) + 1 := by omega
    rw [M_lowestIn_L19]
    simp (disch := omega) only [qk_r, qk_ix, Int.toNat_natCast, e82, l2, if_neg (show ¬ (z : Int) ≤ (t : Int) by omega)]
    have ih := M_lowestIn_L hI hs hz e82 j n (t + 1) (min a (lev t)) (by omega) (by omega) (by omega) (by omega)
    rw [f1] at ih
    rw [sLowN]
    by_cases g : a ≤ lev t
    · simp only [if_pos g, ob_some]
      rw [Int.min_eq_left g] at ih ⊢
      exact ih
    · simp only [if_neg g, ob_some]
      rw [Int.min_eq_right (by omega)] at ih ⊢
      exact ih
theorem M_lowestIn_s {S : qSto} (hI : iT S T lev) (hb : bY T lev Y) (hm : mY S T lev Y) {s : Nat} (hs : (s : Int) < T 9) (hk : 0 < Y.2.2 s) : M_lowestIn (s : Int) S = some (sLow lev (Y.2.1 s).toNat (sLv T lev Y s).toNat, S) := by
  have b9 := bT_n hI.1
  have o := bY_one hI.1 hb hs hk
  obtain ⟨-, p2, -, p4⟩ := hm.2.1 s hs hk
  obtain ⟨l1, l2, l3, l4⟩ := hI.2.2.2.1 (Y.2.1 s).toNat (by omega)
  have f1 : (((Y.2.1 s).toNat : Nat) : Int) = Y.2.1 s := by omega
  have e := M_lowestIn_L hI (s := s) (by omega) (z := (sLv T lev Y s).toNat) (by unfold sLv; omega) (by rw [p4]; unfold sLv; omega) ((sLv T lev Y s).toNat - (Y.2.1 s).toNat) qF (Y.2.1 s).toNat (lev (Y.2.1 s).toNat) (by unfold sLv; omega) (by unfold qF sLv; omega) l3 l4
  rw [f1] at e
  simp (disch := omega) only [M_lowestIn, qk_ix, Int.toNat_natCast, p2, l2]
  rw [e]
  rfl
/-- the reference: the laws -/
theorem M_lateLaw_s {S : qSto} (hI : iT S T lev) (hb0 : bY T lev Y) (hw : wP T lev Y) {s : Nat} (hs : (s : Int) < T 9) (h0 : Y.2.2 s = 0) {x t k : Int} (hok : okS T lev s x t k) (hm : mY S T lev (yP Y s x t k)) : ∃ S', M_lateLaw (s : Int) S = some (cI (L6 T lev s x t k) 6 (cI (L7 T lev Y s x t k) 7 (cI (L8 T Y s t k) 8 (cI (L9 T Y s x t k) 9 0))), S') ∧ fO 83 S S' := by
  have b9 := bT_n hI.1
  have b0 := hI.1.1
  have b2 := hI.1.2.2.1
  have b := okS_b hI.1 hs hok
  have cn := bT_con hI.1 hs
  have hok2 := hok.2.1
  have hb : bY T lev (yP Y s x t k) := bY_put hI.1 hb0 hs (Or.inr hok)
  have y1 : (yP Y s x t k).1 s = x := if_pos rfl
  have y2 : (yP Y s x t k).2.1 s = t := if_pos rfl
  have y3 : (yP Y s x t k).2.2 s = k := if_pos rfl
  have hks : 0 < (yP Y s x t k).2.2 s := by rw [y3]; omega
  obtain ⟨p1, -⟩ := hm.2.1 s hs hks
  rw [y1] at p1
  have el := M_lastMetre_s hI hb hm hs hks
  rw [y1] at el
  have fx : ((x.toNat : Nat) : Int) = x := by omega
  have fx2 : (((x + sCon T s 0 - 1).toNat : Nat) : Int) = x + sCon T s 0 - 1 := by omega
  have ed := M_leastDepth_s hI (a := x.toNat) (b := (x + sCon T s 0 - 1).toNat) (by omega) (by omega)
  rw [fx, fx2] at ed
  have ew := M_lowestIn_s hI hb hm hs hks
  have s2 : sLv T lev (yP Y s x t k) s = sLeave T lev s t k := by unfold sLv; rw [y2, y3]
  rw [y2, s2] at ew
  have en := M_needOf_s hI hs
  have r1 := sLeast_b hI (a := x.toNat) (b := (x + sCon T s 0 - 1).toNat) (by omega) (by omega)
  have r2 := sLow_b hI (t := t.toNat) (e := (sLeave T lev s t k).toNat) (by omega) (by omega)
  have r3 : 0 ≤ sNeed T s ∧ sNeed T s ≤ 330 := by unfold sNeed; omega
  simp (disch := omega) only [M_lateLaw, qk_ix, qk_r, Int.toNat_natCast, el, ob_some, p1, ed, ew, en]
  by_cases g6 : sNeed T s ≤ sLeast T x.toNat (x + sCon T s 0 - 1).toNat + sLow lev t.toNat (sLeave T lev s t k).toNat
  · rw [if_pos g6, cI_f (show ¬ L6 T lev s x t k by unfold L6; omega), M_waysOf_s hI hs (by omega) hb hm]
    obtain ⟨w1, w2⟩ := sWays_R (T := T) (lev := lev) (Y := Y) (s := s) (x := x) (t := t) (l := sLeave T lev s t k) (sN T)
    have w0 := sWays_0 (T := T) (lev := lev) (Y := Y) (s := s) (x := x) (t := t) (l := sLeave T lev s t k) (sN T) (by unfold sN; omega)
    simp only [ob_some]
    rw [qk_r w1 w2]
    by_cases g7 : sWays T lev Y s x t (sLeave T lev s t k) (sN T) = 0
    · have n7 : ¬ L7 T lev Y s x t k := fun ⟨o, o1, o2⟩ => w0.mp g7 o o1 o2
      obtain ⟨r, q1, q2, q3⟩ := M_hasGangs_s hI hb hm hs hks
      rw [y2, y3] at q3
      have key8 : r = 0 ↔ L8 T Y s t k := by
        refine q3.trans ⟨fun ⟨u, u1, u2⟩ => ⟨u, u1, ?_⟩, fun ⟨u, u1, u2⟩ => ⟨u, u1, ?_⟩⟩
        · rw [sBusy_put (by unfold sN; omega) h0, if_pos ⟨by omega, u1⟩] at u2
          exact u2
        · rw [sBusy_put (by unfold sN; omega) h0, if_pos ⟨by omega, u1⟩]
          exact u2
      rw [if_pos g7, cI_f n7, q1]
      simp only [ob_some]
      rw [qk_r (by omega) (by omega)]
      by_cases g8 : r = 0
      · rw [if_pos g8, cI_t (key8.mp g8)]
        exact ⟨S, rfl, fun c _ => rfl⟩
      · rw [if_neg g8, cI_f (fun z => g8 (key8.mpr z))]
        obtain ⟨r9, S', v1, v2, v3, v4⟩ := M_hasCranes_s hI hb hm (wP_put hw n7) hs hks
        rw [y2, y3] at v4
        have v5 : r9 = 0 ↔ L9 T Y s x t k := v4
        rw [v1]
        simp only [ob_some]
        rw [qk_r (by omega) (by omega)]
        by_cases g9 : r9 = 0
        · rw [if_pos g9, cI_t (v5.mp g9)]
          exact ⟨S', rfl, v2⟩
        · rw [if_neg g9, cI_f (fun z => g9 (v5.mpr z))]
          exact ⟨S', rfl, v2⟩
    · have y7 : L7 T lev Y s x t k := by
        apply Classical.byContradiction
        intro n7
        exact g7 (w0.mpr (fun o o1 o2 => n7 ⟨o, o1, o2⟩))
      rw [if_neg g7, cI_t y7]
      exact ⟨S, rfl, fun c _ => rfl⟩
  · rw [if_neg g6, cI_t (show L6 T lev s x t k by unfold L6; omega)]
    exact ⟨S, rfl, fun c _ => rfl⟩
theorem x_0 {s : Nat} : (yX Y s).2.2 s = 0 := if_pos rfl
theorem M_lawOf_s {S : qSto} (hI : iT S T lev) (hb : bY T lev Y) (hm : mY S T lev Y) (hw : wP T lev Y) {s : Nat} (hs : (s : Int) < T 9) {x t k : Int} (hx : -1000000000000 ≤ x ∧ x ≤ 1000000000000) (ht : -1000000000000 ≤ t ∧ t ≤ 1000000000000) (hk : qR k) : ∃ S', M_lawOf (s : Int) x t k S = some (sLaw T lev (yX Y s) s x t k, S') ∧ mY S' T lev Y ∧ fM S S' := by
  have b9 := bT_n hI.1
  have hbx : bY T lev (yX Y s) := bY_put hI.1 hb hs (Or.inl rfl)
  have rt := sTime_rng (T := T) (lev := lev) s t k
  have re : 0 ≤ sEarly T lev s x t k ∧ sEarly T lev s x t k ≤ 5 := by
    unfold sEarly
    split
    · omega
    · omega
  rw [M_lawOf, M_earlyLaw_s hI hs hx ht hk]
  simp only [ob_some]
  rw [qk_r (by omega) (by omega)]
  unfold sLaw
  by_cases g : sEarly T lev s x t k = 0
  · obtain ⟨hok, -⟩ := sEarly_ok g
    rw [if_pos (show sEarly T lev s x t k ≤ 0 by omega), if_pos g]
    obtain ⟨S1, t1, t2, t3⟩ := M_lay_s hI hm hs (x := x) (t := t) (k := k) (Or.inr hok)
    have hI1 : iT S1 T lev := iT_off hI (fun c hc => t3 c (by omega))
    have t2' : mY S1 T lev (yP (yX Y s) s x t k) := by rw [yP_x]; exact t2
    obtain ⟨S2, u1, u2⟩ := M_lateLaw_s hI1 hbx (wP_le yLe_x hw) hs x_0 hok t2'
    have hI2 : iT S2 T lev := iT_off hI1 (fun c hc => u2 c (by omega))
    have hm2 : mY S2 T lev (yP Y s x t k) := mY_off t2 (fun c hc => u2 c (by omega))
    have p6 := hm.1 s (by omega)
    have g78 := hm.2.2.1 s (by omega)
    have g79 := hm.2.2.2.1 s (by omega)
    have back : ∃ S3, M_lay (s : Int) (S 78 s) (S 79 s) (S 80 s) S2 = some S3 ∧ mY S3 T lev Y ∧ ∀ c, ¬ (78 ≤ c ∧ c ≤ 82) → S3 c = S2 c := by
      rw [p6]
      rcases Int.lt_or_le 0 (Y.2.2 s) with q | q
      · obtain ⟨e1, e2, -⟩ := hm.2.1 s hs q
        rw [e1, e2]
        obtain ⟨S3, v1, v2, v3⟩ := M_lay_w hI2 hm2 hs (Or.inr (bY_ok hb hs q))
        rw [yP_yP, yP_self] at v2
        exact ⟨S3, v1, v2, v3⟩
      · have q0 : Y.2.2 s = 0 := by have := (hb.1 s).1; omega
        rw [q0]
        obtain ⟨S3, v1, v2, v3⟩ := M_lay_s hI2 hm2 hs (x := S 78 s) (t := S 79 s) (k := 0) (Or.inl ⟨rfl, g78, g79⟩)
        rw [yP_yP] at v2
        exact ⟨S3, v1, mY_cong (yE_0 q0) v2, v3⟩
    obtain ⟨S3, v1, v2, v3⟩ := back
    refine ⟨S3, ?_, v2, ⟨fun c hc => ?_, fun i _ _ => ?_⟩⟩
    · simp (disch := omega) only [qk_ix, Int.toNat_natCast]
      rw [t1]
      simp only [ob_some]
      rw [u1]
      simp only [ob_some]
      rw [v1]
      rfl
    · rw [v3 c (by omega), u2 c (by omega), t3 c (by omega)]
    · rw [v3 70 (by omega), u2 70 (by omega), t3 70 (by omega)]
  · rw [if_neg (show ¬ sEarly T lev s x t k ≤ 0 by omega), if_neg g]
    exact ⟨S, rfl, hm, fM_rfl⟩
theorem cI_rng {p : Prop} {a b lo hi : Int} (ha : lo ≤ a ∧ a ≤ hi) (hb : lo ≤ b ∧ b ≤ hi) : lo ≤ cI p a b ∧ cI p a b ≤ hi := by
  by_cases h : p
  · rw [cI_t h]
    exact ha
  · rw [cI_f h]
    exact hb
theorem sLaw_rng (s : Nat) (x t k : Int) : 0 ≤ sLaw T lev Y s x t k ∧ sLaw T lev Y s x t k ≤ 9 := by
  have rt := sTime_rng (T := T) (lev := lev) s t k
  have re : 0 ≤ sEarly T lev s x t k ∧ sEarly T lev s x t k ≤ 5 := by
    unfold sEarly
    split
    · omega
    · omega
  unfold sLaw
  split
  · exact cI_rng (by omega) (cI_rng (by omega) (cI_rng (by omega) (cI_rng (by omega) (by omega))))
  · omega
/-- no law is broken -/
theorem sLaw_ok {s : Nat} {x t k : Int} (h : sLaw T lev Y s x t k = 0) : okS T lev s x t k ∧ sTime T lev s t k = 0 ∧ ¬ L6 T lev s x t k ∧ ¬ L7 T lev Y s x t k ∧ ¬ L8 T Y s t k ∧ ¬ L9 T Y s x t k := by
  unfold sLaw at h
  by_cases g : sEarly T lev s x t k = 0
  · rw [if_pos g] at h
    obtain ⟨e1, e2⟩ := sEarly_ok g
    by_cases l6 : L6 T lev s x t k
    · rw [cI_t l6] at h
      exact absurd h (by omega)
    · rw [cI_f l6] at h
      by_cases l7 : L7 T lev Y s x t k
      · rw [cI_t l7] at h
        exact absurd h (by omega)
      · rw [cI_f l7] at h
        by_cases l8 : L8 T Y s t k
        · rw [cI_t l8] at h
          exact absurd h (by omega)
        · rw [cI_f l8] at h
          by_cases l9 : L9 T Y s x t k
          · rw [cI_t l9] at h
            exact absurd h (by omega)
          · exact ⟨e1, e2, l6, l7, l8, l9⟩
  · rw [if_neg g] at h
    exact absurd h g
theorem sLaw_0 {s : Nat} {x t k : Int} (h1 : okS T lev s x t k) (h2 : sTime T lev s t k = 0) (h6 : ¬ L6 T lev s x t k) (h7 : ¬ L7 T lev Y s x t k) (h8 : ¬ L8 T Y s t k) (h9 : ¬ L9 T Y s x t k) : sLaw T lev Y s x t k = 0 := by
  have g : sEarly T lev s x t k = 0 := by
    unfold sEarly
    have := h1.2.1
    rw [if_neg (by omega)]
    exact h2
  unfold sLaw
  rw [if_pos g, cI_f h6, cI_f h7, cI_f h8, cI_f h9]
end PE
