/-! the laws of a stay: the class -/
def sTime (T lev : Nat → Int) (s : Nat) (t k : Int) : Int := if t < sCon T s 4 then 2 else if k < sCon T s 7 ∨ sCon T s 8 < k then 3 else if 336 ≤ t ∨ T 3 + lev t.toNat < sCon T s 1 + T 2 then 4 else if sLeave T lev s t k = -1 then 5 else 0
def sEarly (T lev : Nat → Int) (s : Nat) (x t k : Int) : Int := if x < 0 ∨ T 0 < x + sCon T s 0 then 1 else sTime T lev s t k
abbrev crP (T lev : Nat → Int) (Y : qY) (s : Nat) (x t l : Int) (o : Nat) : Prop := o ≠ s ∧ 0 < Y.2.2 o ∧ (Y.2.1 o < l ∧ t < sLv T lev Y o) ∧ (x ≤ sLast T Y o + T 1 ∧ Y.1 o ≤ x + sCon T s 0 - 1 + T 1)
def L6 (T lev : Nat → Int) (s : Nat) (x t k : Int) : Prop := sLeast T x.toNat (x + sCon T s 0 - 1).toNat + sLow lev t.toNat (sLeave T lev s t k).toNat < sNeed T s
def L7 (T lev : Nat → Int) (Y : qY) (s : Nat) (x t k : Int) : Prop := ∃ o : Nat, o < sN T ∧ crP T lev Y s x t (sLeave T lev s t k) o
def L8 (T : Nat → Int) (Y : qY) (s : Nat) (t k : Int) : Prop := ∃ u : Nat, (t ≤ u ∧ (u : Int) < t + sWork T s k) ∧ sGangs T (u / 16) < sBusy T Y u + k
def L9 (T : Nat → Int) (Y : qY) (s : Nat) (x t k : Int) : Prop := ∃ u : Nat, (t ≤ u ∧ (u : Int) < t + sWork T s k) ∧ ¬ (sDeal T (-1) (yP Y s x t k) u).1 = true
noncomputable def sLaw (T lev : Nat → Int) (Y : qY) (s : Nat) (x t k : Int) : Int := if sEarly T lev s x t k = 0 then cI (L6 T lev s x t k) 6 (cI (L7 T lev Y s x t k) 7 (cI (L8 T Y s t k) 8 (cI (L9 T Y s x t k) 9 0))) else sEarly T lev s x t k
section PQ
variable {T lev : Nat → Int} {Y : qY}
theorem sTime_ok {s : Nat} {t k : Int} (h : sTime T lev s t k = 0) : (sCon T s 4 ≤ t ∧ t ≤ 335) ∧ (sCon T s 7 ≤ k ∧ k ≤ sCon T s 8) ∧ ¬ T 3 + lev t.toNat < sCon T s 1 + T 2 ∧ sLeave T lev s t k ≠ -1 := by
  unfold sTime at h
  by_cases g1 : t < sCon T s 4
  · rw [if_pos g1] at h
    exact absurd h (by omega)
  · rw [if_neg g1] at h
    by_cases g2 : k < sCon T s 7 ∨ sCon T s 8 < k
    · rw [if_pos g2] at h
      exact absurd h (by omega)
    · rw [if_neg g2] at h
      by_cases g3 : 336 ≤ t ∨ T 3 + lev t.toNat < sCon T s 1 + T 2
      · rw [if_pos g3] at h
        exact absurd h (by omega)
      · rw [if_neg g3] at h
        by_cases g4 : sLeave T lev s t k = -1
        · rw [if_pos g4] at h
          exact absurd h (by omega)
        · exact ⟨by omega, by omega, by omega, g4⟩
theorem sTime_rng (s : Nat) (t k : Int) : sTime T lev s t k = 0 ∨ (2 ≤ sTime T lev s t k ∧ sTime T lev s t k ≤ 5) := by
  unfold sTime
  split
  · omega
  · split
    · omega
    · split
      · omega
      · split <;> omega
theorem sEarly_ok {s : Nat} {x t k : Int} (h : sEarly T lev s x t k = 0) : okS T lev s x t k ∧ sTime T lev s t k = 0 := by
  unfold sEarly at h
  by_cases g : x < 0 ∨ T 0 < x + sCon T s 0
  · rw [if_pos g] at h
    exact absurd h (by omega)
  · rw [if_neg g] at h
    have k := sTime_ok h
    exact ⟨⟨k.2.1, ⟨by omega, by omega⟩, k.1, k.2.2.2⟩, h⟩
theorem Laws_fits_s {S : qSto} (hI : iT S T lev) {s : Nat} (hs : (s : Int) < T 9) {x : Int} (hx : qR x) : Laws_fits (s : Int) x S = some (if x < 0 ∨ T 0 < x + sCon T s 0 then 0 else 1, S) := by
  obtain ⟨x1, x2⟩ := id hx
  have b0 := hI.1.1
  have c := bT_con hI.1 hs
  have e0 := hI.2.1.1 0 (by omega)
  have ec : Told_contractOf (s : Int) 0 S = some (sCon T s 0, S) := Told_contractOf_s hI hs (w := 0) (by omega)
  simp (disch := omega) only [Laws_fits, qk_r, ec, ob_some, e0]
  by_cases g : x < 0
  · rw [if_pos g, if_pos (Or.inl g)]
  · rw [if_neg g]
    by_cases g2 : T 0 - sCon T s 0 < x
    · rw [if_pos g2, if_pos (by omega)]
    · rw [if_neg g2, if_neg (by omega)]
theorem Laws_ofTime_s {S : qSto} (hI : iT S T lev) {s : Nat} (hs : (s : Int) < T 9) {t k : Int} (ht : qR t) (hk : qR k) : ∃ S', Laws_ofTime (s : Int) t k S = some (sTime T lev s t k, S') ∧ fO 8 S S' ∧ (sTime T lev s t k = 0 → S' 8 4 = sWork T s k ∧ S' 8 5 = sLeave T lev s t k) := by
  obtain ⟨t1, t2⟩ := id ht
  obtain ⟨k1, k2⟩ := id hk
  have c := bT_con hI.1 hs
  have ec : ∀ w : Nat, w < 9 → Told_contractOf (s : Int) (w : Int) S = some (sCon T s w, S) := fun w hw => Told_contractOf_s hI hs hw
  have c4 : Told_contractOf (s : Int) 4 S = some (sCon T s 4, S) := ec 4 (by omega)
  have c7 : Told_contractOf (s : Int) 7 S = some (sCon T s 7, S) := ec 7 (by omega)
  have c8 : Told_contractOf (s : Int) 8 S = some (sCon T s 8, S) := ec 8 (by omega)
  have c1 : Told_contractOf (s : Int) 1 S = some (sCon T s 1, S) := ec 1 (by omega)
  simp (disch := omega) only [Laws_ofTime, c4, ob_some, qk_r, c7, c8, c1]
  unfold sTime
  by_cases g1 : t < sCon T s 4
  · rw [if_neg (show ¬ sCon T s 4 ≤ t by omega), if_pos g1]
    exact ⟨S, rfl, fun c _ => rfl, fun q => absurd q (by omega)⟩
  · rw [if_pos (show sCon T s 4 ≤ t by omega), if_neg g1]
    by_cases g2 : k < sCon T s 7
    · rw [if_pos g2, if_pos (Or.inl g2)]
      exact ⟨S, rfl, fun c _ => rfl, fun q => absurd q (by omega)⟩
    · rw [if_neg g2]
      by_cases g3 : k ≤ sCon T s 8
      · rw [if_pos g3, if_neg (show ¬ (k < sCon T s 7 ∨ sCon T s 8 < k) by omega)]
        by_cases g4 : 336 ≤ t
        · rw [if_pos g4, if_pos (Or.inl g4)]
          exact ⟨S, rfl, fun c _ => rfl, fun q => absurd q (by omega)⟩
        · rw [if_neg g4]
          have ft : ((t.toNat : Nat) : Int) = t := by omega
          have eo := Waters_isOpen_s hI (w := sCon T s 1) (t := t.toNat) (by omega) (by omega) (by omega)
          rw [ft] at eo
          rw [eo]
          simp only [ob_some, ite01_m, ite01_n]
          by_cases g5 : T 3 + lev t.toNat < sCon T s 1 + T 2
          · rw [if_pos g5, if_pos (Or.inr g5)]
            exact ⟨S, rfl, fun c _ => rfl, fun q => absurd q (by omega)⟩
          · rw [if_neg g5, if_neg (show ¬ (336 ≤ t ∨ T 3 + lev t.toNat < sCon T s 1 + T 2) by omega), Told_workWith_s hI hs (by omega) (by omega)]
            simp only [ob_some]
            have hw := sWork_b hI.1 hs (k := k) (by omega) (by omega)
            have hI1 : iT (qup S 8 4 (sWork T s k)) T lev := iT_off hI (fun c hc => qup_off (by omega))
            have c2 : Told_contractOf (s : Int) 2 (qup S 8 4 (sWork T s k)) = some (sCon T s 2, qup S 8 4 (sWork T s k)) := Told_contractOf_s hI1 hs (w := 2) (by omega)
            have e84 : (qup S 8 4 (sWork T s k)) 8 4 = sWork T s k := by rw [qup_on, if_pos rfl]
            rw [c2]
            simp only [ob_some]
            rw [e84, Waters_firstOpen_s hI1 (w := sCon T s 2) (t := t + sWork T s k) (by omega) (by omega) (by omega) (by omega)]
            have el : sNext T lev (sCon T s 2) (t + sWork T s k).toNat = sLeave T lev s t k := rfl
            have hl := sNext_rng T lev (sCon T s 2) (t + sWork T s k).toNat
            rw [el] at hl ⊢
            simp only [ob_some]
            have e85 : (qup (qup S 8 4 (sWork T s k)) 8 5 (sLeave T lev s t k)) 8 5 = sLeave T lev s t k := by rw [qup_on, if_pos rfl]
            have e84' : (qup (qup S 8 4 (sWork T s k)) 8 5 (sLeave T lev s t k)) 8 4 = sWork T s k := by rw [qup_on, if_neg (by omega), e84]
            rw [e85, qk_r (by omega) (by omega)]
            have off : fO 8 S (qup (qup S 8 4 (sWork T s k)) 8 5 (sLeave T lev s t k)) := fun c hc => by rw [qup_off hc, qup_off hc]
            by_cases g6 : sLeave T lev s t k = -1
            · rw [if_pos g6, if_pos g6]
              exact ⟨_, rfl, off, fun q => absurd q (by omega)⟩
            · rw [if_neg g6, if_neg g6]
              exact ⟨_, rfl, off, fun _ => ⟨e84', e85⟩⟩
      · rw [if_neg g3, if_pos (show k < sCon T s 7 ∨ sCon T s 8 < k by omega)]
        exact ⟨S, rfl, fun c _ => rfl, fun q => absurd q (by omega)⟩
theorem Laws_crowds_s {S : qSto} (hI : iT S T lev) (hb : bY T lev Y) (hc : cY S T lev Y) {s o : Nat} (hs : (s : Int) < T 9) (ho : (o : Int) < T 9) {x t l : Int} (hx : 0 ≤ x ∧ x ≤ 1000) (ht : 0 ≤ t ∧ t ≤ 335) (hl : 0 ≤ l ∧ l ≤ 335) (e85 : S 8 5 = l) : Laws_crowds (o : Int) (s : Int) x t S = some (if crP T lev Y s x t l o then 1 else 0, S) := by
  have b9 := bT_n hI.1
  have cs := bT_con hI.1 hs
  have b1 := hI.1.2.1
  have e1 := hI.2.1.1 1 (by omega)
  simp (disch := omega) only [Laws_crowds, qk_r]
  by_cases g0 : o = s
  · rw [if_pos (show (o : Int) = (s : Int) by omega), if_neg (fun q => q.1 g0)]
  · rw [if_neg (show ¬ (o : Int) = (s : Int) by omega), Stays_has_s hb hc hI.1 (s := o) (by omega)]
    simp only [ob_some, ite01_r, ite01_e]
    by_cases g1 : 0 < Y.2.2 o
    · obtain ⟨p1, p2, p3, p4, p5⟩ := hc.2.1 o ho g1
      have oo := bY_one hI.1 hb ho g1
      have co := bT_con hI.1 ho
      have ec : Told_contractOf (s : Int) 0 S = some (sCon T s 0, S) := Told_contractOf_s hI hs (w := 0) (by omega)
      simp (disch := omega) only [if_pos g1, qk_ix, qk_r, Int.toNat_natCast, p1, p2, p3, p5, e85, ec, ob_some, e1]
      by_cases g2 : l ≤ Y.2.1 o
      · rw [if_pos g2, if_neg (fun q => by have := q.2.2.1.1; omega)]
      · rw [if_neg g2]
        by_cases g3 : t < sLeave T lev o (Y.2.1 o) (Y.2.2 o)
        · rw [if_pos g3]
          by_cases g4 : Y.1 o + sCon T o 0 - 1 + T 1 < x
          · rw [if_pos g4, if_neg (fun q => by have := q.2.2.2.1; unfold sLast at this; omega)]
          · rw [if_neg g4]
            by_cases g5 : x + sCon T s 0 - 1 + T 1 < Y.1 o
            · rw [if_pos g5, if_neg (fun q => by have := q.2.2.2.2; omega)]
            · rw [if_neg g5, if_pos]
              exact ⟨g0, g1, ⟨by omega, g3⟩, by unfold sLast; omega, by omega⟩
        · rw [if_neg g3, if_neg (fun q => g3 q.2.2.1.2)]
    · rw [if_neg g1, if_neg (fun q => g1 q.2.1)]
theorem pastObstacle_L {S : qSto} (hI : iT S T lev) (hb : bY T lev Y) (hc : cY S T lev Y) {s : Nat} (hs : (s : Int) < T 9) {x t l : Int} (hx : 0 ≤ x ∧ x ≤ 1000) (ht : 0 ≤ t ∧ t ≤ 335) (hl : 0 ≤ l ∧ l ≤ 335) (e85 : S 8 5 = l) : ∀ (j n i : Nat), (i : Int) + j = T 9 → j < n → (Laws_pastObstacle_L3 n (s : Int) x t (i : Int) S = some (.inl S) ∧ ∀ o, i ≤ o → o < sN T → ¬ crP T lev Y s x t l o) ∨ ∃ o : Nat, Laws_pastObstacle_L3 n (s : Int) x t (i : Int) S = some (.inr (sLast T Y o + T 1 + 1, S)) ∧ o < sN T ∧ crP T lev Y s x t l o
  | 0, n + 1, i, e, _ => by
    have b9 := bT_n hI.1
    have e1 := hI.2.1.2.2.2.2.1
    rw [Laws_pastObstacle_L3]
    simp (disch := omega) only [qk_r, e1, if_pos (show T 9 ≤ (i : Int) by omega)]
    refine Or.inl ⟨trivial, fun o h1 h2 => ?_⟩
    unfold sN at h2
    omega
  | j + 1, n + 1, i, e, hn => by
    have b9 := bT_n hI.1
    have e1 := hI.2.1.2.2.2.2.1
    have e0 := hI.2.1.1 1 (by omega)
    have ih := pastObstacle_L hI hb hc hs hx ht hl e85 j n (i + 1) (by omega) (by omega)
    have f1 : (((i + 1 : Nat)) : Int) = (i : Int) + 1 := by omega
    rw [f1] at ih
    rw [Laws_pastObstacle_L3]
    simp (disch := omega) only [qk_r, e1, if_neg (show ¬ T 9 ≤ (i : Int) by omega), Laws_crowds_s hI hb hc hs (o := i) (by omega) hx ht hl e85, ob_some, ite01_r, ite01_e]
    by_cases g : crP T lev Y s x t l i
    · obtain ⟨-, p2, -⟩ := hc.2.1 i (by omega) g.2.1
      simp (disch := omega) only [if_pos g, qk_ix, Int.toNat_natCast, p2, e0]
      exact Or.inr ⟨i, rfl, by unfold sN; omega, g⟩
    · simp only [if_neg g]
      rcases ih with ⟨p1, p2⟩ | p
      · refine Or.inl ⟨p1, fun o h1 h2 => ?_⟩
        rcases Nat.lt_or_ge i o with q | q
        · exact p2 o (by omega) h2
        · have : o = i := by omega
          rw [this]
          exact g
      · exact Or.inr p
theorem pastObstacle_s {S : qSto} (hI : iT S T lev) (hb : bY T lev Y) (hc : cY S T lev Y) {s : Nat} (hs : (s : Int) < T 9) {x t l : Int} (hx : 0 ≤ x ∧ x ≤ 1000) (ht : 0 ≤ t ∧ t ≤ 335) (hl : 0 ≤ l ∧ l ≤ 335) (e85 : S 8 5 = l) : ∃ r, Laws_pastObstacle (s : Int) x t S = some (r, S) ∧ ((r = x ∧ ∀ o, o < sN T → ¬ crP T lev Y s x t l o) ∨ ∃ o : Nat, r = sLast T Y o + T 1 + 1 ∧ o < sN T ∧ crP T lev Y s x t l o) := by
  have b9 := bT_n hI.1
  rcases pastObstacle_L hI hb hc hs hx ht hl e85 (T 9).toNat qF 0 (by omega) (by unfold qF; omega) with ⟨e1, e2⟩ | ⟨o, e1, e2, e3⟩
  · have e1' : Laws_pastObstacle_L3 qF (s : Int) x t 0 S = some (.inl S) := e1
    refine ⟨x, ?_, Or.inl ⟨rfl, fun o ho => e2 o (by omega) ho⟩⟩
    rw [Laws_pastObstacle, e1']
    rfl
  · have e1' : Laws_pastObstacle_L3 qF (s : Int) x t 0 S = some (.inr (sLast T Y o + T 1 + 1, S)) := e1
    refine ⟨_, ?_, Or.inr ⟨o, rfl, e2, e3⟩⟩
    rw [Laws_pastObstacle, e1']
    rfl
theorem sGangs_b (hT : bT T) {n : Nat} (hn : n < 21) : -1 ≤ sGangs T n ∧ sGangs T n ≤ 9 := by
  have b1 := hT.2.2.2.2.2.2.2.2.2.2.2.2.2.1 n hn
  have b7 := hT.2.2.2.2.2.2.2.1
  unfold sGangs
  split <;> omega
theorem firstShort_L {S : qSto} (hI : iT S T lev) (hb : bY T lev Y) (hc : cY S T lev Y) {k : Int} (hk : 1 ≤ k ∧ k ≤ 8) {z : Nat} (hz : z ≤ 336) : ∀ (j n i : Nat), i + j = z → j < n → (Laws_firstShort_L16 n k (z : Int) (i : Int) S = some (.inl S) ∧ ∀ u, i ≤ u → u < z → ¬ sGangs T (u / 16) < sBusy T Y u + k) ∨ ∃ u : Nat, Laws_firstShort_L16 n k (z : Int) (i : Int) S = some (.inr ((u : Int), S)) ∧ i ≤ u ∧ u < z ∧ sGangs T (u / 16) < sBusy T Y u + k
  | 0, n + 1, i, e, _ => by
    rw [Laws_firstShort_L16]
    simp (disch := omega) only [qk_r, if_pos (show (z : Int) ≤ (i : Int) by omega)]
    exact Or.inl ⟨trivial, fun u h1 h2 => absurd h1 (by omega)⟩
  | j + 1, n + 1, i, e, hn => by
    have eb := hc.2.2.1 i (by omega)
    have bb := sBusy_b hI.1 hb i
    have gb := sGangs_b hI.1 (n := i / 16) (by omega)
    have ih := firstShort_L hI hb hc hk hz j n (i + 1) (by omega) (by omega)
    have f1 : (((i + 1 : Nat)) : Int) = (i : Int) + 1 := by omega
    rw [f1] at ih
    have f2 : Int.tdiv (i : Int) 16 = ((i / 16 : Nat) : Int) := by
      rw [Int.tdiv_eq_ediv_of_nonneg (by omega)]
      omega
    rw [Laws_firstShort_L16]
    simp (disch := omega) only [qk_r, qk_ix, if_neg (show ¬ (z : Int) ≤ (i : Int) by omega), f2, Told_gangsIn_s hI (n := i / 16) (by omega), ob_some, Int.toNat_natCast, eb]
    by_cases g : sBusy T Y i + k ≤ sGangs T (i / 16)
    · simp only [if_pos g]
      rcases ih with ⟨p1, p2⟩ | ⟨u, p1, p2, p3, p4⟩
      · refine Or.inl ⟨p1, fun u h1 h2 => ?_⟩
        rcases Nat.lt_or_ge i u with q | q
        · exact p2 u (by omega) h2
        · have : u = i := by omega
          rw [this]
          omega
      · exact Or.inr ⟨u, p1, by omega, p3, p4⟩
    · simp only [if_neg g]
      exact Or.inr ⟨i, rfl, by omega, by omega, by omega⟩
theorem firstShort_s {S : qSto} (hI : iT S T lev) (hb : bY T lev Y) (hc : cY S T lev Y) {s : Nat} {k t : Int} (hk : 1 ≤ k ∧ k ≤ 8) (ht : 0 ≤ t) (hw : 1 ≤ sWork T s k) (htw : t + sWork T s k ≤ 335) (e84 : S 8 4 = sWork T s k) : ∃ r, Laws_firstShort t k S = some (r, S) ∧ ((r = -1 ∧ ¬ L8 T Y s t k) ∨ ∃ u : Nat, r = u ∧ (t ≤ u ∧ (u : Int) < t + sWork T s k) ∧ sGangs T (u / 16) < sBusy T Y u + k) := by
  have f1 : (((t + sWork T s k).toNat : Nat) : Int) = t + sWork T s k := by omega
  have f2 : ((t.toNat : Nat) : Int) = t := by omega
  rw [Laws_firstShort, e84, Jm_min_s ⟨by omega, by omega⟩ ⟨by omega, by omega⟩]
  simp only [ob_some, Int.min_eq_right (show t + sWork T s k ≤ 336 by omega)]
  rcases firstShort_L hI hb hc hk (z := (t + sWork T s k).toNat) (by omega) (sWork T s k).toNat qF t.toNat (by omega) (by unfold qF; omega) with ⟨e1, e2⟩ | ⟨u, e1, e2, e3, e4⟩
  · rw [f1, f2] at e1
    rw [e1]
    refine ⟨-1, rfl, Or.inl ⟨rfl, ?_⟩⟩
    rintro ⟨u, u1, u2⟩
    exact e2 u (by omega) (by omega) u2
  · rw [f1, f2] at e1
    rw [e1]
    exact ⟨u, rfl, Or.inr ⟨u, rfl, by omega, e4⟩⟩
/-! cranes: only where a work begins -/
theorem filter_sub {l : List Nat} {p q : Nat → Bool} (h : ∀ x ∈ l, p x = true → q x = true) : (l.filter p).Sublist (l.filter q) := by
  have : l.filter p = (l.filter q).filter p := by
    rw [List.filter_filter]
    apply List.filter_congr
    intro x hx
    by_cases g : p x = true
    · rw [g, h x hx g]
      rfl
    · simp only [Bool.not_eq_true] at g
      rw [g]
      rfl
  rw [this]
  exact List.filter_sublist
theorem sDeal_go {m : Int} {t : Nat} : (sDeal T m Y t).1 = (dGo T m Y ((sRow Y (sN T)).filter (sWk T Y t)) 0).isSome := dAll_go _ _ _
theorem sDeal_sub {m : Int} {t u : Nat} (hk : ∀ s, 0 ≤ Y.2.2 s) (h : ∀ x ∈ sRow Y (sN T), sWk T Y u x = true → sWk T Y t x = true) (ht : (sDeal T m Y t).1 = true) : (sDeal T m Y u).1 = true := by
  rw [sDeal_go] at ht ⊢
  obtain ⟨e', he⟩ := Option.isSome_iff_exists.mp ht
  obtain ⟨e, h1, -⟩ := dGo_sub (m := m) hk (filter_sub h) 0 e' (by omega) he
  rw [h1]
  rfl
def sSuf (T : Nat → Int) (Y : qY) (t w : Int) (l : List Nat) : Prop := ∀ s ∈ l, t ≤ Y.2.1 s → Y.2.1 s < t + w → (sDeal T (-1) Y (Y.2.1 s).toNat).1 = true
theorem max_in {f : Nat → Int} : ∀ (l : List Nat), l ≠ [] → ∃ a ∈ l, ∀ b ∈ l, f b ≤ f a
  | [], h => absurd rfl h
  | [a], _ => ⟨a, List.mem_cons_self, fun b hb => by
    rcases List.mem_cons.mp hb with q | q
    · rw [q]
      exact Int.le_refl _
    · exact absurd q List.not_mem_nil⟩
  | a :: b :: l, _ => by
    obtain ⟨c, hc, h⟩ := max_in (f := f) (b :: l) (by simp)
    rcases Int.lt_or_le (f c) (f a) with q | q
    · refine ⟨a, List.mem_cons_self, fun d hd => ?_⟩
      rcases List.mem_cons.mp hd with z | z
      · rw [z]
        exact Int.le_refl _
      · have := h d z
        omega
    · refine ⟨c, List.mem_cons_of_mem _ hc, fun d hd => ?_⟩
      rcases List.mem_cons.mp hd with z | z
      · rw [z]
        exact q
      · exact h d z
theorem sSuf_iff (hT : bT T) (hb : bY T lev Y) {s : Nat} (hs : s < sN T) (hk : 0 < Y.2.2 s) : sSuf T Y (Y.2.1 s) (sWork T s (Y.2.2 s)) (sRow Y (sN T)) ↔ ∀ u : Nat, Y.2.1 s ≤ u ∧ (u : Int) < Y.2.1 s + sWork T s (Y.2.2 s) → (sDeal T (-1) Y u).1 = true := by
  constructor
  · intro h u hu
    have hrow : ∀ x, x ∈ sRow Y (sN T) ↔ x < sN T ∧ 0 < Y.2.2 x := fun x => oL_mem _ _
    have hm : s ∈ (sRow Y (sN T)).filter (sWk T Y u) := List.mem_filter.mpr ⟨(hrow s).mpr ⟨hs, hk⟩, decide_eq_true hu⟩
    obtain ⟨a, ha, hmax⟩ := max_in (f := Y.2.1) ((sRow Y (sN T)).filter (sWk T Y u)) (fun e => by rw [e] at hm; exact absurd hm List.not_mem_nil)
    obtain ⟨a1, a2⟩ := List.mem_filter.mp ha
    have a3 := of_decide_eq_true a2
    have b9 := bT_n hT
    have oa := bY_one hT hb (s := a) (by have := ((hrow a).mp a1).1; unfold sN at this; omega) ((hrow a).mp a1).2
    have sa := hmax s hm
    have hd := h a a1 sa (by omega)
    refine sDeal_sub (fun s => (hb.1 s).1) (fun x hx wx => ?_) hd
    have x1 := hmax x (List.mem_filter.mpr ⟨hx, wx⟩)
    have x2 := of_decide_eq_true wx
    exact decide_eq_true ⟨by omega, by omega⟩
  · intro h x hx h1 h2
    have hrow := (oL_mem (fun s => 0 < Y.2.2 s) Y.1).mp hx
    have b9 := bT_n hT
    have ox := bY_one hT hb (s := x) (by have := hrow.1; unfold sN at this; omega) hrow.2
    exact h _ ⟨by omega, by omega⟩
theorem suffices_L (hb : bY T lev Y) {t w : Int} (ht : 0 ≤ t ∧ t ≤ 335) (hw : 1 ≤ w ∧ t + w ≤ 336) : ∀ (rest : List Nat) (n p : Nat) (S : qSto), (sRow Y (sN T)).drop p = rest → rest.length < n → p ≤ 100 → iT S T lev → pY S T Y → S 6 10 = (sRow Y (sN T)).length → rL S (sRow Y (sN T)) → ∃ r S', Dealer_suffices_L27 n t w 1 (p : Int) S = some (r, S') ∧ fO 45 S S' ∧ (r = 0 ∨ r = 1) ∧ (r = 1 ↔ sSuf T Y t w rest)
  | [], n + 1, p, S, hd, _, hp, hI, hpY, h6, hr => by
    have hple := List.drop_eq_nil_iff.mp hd
    have hl := sRow_len (T := T) (Y := Y) hI.1
    rw [Dealer_suffices_L27]
    simp (disch := omega) only [qk_r, h6, if_pos (show ((sRow Y (sN T)).length : Int) ≤ (p : Int) by omega)]
    exact ⟨1, S, rfl, fun c _ => rfl, Or.inr rfl, fun _ s hs => absurd hs List.not_mem_nil, fun _ => rfl⟩
  | s :: rest, n + 1, p, S, hd, hn, hp, hI, hpY, h6, hr => by
    obtain ⟨eg, hplt, hs, hk, hd2⟩ := sRow_at (T := T) (Y := Y) hI.1 hd
    have b9 := bT_n hI.1
    have hl := sRow_len (T := T) (Y := Y) hI.1
    have e44 := hr p s eg
    have o := bY_one hI.1 hb hs hk
    obtain ⟨p1, p2, p3, p4⟩ := hpY.2 s hs hk
    have f1 : (((p + 1 : Nat)) : Int) = (p : Int) + 1 := by omega
    simp only [List.length_cons] at hn
    have skip : ¬ (t ≤ Y.2.1 s ∧ Y.2.1 s < t + w) → (sSuf T Y t w (s :: rest) ↔ sSuf T Y t w rest) := fun q => by
      constructor
      · exact fun h x hx => h x (List.mem_cons_of_mem _ hx)
      · intro h x hx h1 h2
        rcases List.mem_cons.mp hx with z | z
        · rw [z] at h1 h2
          exact absurd ⟨h1, h2⟩ q
        · exact h x z h1 h2
    rw [Dealer_suffices_L27]
    simp (disch := omega) only [qk_r, qk_ix, h6, if_neg (show ¬ ((sRow Y (sN T)).length : Int) ≤ (p : Int) by omega), if_neg (show ¬ (1 : Int) = 0 by omega), Int.toNat_natCast, e44, p3]
    by_cases g1 : Y.2.1 s < t
    · simp only [if_pos g1, ob_some]
      obtain ⟨r, S', t1, t2, t3, t4⟩ := suffices_L hb ht hw rest n (p + 1) S hd2 (by omega) (by omega) hI hpY h6 hr
      rw [f1] at t1
      exact ⟨r, S', t1, t2, t3, t4.trans (skip (by omega)).symm⟩
    · by_cases g2 : t + w ≤ Y.2.1 s
      · simp only [if_neg g1, if_pos g2, ob_some]
        obtain ⟨r, S', t1, t2, t3, t4⟩ := suffices_L hb ht hw rest n (p + 1) S hd2 (by omega) (by omega) hI hpY h6 hr
        rw [f1] at t1
        exact ⟨r, S', t1, t2, t3, t4.trans (skip (by omega)).symm⟩
      · have ft : (((Y.2.1 s).toNat : Nat) : Int) = Y.2.1 s := by omega
        obtain ⟨S1, u1, u2, u3⟩ := Dealer_deal_s (m := -1) ⟨by omega, by omega⟩ hb (t := (Y.2.1 s).toNat) (by omega) hI hpY h6 hr
        rw [ft] at u1
        simp only [if_neg g1, if_neg g2, u1, ob_some, ite01_r, ite01_e]
        by_cases q : (sDeal T (-1) Y (Y.2.1 s).toNat).1 = true
        · simp only [if_pos q, ob_some]
          obtain ⟨r, S', t1, t2, t3, t4⟩ := suffices_L hb ht hw rest n (p + 1) S1 hd2 (by omega) (by omega) (iT_off hI (fun c hc => u2 c (by omega))) (pY_off hpY (fun c hc => u2 c (by omega))) (by rw [u2 6 (by omega)]; exact h6) (by unfold rL; rw [u2 44 (by omega)]; exact hr)
          rw [f1] at t1
          refine ⟨r, S', t1, fun c hc => (t2 c hc).trans (u2 c hc), t3, t4.trans ⟨fun h x hx h1 h2 => ?_, fun h x hx => h x (List.mem_cons_of_mem _ hx)⟩⟩
          rcases List.mem_cons.mp hx with z | z
          · rw [z]
            exact q
          · exact h x z h1 h2
        · simp only [if_neg q, ob_some]
          have e0 : Dealer_suffices_L27 n t w 0 ((p : Int) + 1) S1 = some (0, S1) := by
            obtain ⟨n, rfl⟩ : ∃ k, n = k + 1 := ⟨n - 1, by omega⟩
            have h61 : S1 6 10 = (sRow Y (sN T)).length := by rw [u2 6 (by omega)]; exact h6
            rw [Dealer_suffices_L27, h61, qk_r (by omega) (by omega), qk_r (by omega) (by omega), qk_r (by omega) (by omega), if_pos rfl]
            split <;> rfl
          refine ⟨0, S1, e0, u2, Or.inl rfl, fun z => absurd z (by omega), fun h => ?_⟩
          exact absurd (h s List.mem_cons_self (by omega) (by omega)) q
end PQ
