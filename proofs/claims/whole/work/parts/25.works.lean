/-! lawful stays: no two crowd, cranes can be dealt in every slot -/
def sLast (T : Nat → Int) (Y : qY) (s : Nat) : Int := Y.1 s + sCon T s 0 - 1
def sCrowd (T lev : Nat → Int) (Y : qY) (a b : Nat) : Prop := (Y.2.1 a < sLv T lev Y b ∧ Y.2.1 b < sLv T lev Y a) ∧ (Y.1 a - sLast T Y b ≤ T 1 ∧ Y.1 b - sLast T Y a ≤ T 1)
def wP (T lev : Nat → Int) (Y : qY) : Prop := ∀ a b : Nat, a < sN T → b < sN T → a ≠ b → 0 < Y.2.2 a → 0 < Y.2.2 b → ¬ sCrowd T lev Y a b
def wD (T : Nat → Int) (Y : qY) : Prop := ∀ t : Nat, t < 336 → (sDeal T (-1) Y t).1 = true
/-- each lies at the quay with its whole length -/
def wF (T : Nat → Int) (Y : qY) : Prop := ∀ a : Nat, a < sN T → 0 < Y.2.2 a → Y.1 a + sCon T a 0 ≤ T 0
def wY (T lev : Nat → Int) (Y : qY) : Prop := wP T lev Y ∧ wD T Y ∧ wF T Y
/-- the cells that the class' queries may change -/
def fC (S S' : qSto) : Prop := ∀ c, ¬ (c = 6 ∨ c = 8 ∨ c = 9 ∨ (37 ≤ c ∧ c ≤ 46)) → S' c = S c
/-- the cells that the reference's queries may change -/
def fM (S S' : qSto) : Prop := (∀ c, ¬ ((78 ≤ c ∧ c ≤ 84) ∨ c = 70) → S' c = S c) ∧ ∀ i, i ≠ 27 → i ≠ 28 → S' 70 i = S 70 i
theorem fC_rfl {S : qSto} : fC S S := fun _ _ => rfl
theorem fC_tr {S S' S2 : qSto} (h1 : fC S S') (h2 : fC S' S2) : fC S S2 := fun c a => (h2 c a).trans (h1 c a)
theorem fM_rfl {S : qSto} : fM S S := ⟨fun _ _ => rfl, fun _ _ _ => rfl⟩
theorem fM_tr {S S' S2 : qSto} (h1 : fM S S') (h2 : fM S' S2) : fM S S2 := ⟨fun c a => (h2.1 c a).trans (h1.1 c a), fun i a b => (h2.2 i a b).trans (h1.2 i a b)⟩
theorem fR_C {S S' : qSto} (h : fR S S') : fC S S' := fun c hc => h.1 c (by omega) (by omega)
theorem fO45_C {S S' : qSto} (h : fO 45 S S') : fC S S' := fun c hc => h c (by omega)
theorem fO83_M {S S' : qSto} (h : fO 83 S S') : fM S S' := ⟨fun c hc => h c (by omega), fun i _ _ => by rw [h 70 (by omega)]⟩
theorem sm_succ (f : Nat → Int) (n : Nat) : sm f (n + 1) = sm f n + f n := rfl
section PX
variable {T lev : Nat → Int} {Y : qY}
theorem fC_iT {S S' : qSto} (h : iT S T lev) (f : fC S S') : iT S' T lev := iT_off h (fun c hc => f c (by omega))
theorem fC_mY {S S' : qSto} (h : mY S T lev Y) (f : fC S S') : mY S' T lev Y := mY_off h (fun c hc => f c (by omega))
theorem fM_iT {S S' : qSto} (h : iT S T lev) (f : fM S S') : iT S' T lev := iT_off h (fun c hc => f.1 c (by omega))
theorem fM_cY {S S' : qSto} (h : cY S T lev Y) (f : fM S S') : cY S' T lev Y := cY_off h (fun c hc => f.1 c (by omega))
/-- both together: what a query leaves -/
theorem iA_q {S S1 S2 : qSto} (h : iA S T lev Y) (f1 : fC S S1) (c1 : cY S1 T lev Y) (f2 : fM S1 S2) (m2 : mY S2 T lev Y) : iA S2 T lev Y :=
  ⟨fM_iT (fC_iT h.1 f1) f2, h.2.1, fM_cY c1 f2, m2⟩
theorem tie_ly (hT : bT T) (hb : bY T lev Y) (hw : wP T lev Y) (t : Nat) : nTie (sLyP T lev Y t) Y.1 (sN T) := by
  intro a b ha hbn pa pb e
  rcases Nat.decEq a b with q | q
  · exfalso
    have ca := bT_con hT (s := a) (by unfold sN at ha; omega)
    have cb := bT_con hT (s := b) (by unfold sN at hbn; omega)
    have b1 := hT.2.1
    apply hw a b ha hbn q pa.1 pb.1
    unfold sCrowd sLv sLast
    obtain ⟨a1, a2, a3⟩ := pa
    obtain ⟨b1, b2, b3⟩ := pb
    refine ⟨⟨by omega, by omega⟩, ⟨by omega, by omega⟩⟩
  · exact q
theorem at_ly (hT : bT T) (hb : bY T lev Y) {t s : Nat} (hs : s < sN T) (h : sAtP T Y t s) : sLyP T lev Y t s := by
  have o := bY_one hT hb (s := s) (by unfold sN at hs; omega) h.1
  exact ⟨h.1, h.2.1, by have := h.2.2; omega⟩
theorem tie_at (hT : bT T) (hb : bY T lev Y) (hw : wP T lev Y) (t : Nat) : nTie (sAtP T Y t) Y.1 (sN T) := fun a b ha hbn pa pb e => tie_ly hT hb hw t a b ha hbn (at_ly hT hb ha pa) (at_ly hT hb hbn pb) e
theorem dTak_rng {m x : Int} {s : Nat} (hs : s < 14) : ∀ (j c : Nat) (w : Int) (g : Nat → Int), (∀ i, -1 ≤ g i ∧ g i < 14) → ∀ i, -1 ≤ dTak T m x s j c w g i ∧ dTak T m x s j c w g i < 14
  | 0, _, _, _, h => h
  | j + 1, c, w, g, h => by
    rw [dTak]
    split
    · exact h
    · split
      · refine dTak_rng hs j (c + 1) (w - 1) _ (fun i => ?_)
        split
        · omega
        · exact h i
      · exact dTak_rng hs j (c + 1) w g h
theorem dAll_rng {m : Int} : ∀ (l : List Nat) (c : Nat) (g : Nat → Int), (∀ s ∈ l, s < 14) → (∀ i, -1 ≤ g i ∧ g i < 14) → ∀ i, -1 ≤ (dAll T m Y l c g).2 i ∧ (dAll T m Y l c g).2 i < 14
  | [], _, _, _, h => h
  | s :: l, c, g, hl, h => by
    have k := dTak_rng (T := T) (m := m) (x := Y.1 s) (hl s List.mem_cons_self) (sC T - c) c (Y.2.2 s) g h
    rw [dAll]
    split
    · exact k
    · exact dAll_rng l _ _ (fun s hs => hl s (List.mem_cons_of_mem _ hs)) k
theorem sDeal_rng (hT : bT T) {m : Int} {t : Nat} (i : Nat) : -1 ≤ (sDeal T m Y t).2 i ∧ (sDeal T m Y t).2 i < 14 := by
  have b9 := bT_n hT
  unfold sDeal
  refine dAll_rng _ _ _ (fun s hs => ?_) (fun i => ⟨by omega, by omega⟩) i
  have := ((oL_mem _ _).mp (List.mem_filter.mp hs).1).1
  unfold sN at this
  omega
/-- no crane is busy: nothing is dealt -/
theorem sDeal_idle (hT : bT T) (hb : bY T lev Y) {m : Int} {t : Nat} (h : sBusy T Y t ≤ 0) : sDeal T m Y t = (true, fun _ => -1) := by
  have e : oL (sAtP T Y t) Y.1 (sN T) = [] := by
    cases z : oL (sAtP T Y t) Y.1 (sN T) with
    | nil => rfl
    | cons s l =>
      exfalso
      have hs : s ∈ oL (sAtP T Y t) Y.1 (sN T) := by rw [z]; exact List.mem_cons_self
      obtain ⟨h1, h2⟩ := (oL_mem _ _).mp hs
      have key : ∀ n : Nat, n ≤ sN T → s < n → 0 < sm (fun s => if 0 < Y.2.2 s ∧ Y.2.1 s ≤ t ∧ (t : Int) < Y.2.1 s + sWork T s (Y.2.2 s) then Y.2.2 s else 0) n := by
        intro n
        induction n with
        | zero => intro _ q; omega
        | succ n ih =>
          intro hn q
          rw [sm]
          have nn : ∀ k : Nat, 0 ≤ (if 0 < Y.2.2 k ∧ Y.2.1 k ≤ t ∧ (t : Int) < Y.2.1 k + sWork T k (Y.2.2 k) then Y.2.2 k else 0) := fun k => by
            have := (hb.1 k).1
            split <;> omega
          have n0 : ∀ k : Nat, 0 ≤ sm (fun s => if 0 < Y.2.2 s ∧ Y.2.1 s ≤ t ∧ (t : Int) < Y.2.1 s + sWork T s (Y.2.2 s) then Y.2.2 s else 0) k := fun k => by
            induction k with
            | zero => exact Int.le_refl 0
            | succ k ihk =>
              rw [sm]
              have := nn k
              omega
          rcases Nat.lt_or_ge s n with w | w
          · have i1 := ih (by omega) w
            have i2 := nn n
            omega
          · have : n = s := by omega
            subst this
            have i1 := n0 n
            rw [if_pos h2]
            have := h2.1
            omega
      have := key (sN T) (Nat.le_refl _) h1
      unfold sBusy at h
      omega
  unfold sDeal
  rw [sRow_wk, e]
  rfl
theorem p_works {S : qSto} (h : iA S T lev Y) (hw : wY T lev Y) {a b : Int} (ha : qR a) (hb : qR b) : ∃ r S1 S2, C_works a b S = some (r, S1) ∧ M_works a b S1 = some (r, S2) ∧ fC S S1 ∧ fM S1 S2 ∧ iA S2 T lev Y := by
  obtain ⟨hI, hB, hc, hm⟩ := id h
  have b7 := hI.1.2.2.2.2.2.2.2.1
  simp only [C_works, C_isCrane_s hI ha, C_isSlot_s hb, ob_some, ite01_r, ite01_e]
  by_cases g : 0 ≤ a ∧ a < T 7
  · by_cases g2 : 0 ≤ b ∧ b < 336
    · obtain ⟨S1, t1, t2, t3, t4⟩ := lineUp_s hB hI (cY_p hc)
      have fb : ((b.toNat : Nat) : Int) = b := by omega
      have hI1 := fC_iT hI (fR_C t2)
      have hc1 : cY S1 T lev Y := cY_off hc (fun c hc => t2.1 c (by omega) (by omega))
      obtain ⟨S2, u1, u2, u3⟩ := Dealer_deal_s (m := -1) ⟨by omega, by omega⟩ hB (t := b.toNat) (by omega) hI1 (cY_p hc1) t3 t4
      rw [fb] at u1
      have hI2 := fC_iT hI1 (fO45_C u2)
      have hc2 : cY S2 T lev Y := cY_off hc1 (fun c hc => u2 c (by omega))
      have hm2 := fC_mY (fC_mY hm (fR_C t2)) (fO45_C u2)
      obtain ⟨S3, v1, v2, v3⟩ := M_deals_s (m := -1) ⟨by omega, by omega⟩ hB (t := b.toNat) (by omega) (tie_at hI.1 hB hw.1 b.toNat) hI2 hm2
      rw [fb] at v1
      have hd := hw.2.1 b.toNat (by omega)
      have rg := sDeal_rng (T := T) (Y := Y) hI.1 (m := -1) (t := b.toNat) a.toNat
      have u4 := u3 a.toNat (by omega)
      have v4 := v3 a.toNat (by omega)
      simp (disch := omega) only [if_pos g, if_pos g2, t1, ob_some, u1, qk_ix, qk_r, u4]
      have fin : ∀ r, M_works a b S2 = some (r, S3) → fC S S2 ∧ fM S2 S3 ∧ iA S3 T lev Y := fun r _ => by
        have q1 := fC_tr (fR_C t2) (fO45_C u2)
        exact ⟨q1, fO83_M v2, iA_q h q1 hc2 (fO83_M v2) (mY_off hm2 (fun c hc => v2 c (by omega)))⟩
      by_cases q : (sDeal T (-1) Y b.toNat).2 a.toNat = -1
      · rw [if_pos q]
        have e : M_works a b S2 = some (-2, S3) := by
          simp only [M_works, M_isCrane_s hI2 ha, M_isSlot_s hb, ob_some, ite01_r, ite01_e]
          simp only [if_pos g, if_pos g2, M_workedOn, v1]
          simp (disch := omega) only [if_pos hd, qk_r, if_neg (show ¬ (1 : Int) = 0 by omega), qk_ix, v4, if_pos q, ob_some]
        exact ⟨_, _, _, rfl, e, fin _ e⟩
      · rw [if_neg q]
        have e : M_works a b S2 = some ((sDeal T (-1) Y b.toNat).2 a.toNat, S3) := by
          simp only [M_works, M_isCrane_s hI2 ha, M_isSlot_s hb, ob_some, ite01_r, ite01_e]
          simp only [if_pos g, if_pos g2, M_workedOn, v1]
          simp (disch := omega) only [if_pos hd, qk_r, if_neg (show ¬ (1 : Int) = 0 by omega), qk_ix, v4, if_neg q, ob_some]
        exact ⟨_, _, _, rfl, e, fin _ e⟩
    · refine ⟨-1, S, S, ?_, ?_, fC_rfl, fM_rfl, h⟩
      · simp only [if_pos g, if_neg g2]
      · simp only [M_works, M_isCrane_s hI ha, M_isSlot_s hb, ob_some, ite01_r, ite01_e]
        simp only [if_pos g, if_neg g2]
  · refine ⟨-1, S, S, ?_, ?_, fC_rfl, fM_rfl, h⟩
    · simp only [if_neg g]
    · simp only [M_works, M_isCrane_s hI ha, ob_some, ite01_r, ite01_e]
      simp only [if_neg g]
/-! hours, without: slot by slot -/
theorem C_hours_L (hB : bY T lev Y) {a : Nat} (ha : a < 8) : ∀ (j n i : Nat) (x : Int) (S : qSto), i + j = 336 → j < n → iT S T lev → cY S T lev Y → S 6 10 = (sRow Y (sN T)).length → rL S (sRow Y (sN T)) → ∃ S', C_hours_L21 n (a : Int) x (i : Int) S = some (x + (sm (fun t => if (sDeal T (-1) Y t).2 a = -1 then 0 else 1) 336 - sm (fun t => if (sDeal T (-1) Y t).2 a = -1 then 0 else 1) i), S') ∧ fO 45 S S'
  | 0, n + 1, i, x, S, e, _, hI, hc, h6, hr => by
    have : i = 336 := by omega
    subst this
    refine ⟨S, ?_, fun c _ => rfl⟩
    rw [C_hours_L21, Int.sub_self, Int.add_zero]
    rfl
  | j + 1, n + 1, i, x, S, e, hn, hI, hc, h6, hr => by
    have bb := sBusy_b hI.1 hB i
    have e43 := hc.2.2.1 i (by omega)
    have f1 : (((i + 1 : Nat)) : Int) = (i : Int) + 1 := by omega
    rw [C_hours_L21]
    simp (disch := omega) only [qk_r, qk_ix, if_neg (show ¬ (336 : Int) ≤ (i : Int) by omega), Int.toNat_natCast, e43]
    by_cases g : sBusy T Y i ≤ 0
    · simp only [if_pos g, ob_some]
      obtain ⟨S', t1, t2⟩ := C_hours_L hB ha j n (i + 1) x S (by omega) (by omega) hI hc h6 hr
      refine ⟨S', ?_, t2⟩
      rw [f1] at t1
      rw [t1, sm_succ _ i, sDeal_idle hI.1 hB g]
      simp
    · obtain ⟨S1, u1, u2, u3⟩ := Dealer_deal_s (m := -1) ⟨by omega, by omega⟩ hB (t := i) (by omega) hI (cY_p hc) h6 hr
      have u4 := u3 a ha
      have rg := sDeal_rng (T := T) (Y := Y) hI.1 (m := -1) (t := i) a
      simp (disch := omega) only [if_neg g, ob_some, u1, qk_ix, qk_r, Int.toNat_natCast, u4]
      by_cases q : (sDeal T (-1) Y i).2 a = -1
      · simp only [if_pos q, ob_some]
        obtain ⟨S', t1, t2⟩ := C_hours_L hB ha j n (i + 1) (x + 0) S1 (by omega) (by omega) (iT_off hI (fun c hc => u2 c (by omega))) (cY_off hc (fun c hc => u2 c (by omega))) (by rw [u2 6 (by omega)]; exact h6) (by unfold rL; rw [u2 44 (by omega)]; exact hr)
        refine ⟨S', ?_, fun c hc => (t2 c hc).trans (u2 c hc)⟩
        rw [f1] at t1
        rw [t1, sm_succ _ i, if_pos q]
        simp
      · simp only [if_neg q, ob_some]
        obtain ⟨S', t1, t2⟩ := C_hours_L hB ha j n (i + 1) (x + 1) S1 (by omega) (by omega) (iT_off hI (fun c hc => u2 c (by omega))) (cY_off hc (fun c hc => u2 c (by omega))) (by rw [u2 6 (by omega)]; exact h6) (by unfold rL; rw [u2 44 (by omega)]; exact hr)
        refine ⟨S', ?_, fun c hc => (t2 c hc).trans (u2 c hc)⟩
        rw [f1] at t1
        rw [t1, sm_succ _ i, if_neg q]
        congr 2
        omega
theorem M_hours_L (hB : bY T lev Y) (hw : wY T lev Y) {a : Nat} (ha : a < 8) : ∀ (j n i : Nat) (x : Int) (S : qSto), i + j = 336 → j < n → iT S T lev → mY S T lev Y → ∃ S', M_hours_L14 n (a : Int) x (i : Int) S = some (x + (sm (fun t => if (sDeal T (-1) Y t).2 a = -1 then 0 else 1) 336 - sm (fun t => if (sDeal T (-1) Y t).2 a = -1 then 0 else 1) i), S') ∧ fO 83 S S'
  | 0, n + 1, i, x, S, e, _, hI, hm => by
    have : i = 336 := by omega
    subst this
    refine ⟨S, ?_, fun c _ => rfl⟩
    rw [M_hours_L14, Int.sub_self, Int.add_zero]
    rfl
  | j + 1, n + 1, i, x, S, e, hn, hI, hm => by
    have f1 : (((i + 1 : Nat)) : Int) = (i : Int) + 1 := by omega
    obtain ⟨S1, u1, u2, u3⟩ := M_deals_s (m := -1) ⟨by omega, by omega⟩ hB (t := i) (by omega) (tie_at hI.1 hB hw.1 i) hI hm
    have u4 := u3 a ha
    have rg := sDeal_rng (T := T) (Y := Y) hI.1 (m := -1) (t := i) a
    have hd := hw.2.1 i (by omega)
    rw [M_hours_L14]
    simp (disch := omega) only [qk_r, if_neg (show ¬ (336 : Int) ≤ (i : Int) by omega), M_workedOn, u1, ob_some, if_pos hd, if_neg (show ¬ (1 : Int) = 0 by omega), qk_ix, Int.toNat_natCast, u4]
    by_cases q : (sDeal T (-1) Y i).2 a = -1
    · simp (disch := omega) only [if_pos q, ob_some, qk_r, reduceIte]
      obtain ⟨S', t1, t2⟩ := M_hours_L hB hw ha j n (i + 1) x S1 (by omega) (by omega) (iT_off hI (fun c hc => u2 c (by omega))) (mY_off hm (fun c hc => u2 c (by omega)))
      refine ⟨S', ?_, fun c hc => (t2 c hc).trans (u2 c hc)⟩
      rw [f1] at t1
      rw [t1, sm_succ _ i, if_pos q]
      simp
    · simp (disch := omega) only [if_neg q, ob_some, qk_r, if_neg (show ¬ (sDeal T (-1) Y i).2 a = -2 by omega)]
      obtain ⟨S', t1, t2⟩ := M_hours_L hB hw ha j n (i + 1) (x + 1) S1 (by omega) (by omega) (iT_off hI (fun c hc => u2 c (by omega))) (mY_off hm (fun c hc => u2 c (by omega)))
      refine ⟨S', ?_, fun c hc => (t2 c hc).trans (u2 c hc)⟩
      rw [f1] at t1
      rw [t1, sm_succ _ i, if_neg q]
      congr 2
      omega
theorem p_hours {S : qSto} (h : iA S T lev Y) (hw : wY T lev Y) {a : Int} (ha : qR a) : ∃ r S1 S2, C_hours a S = some (r, S1) ∧ M_hours a S1 = some (r, S2) ∧ fC S S1 ∧ fM S1 S2 ∧ iA S2 T lev Y := by
  obtain ⟨hI, hB, hc, hm⟩ := id h
  have b7 := hI.1.2.2.2.2.2.2.2.1
  simp only [C_hours, C_isCrane_s hI ha, ob_some, ite01_r, ite01_e]
  by_cases g : 0 ≤ a ∧ a < T 7
  · have fa : ((a.toNat : Nat) : Int) = a := by omega
    obtain ⟨S1, t1, t2, t3, t4⟩ := lineUp_s hB hI (cY_p hc)
    have hI1 := fC_iT hI (fR_C t2)
    have hc1 : cY S1 T lev Y := cY_off hc (fun c hc => t2.1 c (by omega) (by omega))
    obtain ⟨S2, u1, u2⟩ := C_hours_L hB (a := a.toNat) (by omega) 336 qF 0 0 S1 (by omega) (by unfold qF; omega) hI1 hc1 t3 t4
    rw [fa] at u1
    have u1' : C_hours_L21 qF a 0 0 S1 = _ := u1
    have hI2 := fC_iT hI1 (fO45_C u2)
    have hc2 : cY S2 T lev Y := cY_off hc1 (fun c hc => u2 c (by omega))
    have hm2 := fC_mY (fC_mY hm (fR_C t2)) (fO45_C u2)
    obtain ⟨S3, v1, v2⟩ := M_hours_L hB hw (a := a.toNat) (by omega) 336 qF 0 0 S2 (by omega) (by unfold qF; omega) hI2 hm2
    rw [fa] at v1
    have v1' : M_hours_L14 qF a 0 0 S2 = _ := v1
    have q1 := fC_tr (fR_C t2) (fO45_C u2)
    refine ⟨0 + (sm (fun t => if (sDeal T (-1) Y t).2 a.toNat = -1 then 0 else 1) 336 - sm (fun t => if (sDeal T (-1) Y t).2 a.toNat = -1 then 0 else 1) 0), S2, S3, ?_, ?_, q1, fO83_M v2, iA_q h q1 hc2 (fO83_M v2) (mY_off hm2 (fun c hc => v2 c (by omega)))⟩
    · simp only [if_pos g, t1, ob_some]
      rw [u1']
      simp only [ob_some]
    · simp only [M_hours, M_isCrane_s hI2 ha, ob_some, ite01_r, ite01_e]
      simp only [if_pos g]
      rw [v1']
      simp only [ob_some]
  · refine ⟨-1, S, S, ?_, ?_, fC_rfl, fM_rfl, h⟩
    · simp only [if_neg g]
    · simp only [M_hours, M_isCrane_s hI ha, ob_some, ite01_r, ite01_e]
      simp only [if_neg g]
theorem C_without_L (hB : bY T lev Y) {a : Nat} (ha : a < 8) : ∀ (j n i : Nat) (x : Int) (S : qSto), i + j = 336 → j < n → iT S T lev → cY S T lev Y → S 6 10 = (sRow Y (sN T)).length → rL S (sRow Y (sN T)) → ∃ S', C_without_L21 n (a : Int) x (i : Int) S = some (x + (sm (fun t => if (sDeal T a Y t).1 = true then 0 else 1) 336 - sm (fun t => if (sDeal T a Y t).1 = true then 0 else 1) i), S') ∧ fO 45 S S'
  | 0, n + 1, i, x, S, e, _, hI, hc, h6, hr => by
    have : i = 336 := by omega
    subst this
    refine ⟨S, ?_, fun c _ => rfl⟩
    rw [C_without_L21, Int.sub_self, Int.add_zero]
    rfl
  | j + 1, n + 1, i, x, S, e, hn, hI, hc, h6, hr => by
    have bb := sBusy_b hI.1 hB i
    have e43 := hc.2.2.1 i (by omega)
    have f1 : (((i + 1 : Nat)) : Int) = (i : Int) + 1 := by omega
    rw [C_without_L21]
    simp (disch := omega) only [qk_r, qk_ix, if_neg (show ¬ (336 : Int) ≤ (i : Int) by omega), Int.toNat_natCast, e43]
    by_cases g : sBusy T Y i ≤ 0
    · simp only [if_pos g, ob_some]
      obtain ⟨S', t1, t2⟩ := C_without_L hB ha j n (i + 1) x S (by omega) (by omega) hI hc h6 hr
      refine ⟨S', ?_, t2⟩
      rw [f1] at t1
      rw [t1, sm_succ _ i, sDeal_idle hI.1 hB g]
      simp
    · obtain ⟨S1, u1, u2, u3⟩ := Dealer_deal_s (m := (a : Int)) ⟨by omega, by omega⟩ hB (t := i) (by omega) hI (cY_p hc) h6 hr
      simp (disch := omega) only [if_neg g, ob_some, u1, qk_ix, Int.toNat_natCast, ite01_r, ite01_e]
      by_cases q : (sDeal T a Y i).1 = true
      · simp only [if_pos q, ob_some]
        obtain ⟨S', t1, t2⟩ := C_without_L hB ha j n (i + 1) x S1 (by omega) (by omega) (iT_off hI (fun c hc => u2 c (by omega))) (cY_off hc (fun c hc => u2 c (by omega))) (by rw [u2 6 (by omega)]; exact h6) (by unfold rL; rw [u2 44 (by omega)]; exact hr)
        refine ⟨S', ?_, fun c hc => (t2 c hc).trans (u2 c hc)⟩
        rw [f1] at t1
        rw [t1, sm_succ _ i, if_pos q]
        simp
      · simp only [if_neg q, ob_some]
        obtain ⟨S', t1, t2⟩ := C_without_L hB ha j n (i + 1) (x + 1) S1 (by omega) (by omega) (iT_off hI (fun c hc => u2 c (by omega))) (cY_off hc (fun c hc => u2 c (by omega))) (by rw [u2 6 (by omega)]; exact h6) (by unfold rL; rw [u2 44 (by omega)]; exact hr)
        refine ⟨S', ?_, fun c hc => (t2 c hc).trans (u2 c hc)⟩
        rw [f1] at t1
        rw [t1, sm_succ _ i, if_neg q]
        congr 2
        omega
theorem M_without_L (hB : bY T lev Y) (hw : wY T lev Y) {a : Nat} (ha : a < 8) : ∀ (j n i : Nat) (x : Int) (S : qSto), i + j = 336 → j < n → iT S T lev → mY S T lev Y → ∃ S', M_without_L14 n (a : Int) x (i : Int) S = some (x + (sm (fun t => if (sDeal T a Y t).1 = true then 0 else 1) 336 - sm (fun t => if (sDeal T a Y t).1 = true then 0 else 1) i), S') ∧ fO 83 S S'
  | 0, n + 1, i, x, S, e, _, hI, hm => by
    have : i = 336 := by omega
    subst this
    refine ⟨S, ?_, fun c _ => rfl⟩
    rw [M_without_L14, Int.sub_self, Int.add_zero]
    rfl
  | j + 1, n + 1, i, x, S, e, hn, hI, hm => by
    have f1 : (((i + 1 : Nat)) : Int) = (i : Int) + 1 := by omega
    obtain ⟨S1, u1, u2, u3⟩ := M_deals_s (m := (a : Int)) ⟨by omega, by omega⟩ hB (t := i) (by omega) (tie_at hI.1 hB hw.1 i) hI hm
    rw [M_without_L14]
    simp (disch := omega) only [qk_r, if_neg (show ¬ (336 : Int) ≤ (i : Int) by omega), u1, ob_some, ite01_r, ite01_e]
    by_cases q : (sDeal T a Y i).1 = true
    · simp only [if_pos q, ob_some]
      obtain ⟨S', t1, t2⟩ := M_without_L hB hw ha j n (i + 1) x S1 (by omega) (by omega) (iT_off hI (fun c hc => u2 c (by omega))) (mY_off hm (fun c hc => u2 c (by omega)))
      refine ⟨S', ?_, fun c hc => (t2 c hc).trans (u2 c hc)⟩
      rw [f1] at t1
      rw [t1, sm_succ _ i, if_pos q]
      simp
    · simp only [if_neg q, ob_some]
      obtain ⟨S', t1, t2⟩ := M_without_L hB hw ha j n (i + 1) (x + 1) S1 (by omega) (by omega) (iT_off hI (fun c hc => u2 c (by omega))) (mY_off hm (fun c hc => u2 c (by omega)))
      refine ⟨S', ?_, fun c hc => (t2 c hc).trans (u2 c hc)⟩
      rw [f1] at t1
      rw [t1, sm_succ _ i, if_neg q]
      congr 2
      omega
theorem p_without {S : qSto} (h : iA S T lev Y) (hw : wY T lev Y) {a : Int} (ha : qR a) : ∃ r S1 S2, C_without a S = some (r, S1) ∧ M_without a S1 = some (r, S2) ∧ fC S S1 ∧ fM S1 S2 ∧ iA S2 T lev Y := by
  obtain ⟨hI, hB, hc, hm⟩ := id h
  have b7 := hI.1.2.2.2.2.2.2.2.1
  simp only [C_without, C_isCrane_s hI ha, ob_some, ite01_r, ite01_e]
  by_cases g : 0 ≤ a ∧ a < T 7
  · have fa : ((a.toNat : Nat) : Int) = a := by omega
    obtain ⟨S1, t1, t2, t3, t4⟩ := lineUp_s hB hI (cY_p hc)
    have hI1 := fC_iT hI (fR_C t2)
    have hc1 : cY S1 T lev Y := cY_off hc (fun c hc => t2.1 c (by omega) (by omega))
    obtain ⟨S2, u1, u2⟩ := C_without_L hB (a := a.toNat) (by omega) 336 qF 0 0 S1 (by omega) (by unfold qF; omega) hI1 hc1 t3 t4
    rw [fa] at u1
    have u1' : C_without_L21 qF a 0 0 S1 = _ := u1
    have hI2 := fC_iT hI1 (fO45_C u2)
    have hc2 : cY S2 T lev Y := cY_off hc1 (fun c hc => u2 c (by omega))
    have hm2 := fC_mY (fC_mY hm (fR_C t2)) (fO45_C u2)
    obtain ⟨S3, v1, v2⟩ := M_without_L hB hw (a := a.toNat) (by omega) 336 qF 0 0 S2 (by omega) (by unfold qF; omega) hI2 hm2
    rw [fa] at v1
    have v1' : M_without_L14 qF a 0 0 S2 = _ := v1
    have q1 := fC_tr (fR_C t2) (fO45_C u2)
    refine ⟨0 + (sm (fun t => if (sDeal T a Y t).1 = true then 0 else 1) 336 - sm (fun t => if (sDeal T a Y t).1 = true then 0 else 1) 0), S2, S3, ?_, ?_, q1, fO83_M v2, iA_q h q1 hc2 (fO83_M v2) (mY_off hm2 (fun c hc => v2 c (by omega)))⟩
    · simp only [if_pos g, t1, ob_some]
      rw [u1']
      simp only [ob_some]
    · simp only [M_without, M_isCrane_s hI2 ha, ob_some, ite01_r, ite01_e]
      simp only [if_pos g]
      rw [v1']
      simp only [ob_some]
  · refine ⟨-1, S, S, ?_, ?_, fC_rfl, fM_rfl, h⟩
    · simp only [if_neg g]
    · simp only [M_without, M_isCrane_s hI ha, ob_some, ite01_r, ite01_e]
      simp only [if_neg g]
end PX
