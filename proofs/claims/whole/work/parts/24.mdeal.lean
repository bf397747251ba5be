/-! the reference deals: the next at work, the next lying -/
theorem srt_uniq {f : Nat → Int} : ∀ (l1 l2 : List Nat), l1.Pairwise (oLt f) → l2.Pairwise (oLt f) → (∀ x, x ∈ l1 ↔ x ∈ l2) → l1 = l2
  | [], [], _, _, _ => rfl
  | [], b :: l, _, _, h => absurd ((h b).mpr List.mem_cons_self) List.not_mem_nil
  | a :: l, [], _, _, h => absurd ((h a).mp List.mem_cons_self) List.not_mem_nil
  | a :: l1, b :: l2, h1, h2, h => by
    obtain ⟨a1, a2⟩ := List.pairwise_cons.mp h1
    obtain ⟨b1, b2⟩ := List.pairwise_cons.mp h2
    have e : a = b := by
      rcases List.mem_cons.mp ((h a).mp List.mem_cons_self) with q | q
      · exact q
      · rcases List.mem_cons.mp ((h b).mpr List.mem_cons_self) with z | z
        · exact z.symm
        · exact absurd (b1 a q) (oLt_asym (a1 b z))
    subst e
    rw [srt_uniq l1 l2 a2 b2 (fun x => ?_)]
    constructor
    · intro hx
      rcases List.mem_cons.mp ((h x).mp (List.mem_cons_of_mem _ hx)) with q | q
      · rw [q] at hx
        exact absurd (a1 a hx) oLt_irr
      · exact q
    · intro hx
      rcases List.mem_cons.mp ((h x).mpr (List.mem_cons_of_mem _ hx)) with q | q
      · rw [q] at hx
        exact absurd (b1 a hx) oLt_irr
      · exact q
theorem oL_filter {P : Nat → Prop} {f : Nat → Int} {n : Nat} {q : Nat → Bool} {P' : Nat → Prop} (h : ∀ s, s < n → (P' s ↔ P s ∧ q s = true)) : (oL P f n).filter q = oL P' f n := by
  refine srt_uniq _ _ (List.Pairwise.filter _ (oL_sorted P f n)) (oL_sorted P' f n) (fun x => ?_)
  rw [List.mem_filter, oL_mem, oL_mem]
  constructor
  · rintro ⟨⟨h1, h2⟩, h3⟩
    exact ⟨h1, (h x h1).mpr ⟨h2, h3⟩⟩
  · rintro ⟨h1, h2⟩
    have := (h x h1).mp h2
    exact ⟨⟨h1, this.1⟩, this.2⟩
/-- no two of P lie at one metre -/
def nTie (P : Nat → Prop) (f : Nat → Int) (n : Nat) : Prop := ∀ a b : Nat, a < n → b < n → P a → P b → f a = f b → a = b
theorem oChain {P : Nat → Prop} {f : Nat → Int} {n s : Nat} {l1 l2 : List Nat} (hn : nTie P f n) (e : oL P f n = l1 ++ s :: l2) : sArg (fun x => P x ∧ f s < f x) f n = oHd l2 := by
  have hs := (oL_split e).1
  refine oNext_step e ?_
  have h := sArg_next (P := P) (B := fun x => f s < f x) (f := f) (n := n)
  rcases h with ⟨a, b⟩ | ⟨t, a, b, c, d, g⟩
  · refine Or.inl ⟨a, fun x hx px hlt => ?_⟩
    rcases hlt with q | q
    · exact b x hx px q
    · have := hn s x hs.1 hx hs.2 px q.1
      omega
  · refine Or.inr ⟨t, a, b, c, Or.inl d, fun x hx px hlt => ?_⟩
    rcases hlt with q | q
    · exact g x hx px q
    · have := hn s x hs.1 hx hs.2 px q.1
      omega
theorem oFirst {P : Nat → Prop} {f : Nat → Int} {n : Nat} (h0 : ∀ x, x < n → P x → -1 < f x) : sArg (fun x => P x ∧ -1 < f x) f n = oHd (oL P f n) := by
  refine oNext_head ?_
  have h := sArg_next (P := P) (B := fun x => -1 < f x) (f := f) (n := n)
  rcases h with ⟨a, b⟩ | ⟨t, a, b, c, d, g⟩
  · exact Or.inl ⟨a, fun x hx px _ => b x hx px (h0 x hx px)⟩
  · exact Or.inr ⟨t, a, b, c, trivial, fun x hx px _ => g x hx px (h0 x hx px)⟩
section PM
variable {T lev : Nat → Int} {Y : qY} {S : qSto}
abbrev sAtP (T : Nat → Int) (Y : qY) (t : Nat) (s : Nat) : Prop := 0 < Y.2.2 s ∧ Y.2.1 s ≤ t ∧ (t : Int) < Y.2.1 s + sWork T s (Y.2.2 s)
abbrev sLyP (T lev : Nat → Int) (Y : qY) (t : Nat) (s : Nat) : Prop := 0 < Y.2.2 s ∧ Y.2.1 s ≤ t ∧ (t : Int) < sLeave T lev s (Y.2.1 s) (Y.2.2 s)
theorem M_isLying_m (hI : iT S T lev) (hb : bY T lev Y) (hm : mY S T lev Y) {s t : Nat} (hs : (s : Int) < T 9) (ht : t < 20000) : M_isLying (s : Int) (t : Int) S = some (if sLyP T lev Y t s then 1 else 0, S) := by
  have b9 := bT_n hI.1
  simp only [M_isLying, M_stays_s hb hm hI.1 (s := s) (by omega), ob_some, ite01_r, ite01_e]
  by_cases g : 0 < Y.2.2 s
  · have o := bY_one hI.1 hb hs g
    obtain ⟨-, e3, -, e5⟩ := hm.2.1 s hs g
    simp (disch := omega) only [if_pos g, qk_ix, qk_r, Int.toNat_natCast, e3, e5]
    by_cases g1 : (t : Int) < Y.2.1 s
    · rw [if_pos g1, if_neg (by omega)]
    · rw [if_neg g1]
      by_cases g2 : sLeave T lev s (Y.2.1 s) (Y.2.2 s) ≤ t
      · rw [if_pos g2, if_neg (by omega)]
      · rw [if_neg g2, if_pos (by omega)]
  · simp only [if_neg g]
    rw [if_neg (fun q => g q.1)]
theorem M_nextAtWork_L (hI : iT S T lev) (hb : bY T lev Y) (hm : mY S T lev Y) {t : Nat} (ht : t < 20000) {b : Int} (hbb : qR b) : ∀ (j n i : Nat), (i : Int) + j = T 9 → j < n → M_nextAtWork_L5 n (t : Int) b (sArg (fun x => sAtP T Y t x ∧ b < Y.1 x) Y.1 i) (i : Int) S = some (sArg (fun x => sAtP T Y t x ∧ b < Y.1 x) Y.1 (sN T), S)
  | 0, n + 1, i, e, _ => by
    have b9 := bT_n hI.1
    have e1 := hI.2.2.1 9
    rw [M_nextAtWork_L5]
    simp (disch := omega) only [qk_r, e1, if_pos (show T 9 ≤ (i : Int) by omega)]
    unfold sN
    rw [show (T 9).toNat = i by omega]
  | j + 1, n + 1, i, e, hn => by
    obtain ⟨u1, u2⟩ := id hbb
    have b9 := bT_n hI.1
    have e1 := hI.2.2.1 9
    have ih := M_nextAtWork_L hI hb hm ht hbb j n (i + 1) (by omega) (by omega)
    have f1 : (((i + 1 : Nat)) : Int) = (i : Int) + 1 := by omega
    rw [f1, sArg] at ih
    by_cases g : sAtP T Y t i
    · have oi := bY_one hI.1 hb (s := i) (by omega) g.1
      obtain ⟨ei, -, -, -⟩ := hm.2.1 i (by omega) g.1
      by_cases c1 : b < Y.1 i
      · rw [cI_t (show sAtP T Y t i ∧ b < Y.1 i from ⟨g, c1⟩)] at ih
        rcases sArg_rng (fun x => sAtP T Y t x ∧ b < Y.1 x) Y.1 i with ea | ⟨s, ea, a1, a2⟩
        · rw [ea] at ih ⊢
          rw [M_nextAtWork_L5]
          simp (disch := omega) only [qk_r, qk_ix, e1, if_neg (show ¬ T 9 ≤ (i : Int) by omega), Int.toNat_natCast, M_isAtWork_s hI hb hm (s := i) (by omega) ht, ob_some, ite01_r, ite01_e, if_pos g, ei, if_pos c1, reduceIte]
          simp only [reduceIte] at ih
          exact ih
        · obtain ⟨eas, -, -, -⟩ := hm.2.1 s (by omega) a2.1.1
          have oss := bY_one hI.1 hb (s := s) (by omega) a2.1.1
          rw [ea] at ih ⊢
          rw [M_nextAtWork_L5]
          simp (disch := omega) only [qk_r, qk_ix, e1, if_neg (show ¬ T 9 ≤ (i : Int) by omega), if_neg (show ¬ (s : Int) = -1 by omega), Int.toNat_natCast, M_isAtWork_s hI hb hm (s := i) (by omega) ht, ob_some, ite01_r, ite01_e, if_pos g, ei, if_pos c1, eas]
          simp only [if_neg (show ¬ (s : Int) = -1 by omega), Int.toNat_natCast] at ih
          by_cases c0 : Y.1 s ≤ Y.1 i
          · simp only [if_pos c0, ob_some] at ih ⊢
            exact ih
          · simp only [if_neg c0, ob_some] at ih ⊢
            exact ih
      · rw [cI_f (fun q => c1 q.2)] at ih
        rw [M_nextAtWork_L5]
        simp (disch := omega) only [qk_r, qk_ix, e1, if_neg (show ¬ T 9 ≤ (i : Int) by omega), Int.toNat_natCast, M_isAtWork_s hI hb hm (s := i) (by omega) ht, ob_some, ite01_r, ite01_e, if_pos g, ei, if_neg c1]
        exact ih
    · rw [cI_f (fun q => g q.1)] at ih
      rw [M_nextAtWork_L5]
      simp (disch := omega) only [qk_r, qk_ix, e1, if_neg (show ¬ T 9 ≤ (i : Int) by omega), Int.toNat_natCast, M_isAtWork_s hI hb hm (s := i) (by omega) ht, ob_some, ite01_r, ite01_e, if_neg g]
      exact ih
theorem M_nextAtWork_s (hI : iT S T lev) (hb : bY T lev Y) (hm : mY S T lev Y) {t : Nat} (ht : t < 20000) {b : Int} (hbb : qR b) : M_nextAtWork (t : Int) b S = some (sArg (fun x => sAtP T Y t x ∧ b < Y.1 x) Y.1 (sN T), S) := by
  have b9 := bT_n hI.1
  have e := M_nextAtWork_L hI hb hm ht hbb (T 9).toNat qF 0 (by omega) (by unfold qF; omega)
  have e' : M_nextAtWork_L5 qF (t : Int) b (-1) 0 S = _ := e
  rw [M_nextAtWork, e']
  rfl
theorem M_nextLying_L (hI : iT S T lev) (hb : bY T lev Y) (hm : mY S T lev Y) {t : Nat} (ht : t < 20000) {b : Int} (hbb : qR b) : ∀ (j n i : Nat), (i : Int) + j = T 9 → j < n → M_nextLying_L5 n (t : Int) b (sArg (fun x => sLyP T lev Y t x ∧ b < Y.1 x) Y.1 i) (i : Int) S = some (sArg (fun x => sLyP T lev Y t x ∧ b < Y.1 x) Y.1 (sN T), S)
  | 0, n + 1, i, e, _ => by
    have b9 := bT_n hI.1
    have e1 := hI.2.2.1 9
    rw [M_nextLying_L5]
    simp (disch := omega) only [qk_r, e1, if_pos (show T 9 ≤ (i : Int) by omega)]
    unfold sN
    rw [show (T 9).toNat = i by omega]
  | j + 1, n + 1, i, e, hn => by
    obtain ⟨u1, u2⟩ := id hbb
    have b9 := bT_n hI.1
    have e1 := hI.2.2.1 9
    have ih := M_nextLying_L hI hb hm ht hbb j n (i + 1) (by omega) (by omega)
    have f1 : (((i + 1 : Nat)) : Int) = (i : Int) + 1 := by omega
    rw [f1, sArg] at ih
    by_cases g : sLyP T lev Y t i
    · have oi := bY_one hI.1 hb (s := i) (by omega) g.1
      obtain ⟨ei, -, -, -⟩ := hm.2.1 i (by omega) g.1
      by_cases c1 : b < Y.1 i
      · rw [cI_t (show sLyP T lev Y t i ∧ b < Y.1 i from ⟨g, c1⟩)] at ih
        rcases sArg_rng (fun x => sLyP T lev Y t x ∧ b < Y.1 x) Y.1 i with ea | ⟨s, ea, a1, a2⟩
        · rw [ea] at ih ⊢
          rw [M_nextLying_L5]
          simp (disch := omega) only [qk_r, qk_ix, e1, if_neg (show ¬ T 9 ≤ (i : Int) by omega), Int.toNat_natCast, M_isLying_m hI hb hm (s := i) (by omega) ht, ob_some, ite01_r, ite01_e, if_pos g, ei, if_pos c1, reduceIte]
          simp only [reduceIte] at ih
          exact ih
        · obtain ⟨eas, -, -, -⟩ := hm.2.1 s (by omega) a2.1.1
          have oss := bY_one hI.1 hb (s := s) (by omega) a2.1.1
          rw [ea] at ih ⊢
          rw [M_nextLying_L5]
          simp (disch := omega) only [qk_r, qk_ix, e1, if_neg (show ¬ T 9 ≤ (i : Int) by omega), if_neg (show ¬ (s : Int) = -1 by omega), Int.toNat_natCast, M_isLying_m hI hb hm (s := i) (by omega) ht, ob_some, ite01_r, ite01_e, if_pos g, ei, if_pos c1, eas]
          simp only [if_neg (show ¬ (s : Int) = -1 by omega), Int.toNat_natCast] at ih
          by_cases c0 : Y.1 s ≤ Y.1 i
          · simp only [if_pos c0, ob_some] at ih ⊢
            exact ih
          · simp only [if_neg c0, ob_some] at ih ⊢
            exact ih
      · rw [cI_f (fun q => c1 q.2)] at ih
        rw [M_nextLying_L5]
        simp (disch := omega) only [qk_r, qk_ix, e1, if_neg (show ¬ T 9 ≤ (i : Int) by omega), Int.toNat_natCast, M_isLying_m hI hb hm (s := i) (by omega) ht, ob_some, ite01_r, ite01_e, if_pos g, ei, if_neg c1]
        exact ih
    · rw [cI_f (fun q => g q.1)] at ih
      rw [M_nextLying_L5]
      simp (disch := omega) only [qk_r, qk_ix, e1, if_neg (show ¬ T 9 ≤ (i : Int) by omega), Int.toNat_natCast, M_isLying_m hI hb hm (s := i) (by omega) ht, ob_some, ite01_r, ite01_e, if_neg g]
      exact ih
theorem M_nextLying_s (hI : iT S T lev) (hb : bY T lev Y) (hm : mY S T lev Y) {t : Nat} (ht : t < 20000) {b : Int} (hbb : qR b) : M_nextLying (t : Int) b S = some (sArg (fun x => sLyP T lev Y t x ∧ b < Y.1 x) Y.1 (sN T), S) := by
  have b9 := bT_n hI.1
  have e := M_nextLying_L hI hb hm ht hbb (T 9).toNat qF 0 (by omega) (by unfold qF; omega)
  have e' : M_nextLying_L5 qF (t : Int) b (-1) 0 S = _ := e
  rw [M_nextLying, e']
  rfl
/-! takes -/
theorem M_reaches_s (hI : iT S T lev) {c s : Nat} (hc : (c : Int) < T 7) (hs : (s : Int) < T 9) {x : Int} (hx : S 78 s = x) (hr : -1000000 ≤ x ∧ x ≤ 1000000) : M_reaches (c : Int) (s : Int) S = some (if sReach T x s c then 1 else 0, S) := by
  have b7 := hI.1.2.2.2.2.2.2.2.1
  have b9 := bT_n hI.1
  have bc := hI.1.2.2.2.2.2.2.2.2.2.2.2.1 c hc
  have k := bT_con hI.1 hs
  have e1 := hI.2.2.1 (27 + c)
  have e2 := hI.2.2.1 (35 + c)
  have f1 : ((27 : Int) + (c : Int)).toNat = 27 + c := by omega
  have f2 : ((35 : Int) + (c : Int)).toNat = 35 + c := by omega
  have ec : M_of (s : Int) 0 S = some (sCon T s 0, S) := M_of_s hI hs (w := 0) (by omega)
  simp (disch := omega) only [M_reaches, qk_ix, qk_r, Int.toNat_natCast, f1, f2, e1, e2, ec, ob_some, hx]
  unfold sReach
  by_cases g : x + sCon T s 0 - 1 < T (27 + c)
  · rw [if_pos g, if_neg (by omega)]
  · rw [if_neg g]
    by_cases g2 : T (35 + c) < x
    · rw [if_pos g2, if_neg (by omega)]
    · rw [if_neg g2, if_pos (by omega)]
end PM
section PM2
variable {T lev : Nat → Int} {Y : qY}
theorem takes_L {m : Int} (hm : qR m) {s : Nat} (hs : (s : Int) < T 9) {x : Int} (hr : -1000000 ≤ x ∧ x ≤ 1000000) : ∀ (j n c : Nat) (w : Int) (S : qSto) (g : Nat → Int), c + j = sC T → j < n → 1 ≤ w → w ≤ 8 → iT S T lev → S 78 s = x → (∀ i, i < 8 → S 83 i = g i) → ∃ S', M_takesCranes_L11 n (s : Int) m w (c : Int) S = some (if 0 < (dOne T m x s j c w).2 then .inl S' else .inr (((dOne T m x s j c w).1 : Int), S')) ∧ fO 83 S S' ∧ ∀ i, i < 8 → S' 83 i = dTak T m x s j c w g i
  | 0, n + 1, c, w, S, g, e, _, h0, h8, hI, hx, hg => by
    have b7 := hI.1.2.2.2.2.2.2.2.1
    have e7 := hI.2.2.1 7
    have ec : T 7 ≤ (c : Int) := by unfold sC at e; omega
    refine ⟨S, ?_, fun c _ => rfl, fun i hi => by rw [dTak]; exact hg i hi⟩
    rw [M_takesCranes_L11]
    unfold sC at e
    rw [if_pos (show 0 < (dOne T m x s 0 c w).2 from (by omega : 0 < w))]
    simp (disch := omega) only [qk_r, e7, if_pos ec]
  | j + 1, n + 1, c, w, S, g, e, hn, h0, h8, hI, hx, hg => by
    have b7 := hI.1.2.2.2.2.2.2.2.1
    have b9 := bT_n hI.1
    have e7 := hI.2.2.1 7
    have hc : (c : Int) < T 7 := by unfold sC at e; omega
    obtain ⟨m1, m2⟩ := id hm
    have f1 : (((c + 1 : Nat)) : Int) = (c : Int) + 1 := by omega
    have er := M_reaches_s hI hc hs hx hr
    rw [M_takesCranes_L11, dTak]
    have q : ¬ w ≤ 0 := by omega
    simp (disch := omega) only [qk_r, qk_ix, e7, if_neg q, if_neg (show ¬ T 7 ≤ (c : Int) by omega), Int.toNat_natCast, er, ob_some, ite01_r, ite01_e]
    by_cases z : (c : Int) = m
    · have nz : ¬ ((c : Int) ≠ m ∧ sReach T x s c) := fun y => y.1 z
      simp only [if_pos z, if_neg nz]
      rw [dOne_n q nz]
      obtain ⟨S', t1, t2, t3⟩ := takes_L hm hs hr j n (c + 1) w S g (by omega) (by omega) h0 h8 hI hx hg
      rw [f1] at t1
      exact ⟨S', t1, t2, t3⟩
    · by_cases y : sReach T x s c
      · have yz : (c : Int) ≠ m ∧ sReach T x s c := ⟨z, y⟩
        simp only [if_neg z, if_pos y, if_pos yz]
        rw [dOne_y q yz]
        by_cases w1 : w - 1 = 0
        · simp only [if_pos w1]
          have ed : dOne T m x s j (c + 1) (w - 1) = (c + 1, w - 1) := by
            cases j with
            | zero => rfl
            | succ j => exact dOne_0 (by omega)
          have et : ∀ g', dTak T m x s j (c + 1) (w - 1) g' = g' := fun g' => by
            cases j with
            | zero => rfl
            | succ j => rw [dTak, if_pos (by omega)]
          rw [ed, et]
          refine ⟨qup S 83 c (s : Int), ?_, fun a ha => qup_off ha, fun i hi => ?_⟩
          · simp only [if_neg (show ¬ 0 < w - 1 by omega), f1]
          · rw [qup_on, hg i hi]
        · simp only [if_neg w1]
          obtain ⟨S', t1, t2, t3⟩ := takes_L hm hs hr j n (c + 1) (w - 1) (qup S 83 c (s : Int)) (fun i => if i = c then (s : Int) else g i) (by omega) (by omega) (by omega) (by omega) (iT_off hI (fun c hc => qup_off (by omega))) (by rw [qup_off (by omega)]; exact hx) (fun i hi => by
            rw [qup_on, hg i hi])
          rw [f1] at t1
          refine ⟨S', t1, fun a ha => ?_, t3⟩
          rw [t2 a ha, qup_off ha]
      · have nz : ¬ ((c : Int) ≠ m ∧ sReach T x s c) := fun u => y u.2
        simp only [if_neg z, if_neg y, if_neg nz]
        rw [dOne_n q nz]
        obtain ⟨S', t1, t2, t3⟩ := takes_L hm hs hr j n (c + 1) w S g (by omega) (by omega) h0 h8 hI hx hg
        rw [f1] at t1
        exact ⟨S', t1, t2, t3⟩
theorem M_deals_all {m : Int} (hm : qR m) (hb : bY T lev Y) {t : Nat} (ht : t < 20000) (hn : nTie (sAtP T Y t) Y.1 (sN T)) : ∀ (rest l1 : List Nat) (n c : Nat) (S : qSto) (g : Nat → Int), oL (sAtP T Y t) Y.1 (sN T) = l1 ++ rest → rest.length < n → c ≤ sC T → iT S T lev → mY S T lev Y → (∀ i, i < 8 → S 83 i = g i) → ∃ S', M_deals_L31 n (t : Int) m (c : Int) (oHd rest) S = some (if (dAll T m Y rest c g).1 = true then .inl S' else .inr (0, S')) ∧ fO 83 S S' ∧ ∀ i, i < 8 → S' 83 i = (dAll T m Y rest c g).2 i
  | [], l1, n + 1, c, S, g, hd, hl, hc, hI, hY, hg => by
    refine ⟨S, ?_, fun c _ => rfl, fun i hi => hg i hi⟩
    rw [M_deals_L31]
    simp only [oHd]
    rfl
  | s :: rest, l1, n + 1, c, S, g, hd, hl, hc, hI, hY, hg => by
    have b9 := bT_n hI.1
    have b7 := hI.1.2.2.2.2.2.2.2.1
    have hs := (oL_split hd).1
    have hs9 : (s : Int) < T 9 := by have := hs.1; unfold sN at this; omega
    have hk := hs.2.1
    have o := bY_one hI.1 hb hs9 hk
    obtain ⟨y1, y2, y3, y4⟩ := hY.2.1 s hs9 hk
    have y5 := hY.1 s (by omega)
    obtain ⟨S1, u1, u2, u3⟩ := takes_L hm hs9 (x := Y.1 s) ⟨by omega, by omega⟩ (sC T - c) qF c (Y.2.2 s) S g (by omega) (by unfold qF sC; omega) (by omega) (by omega) hI y1 hg
    have rg := dOne_rng (T := T) (m := m) (x := Y.1 s) (s := s) (sC T - c) c (Y.2.2 s) (by omega)
    rw [M_deals_L31]
    have eo : oHd (s :: rest) = (s : Int) := rfl
    rw [eo]
    simp (disch := omega) only [qk_r, qk_ix, if_neg (show ¬ (s : Int) = -1 by omega), M_takesCranes, Int.toNat_natCast, y5]
    rw [u1, dAll]
    by_cases g3 : 0 < (dOne T m (Y.1 s) s (sC T - c) c (Y.2.2 s)).2
    · simp only [if_pos g3, ob_some, Sum.elim_inl]
      exact ⟨S1, rfl, u2, u3⟩
    · have rb : sC T ≤ 8 := by unfold sC; omega
      have hI1 := iT_off hI (fun a ha => u2 a (by omega))
      have hY1 := mY_off hY (fun a ha => u2 a (by omega))
      have e78 : S1 78 s = Y.1 s := by rw [u2 78 (by omega)]; exact y1
      simp (disch := omega) only [if_neg g3, ob_some, Sum.elim_inr, qk_r, if_neg (show ¬ ((dOne T m (Y.1 s) s (sC T - c) c (Y.2.2 s)).1 : Int) = -1 by omega), e78, M_nextAtWork_s hI1 hb hY1 ht (b := Y.1 s) ⟨by omega, by omega⟩]
      rw [oChain hn hd]
      obtain ⟨S', t1, t2, t3⟩ := M_deals_all hm hb ht hn rest (l1 ++ [s]) n (dOne T m (Y.1 s) s (sC T - c) c (Y.2.2 s)).1 S1 _ (by rw [hd]; simp) (by simp at hl; omega) (by omega) hI1 hY1 u3
      exact ⟨S', t1, fun a ha => (t2 a ha).trans (u2 a ha), t3⟩
theorem fill83_L : ∀ (j n i : Nat) (S : qSto), i + j = 8 → j < n → (∀ k, k < i → S 83 k = -1) → ∃ S', M_deals_L2 n (i : Int) S = some S' ∧ fO 83 S S' ∧ ∀ k, k < 8 → S' 83 k = -1
  | 0, n + 1, i, S, e, _, h => by
    rw [M_deals_L2]
    simp (disch := omega) only [qk_r, if_pos (show (8 : Int) ≤ (i : Int) by omega)]
    exact ⟨S, rfl, fun c _ => rfl, fun k hk => h k (by omega)⟩
  | j + 1, n + 1, i, S, e, hn, h => by
    rw [M_deals_L2]
    simp (disch := omega) only [qk_r, qk_ix, if_neg (show ¬ (8 : Int) ≤ (i : Int) by omega), Int.toNat_natCast]
    obtain ⟨S', t1, t2, t3⟩ := fill83_L j n (i + 1) (qup S 83 i (-1)) (by omega) (by omega) (fun k hk => by
      rw [qup_on]
      split
      · rfl
      · exact h k (by omega))
    exact ⟨S', t1, fun c hc => (t2 c hc).trans (qup_off hc), t3⟩
theorem sRow_wk (t : Nat) : (sRow Y (sN T)).filter (sWk T Y t) = oL (sAtP T Y t) Y.1 (sN T) :=
  oL_filter (fun s _ => ⟨fun h => ⟨h.1, decide_eq_true ⟨h.2.1, h.2.2⟩⟩, fun h => ⟨h.1, (of_decide_eq_true h.2).1, (of_decide_eq_true h.2).2⟩⟩)
/-- the reference deals -/
theorem M_deals_s {S : qSto} {m : Int} (hm : qR m) (hb : bY T lev Y) {t : Nat} (ht : t < 20000) (hn : nTie (sAtP T Y t) Y.1 (sN T)) (hI : iT S T lev) (hY : mY S T lev Y) : ∃ S', M_deals (t : Int) m S = some (if (sDeal T m Y t).1 = true then 1 else 0, S') ∧ fO 83 S S' ∧ ∀ i, i < 8 → S' 83 i = (sDeal T m Y t).2 i := by
  obtain ⟨S1, u1, u2, u3⟩ := fill83_L 8 qF 0 S (by omega) (by unfold qF; omega) (fun k hk => absurd hk (by omega))
  have u1' : M_deals_L2 qF 0 S = some S1 := u1
  have hlen := oL_len (P := sAtP T Y t) (f := Y.1) (n := sN T)
  have b9 := bT_n hI.1
  have hI1 := iT_off hI (fun a ha => u2 a (by omega))
  have hY1 := mY_off hY (fun a ha => u2 a (by omega))
  obtain ⟨S', t1, t2, t3⟩ := M_deals_all hm hb ht hn (oL (sAtP T Y t) Y.1 (sN T)) [] qF 0 S1 (fun _ => -1) rfl (by unfold qF; unfold sN at hlen ⊢; omega) (by omega) hI1 hY1 u3
  have t1' : M_deals_L31 qF (t : Int) m 0 (oHd (oL (sAtP T Y t) Y.1 (sN T))) S1 = _ := t1
  refine ⟨S', ?_, fun c hc => (t2 c hc).trans (u2 c hc), ?_⟩
  · rw [M_deals, u1']
    simp only [ob_some]
    rw [M_nextAtWork_s hI1 hb hY1 ht (b := -1) ⟨by omega, by omega⟩]
    simp only [ob_some]
    rw [oFirst (fun x hx px => by
      have := bY_one hI.1 hb (s := x) (by unfold sN at hx; omega) px.1
      omega), t1']
    unfold sDeal
    rw [sRow_wk]
    by_cases q : (dAll T m Y (oL (sAtP T Y t) Y.1 (sN T)) 0 (fun _ => -1)).1 = true
    · simp only [if_pos q, ob_some]
      rfl
    · simp only [if_neg q, ob_some]
      rfl
  · unfold sDeal
    rw [sRow_wk]
    exact t3
end PM2
