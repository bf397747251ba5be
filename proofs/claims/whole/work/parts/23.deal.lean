/-! dealing cranes -/
abbrev sReach (T : Nat → Int) (x : Int) (s c : Nat) : Prop := T (27 + c) ≤ x + sCon T s 0 - 1 ∧ x ≤ T (35 + c)
/-- one ship takes: j cranes are left from c on, w are wanted -/
def dOne (T : Nat → Int) (m x : Int) (s : Nat) : Nat → Nat → Int → Nat × Int
  | 0, c, w => (c, w)
  | j + 1, c, w => if w ≤ 0 then (c, w) else if (c : Int) ≠ m ∧ sReach T x s c then dOne T m x s j (c + 1) (w - 1) else dOne T m x s j (c + 1) w
def dTak (T : Nat → Int) (m x : Int) (s : Nat) : Nat → Nat → Int → (Nat → Int) → Nat → Int
  | 0, _, _, g => g
  | j + 1, c, w, g => if w ≤ 0 then g else if (c : Int) ≠ m ∧ sReach T x s c then dTak T m x s j (c + 1) (w - 1) (fun i => if i = c then (s : Int) else g i) else dTak T m x s j (c + 1) w g
def sC (T : Nat → Int) : Nat := (T 7).toNat
def dAll (T : Nat → Int) (m : Int) (Y : qY) : List Nat → Nat → (Nat → Int) → Bool × (Nat → Int)
  | [], _, g => (true, g)
  | s :: l, c, g => if 0 < (dOne T m (Y.1 s) s (sC T - c) c (Y.2.2 s)).2 then (false, dTak T m (Y.1 s) s (sC T - c) c (Y.2.2 s) g) else dAll T m Y l (dOne T m (Y.1 s) s (sC T - c) c (Y.2.2 s)).1 (dTak T m (Y.1 s) s (sC T - c) c (Y.2.2 s) g)
/-- the same, only whether it can be done, and the first crane behind -/
def dGo (T : Nat → Int) (m : Int) (Y : qY) : List Nat → Nat → Option Nat
  | [], c => some c
  | s :: l, c => if 0 < (dOne T m (Y.1 s) s (sC T - c) c (Y.2.2 s)).2 then none else dGo T m Y l (dOne T m (Y.1 s) s (sC T - c) c (Y.2.2 s)).1
theorem dAll_go {T : Nat → Int} {m : Int} {Y : qY} : ∀ (l : List Nat) (c : Nat) (g : Nat → Int), (dAll T m Y l c g).1 = (dGo T m Y l c).isSome
  | [], _, _ => rfl
  | s :: l, c, g => by
    rw [dAll, dGo]
    split
    · rfl
    · exact dAll_go l _ _
theorem dOne_rng {T : Nat → Int} {m x : Int} {s : Nat} : ∀ (j c : Nat) (w : Int), 0 ≤ w → c ≤ (dOne T m x s j c w).1 ∧ (dOne T m x s j c w).1 ≤ c + j ∧ 0 ≤ (dOne T m x s j c w).2 ∧ (dOne T m x s j c w).2 ≤ w
  | 0, c, w, h => by
    rw [dOne]
    exact ⟨Nat.le_refl _, by omega, h, Int.le_refl _⟩
  | j + 1, c, w, h => by
    rw [dOne]
    by_cases g : w ≤ 0
    · rw [if_pos g]
      exact ⟨Nat.le_refl _, by omega, h, Int.le_refl _⟩
    · rw [if_neg g]
      by_cases q : (c : Int) ≠ m ∧ sReach T x s c
      · rw [if_pos q]
        have := dOne_rng (T := T) (m := m) (x := x) (s := s) j (c + 1) (w - 1) (by omega)
        omega
      · rw [if_neg q]
        have := dOne_rng (T := T) (m := m) (x := x) (s := s) j (c + 1) w h
        omega
theorem dOne_0 {T : Nat → Int} {m x : Int} {s j c : Nat} {w : Int} (h : w ≤ 0) : dOne T m x s (j + 1) c w = (c, w) := by rw [dOne, if_pos h]
theorem dOne_y {T : Nat → Int} {m x : Int} {s j c : Nat} {w : Int} (h : ¬ w ≤ 0) (q : (c : Int) ≠ m ∧ sReach T x s c) : dOne T m x s (j + 1) c w = dOne T m x s j (c + 1) (w - 1) := by rw [dOne, if_neg h, if_pos q]
theorem dOne_n {T : Nat → Int} {m x : Int} {s j c : Nat} {w : Int} (h : ¬ w ≤ 0) (q : ¬ ((c : Int) ≠ m ∧ sReach T x s c)) : dOne T m x s (j + 1) c w = dOne T m x s j (c + 1) w := by rw [dOne, if_neg h, if_neg q]
/-- fewer are wanted: it can still be done, no later crane -/
theorem dOne_w {T : Nat → Int} {m x : Int} {s : Nat} : ∀ (j c : Nat) (w w' : Int), 0 ≤ w → w ≤ w' → (dOne T m x s j c w').2 ≤ 0 → (dOne T m x s j c w).2 ≤ 0 ∧ (dOne T m x s j c w).1 ≤ (dOne T m x s j c w').1
  | 0, c, w, w', h0, h, h2 => by
    rw [dOne] at h2 ⊢
    exact ⟨by simp at h2 ⊢; omega, Nat.le_refl _⟩
  | j + 1, c, w, w', h0, h, h2 => by
    by_cases g : w ≤ 0
    · have := (dOne_rng (T := T) (m := m) (x := x) (s := s) (j + 1) c w' (by omega)).1
      have e : dOne T m x s (j + 1) c w = (c, w) := by rw [dOne, if_pos g]
      rw [e]
      exact ⟨g, this⟩
    · by_cases q : (c : Int) ≠ m ∧ sReach T x s c
      · rw [dOne_y (by omega) q] at h2 ⊢
        rw [dOne_y (by omega) q]
        exact dOne_w j (c + 1) (w - 1) (w' - 1) (by omega) (by omega) h2
      · rw [dOne_n (by omega) q] at h2 ⊢
        rw [dOne_n (by omega) q]
        exact dOne_w j (c + 1) w w' h0 h h2
/-- an earlier first crane: the same -/
theorem dOne_c {T : Nat → Int} {m x : Int} {s : Nat} {N : Nat} {w : Int} (hw : 0 ≤ w) : ∀ (d c : Nat), c + d ≤ N → (dOne T m x s (N - (c + d)) (c + d) w).2 ≤ 0 → (dOne T m x s (N - c) c w).2 ≤ 0 ∧ (dOne T m x s (N - c) c w).1 ≤ (dOne T m x s (N - (c + d)) (c + d) w).1
  | 0, c, _, h2 => ⟨h2, Nat.le_refl _⟩
  | d + 1, c, h, h2 => by
    have e : c + (d + 1) = c + 1 + d := by omega
    rw [e] at h2 ⊢
    have ih := dOne_c hw d (c + 1) (by omega) h2
    have e2 : N - c = N - (c + 1) + 1 := by omega
    rw [e2]
    by_cases g : w ≤ 0
    · rw [dOne, if_pos g]
      refine ⟨g, ?_⟩
      have := (dOne_rng (T := T) (m := m) (x := x) (s := s) (N - (c + 1 + d)) (c + 1 + d) w hw).1
      show c ≤ _
      omega
    · rw [dOne, if_neg g]
      by_cases q : (c : Int) ≠ m ∧ sReach T x s c
      · rw [if_pos q]
        have := dOne_w (T := T) (m := m) (x := x) (s := s) (N - (c + 1)) (c + 1) (w - 1) w (by omega) (by omega) ih.1
        exact ⟨this.1, by omega⟩
      · rw [if_neg q]
        exact ih
theorem dGo_c {T : Nat → Int} {m : Int} {Y : qY} (hk : ∀ s, 0 ≤ Y.2.2 s) : ∀ (l : List Nat) (c c' e' : Nat), c ≤ c' → c' ≤ sC T → dGo T m Y l c' = some e' → ∃ e, dGo T m Y l c = some e ∧ e ≤ e'
  | [], c, c', e', h, _, h2 => by
    rw [dGo] at h2 ⊢
    have : c' = e' := by simpa using h2
    exact ⟨c, rfl, by omega⟩
  | s :: l, c, c', e', h, hN, h2 => by
    rw [dGo] at h2
    by_cases g : 0 < (dOne T m (Y.1 s) s (sC T - c') c' (Y.2.2 s)).2
    · rw [if_pos g] at h2
      exact absurd h2 (by simp)
    · rw [if_neg g] at h2
      obtain ⟨d, rfl⟩ : ∃ d, c' = c + d := ⟨c' - c, by omega⟩
      have k := dOne_c (T := T) (m := m) (x := Y.1 s) (s := s) (N := sC T) (hk s) d c hN (by omega)
      have r := dOne_rng (T := T) (m := m) (x := Y.1 s) (s := s) (sC T - (c + d)) (c + d) (Y.2.2 s) (hk s)
      rw [dGo, if_neg (by omega)]
      exact dGo_c hk l _ _ e' k.2 (by omega) h2
/-- a part of the ships, in their order: it can still be done -/
theorem dGo_sub {T : Nat → Int} {m : Int} {Y : qY} (hk : ∀ s, 0 ≤ Y.2.2 s) {l l' : List Nat} (h : l.Sublist l') : ∀ (c e' : Nat), c ≤ sC T → dGo T m Y l' c = some e' → ∃ e, dGo T m Y l c = some e ∧ e ≤ e' := by
  induction h with
  | slnil => exact fun c e' _ h => ⟨e', h, Nat.le_refl _⟩
  | @cons l l' s hs ih =>
    intro c e' hc h2
    rw [dGo] at h2
    by_cases g : 0 < (dOne T m (Y.1 s) s (sC T - c) c (Y.2.2 s)).2
    · rw [if_pos g] at h2
      exact absurd h2 (by simp)
    · rw [if_neg g] at h2
      have r := dOne_rng (T := T) (m := m) (x := Y.1 s) (s := s) (sC T - c) c (Y.2.2 s) (hk s)
      obtain ⟨e1, h3, h4⟩ := ih _ e' (by omega) h2
      obtain ⟨e2, h5, h6⟩ := dGo_c hk l c _ e1 r.1 (by omega) h3
      exact ⟨e2, h5, by omega⟩
  | @cons_cons l l' s hs ih =>
    intro c e' hc h2
    rw [dGo] at h2 ⊢
    by_cases g : 0 < (dOne T m (Y.1 s) s (sC T - c) c (Y.2.2 s)).2
    · rw [if_pos g] at h2
      exact absurd h2 (by simp)
    · rw [if_neg g] at h2 ⊢
      have r := dOne_rng (T := T) (m := m) (x := Y.1 s) (s := s) (sC T - c) c (Y.2.2 s) (hk s)
      exact ih _ e' (by omega) h2
/-- only what is told of the ships in the list counts -/
theorem dGo_cong {T : Nat → Int} {m : Int} {Y Y' : qY} : ∀ (l : List Nat) (c : Nat), (∀ s ∈ l, Y.1 s = Y'.1 s ∧ Y.2.2 s = Y'.2.2 s) → dGo T m Y l c = dGo T m Y' l c
  | [], _, _ => rfl
  | s :: l, c, h => by
    rw [dGo, dGo, (h s List.mem_cons_self).1, (h s List.mem_cons_self).2, dGo_cong l _ (fun s hs => h s (List.mem_cons_of_mem _ hs))]
/-- the ships at work in a slot, along the quay -/
def sWk (T : Nat → Int) (Y : qY) (t : Nat) (s : Nat) : Bool := decide (Y.2.1 s ≤ t ∧ (t : Int) < Y.2.1 s + sWork T s (Y.2.2 s))
section PD
variable {T lev : Nat → Int} {Y : qY}
theorem Dealer_reaches_s {S : qSto} (hI : iT S T lev) {c s : Nat} (hc : (c : Int) < T 7) {x z : Int} (hx : qR x) (hz : qR z) (ez : z = x + sCon T s 0 - 1) : Dealer_reaches (c : Int) x z S = some (if sReach T x s c then 1 else 0, S) := by
  obtain ⟨x1, x2⟩ := hx
  obtain ⟨z1, z2⟩ := hz
  have b7 := hI.1.2.2.2.2.2.2.2.1
  have bc := hI.1.2.2.2.2.2.2.2.2.2.2.2.1 c hc
  obtain ⟨e1, e2⟩ := hI.2.1.2.2.2.2.2.2.1 c hc
  simp (disch := omega) only [Dealer_reaches, qk_ix, qk_r, Int.toNat_natCast, e1, e2]
  unfold sReach
  by_cases g : z < T (27 + c)
  · rw [if_pos g, if_neg (by omega)]
  · rw [if_neg g]
    by_cases g2 : T (35 + c) < x
    · rw [if_pos g2, if_neg (by omega)]
    · rw [if_neg g2, if_pos (by omega)]
def fO (z : Nat) (S S' : qSto) : Prop := ∀ c, c ≠ z → S' c = S c
theorem deal_one {m : Int} (hm : qR m) (hb : bY T lev Y) {s : Nat} (hs : (s : Int) < T 9) (hk : 0 < Y.2.2 s) : ∀ (j n c : Nat) (w : Int) (S : qSto) (g : Nat → Int), c + j = sC T → j < n → 0 ≤ w → w ≤ 8 → iT S T lev → pY S T Y → (∀ i, i < 8 → S 45 i = g i) → ∃ S', Dealer_deal_L91 n m (c : Int) (s : Int) w S = some (((dOne T m (Y.1 s) s j c w).1 : Int), (dOne T m (Y.1 s) s j c w).2, S') ∧ fO 45 S S' ∧ ∀ i, i < 8 → S' 45 i = dTak T m (Y.1 s) s j c w g i
  | 0, n + 1, c, w, S, g, e, _, h0, h8, hI, hp, hg => by
    have b7 := hI.1.2.2.2.2.2.2.2.1
    have e7 := hI.2.1.2.2.1
    have ec : T 7 ≤ (c : Int) := by unfold sC at e; omega
    refine ⟨S, ?_, fun c _ => rfl, fun i hi => by rw [dTak]; exact hg i hi⟩
    rw [Dealer_deal_L91]
    unfold sC at e
    simp (disch := omega) only [qk_r, e7, if_pos ec]
    split <;> rfl
  | j + 1, n + 1, c, w, S, g, e, hn, h0, h8, hI, hp, hg => by
    have b7 := hI.1.2.2.2.2.2.2.2.1
    have b9 := bT_n hI.1
    have e7 := hI.2.1.2.2.1
    have hc : (c : Int) < T 7 := by unfold sC at e; omega
    have o := bY_one hI.1 hb hs hk
    have k := bT_con hI.1 hs
    obtain ⟨m1, m2⟩ := id hm
    obtain ⟨p1, p2, p3, p4⟩ := hp.2 s hs hk
    have f1 : (((c + 1 : Nat)) : Int) = (c : Int) + 1 := by omega
    have er := Dealer_reaches_s (S := S) hI (c := c) (s := s) hc (x := Y.1 s) (z := Y.1 s + sCon T s 0 - 1) ⟨by omega, by omega⟩ ⟨by omega, by omega⟩ rfl
    rw [Dealer_deal_L91, dOne, dTak]
    by_cases q : w ≤ 0
    · simp (disch := omega) only [qk_r, if_pos q]
      exact ⟨S, rfl, fun c _ => rfl, hg⟩
    · simp (disch := omega) only [qk_r, qk_ix, if_neg q, e7, if_neg (show ¬ T 7 ≤ (c : Int) by omega), Int.toNat_natCast, p1, p2, er, ob_some, ite01_r, ite01_e]
      by_cases z : (c : Int) = m
      · simp only [if_pos z, ob_some]
        simp only [if_neg (show ¬ ((c : Int) ≠ m ∧ sReach T (Y.1 s) s c) from fun y => y.1 z)]
        obtain ⟨S', t1, t2, t3⟩ := deal_one hm hb hs hk j n (c + 1) w S g (by omega) (by omega) h0 h8 hI hp hg
        rw [f1] at t1
        exact ⟨S', t1, t2, t3⟩
      · by_cases y : sReach T (Y.1 s) s c
        · simp only [if_neg z, if_pos y, if_pos (show (c : Int) ≠ m ∧ sReach T (Y.1 s) s c from ⟨z, y⟩), ob_some]
          obtain ⟨S', t1, t2, t3⟩ := deal_one hm hb hs hk j n (c + 1) (w - 1) (qup S 45 c (s : Int)) (fun i => if i = c then (s : Int) else g i) (by omega) (by omega) (by omega) (by omega) (iT_off hI (fun c hc => qup_off (by omega))) (pY_off hp (fun c hc => qup_off (by omega))) (fun i hi => by
            rw [qup_on, hg i hi])
          rw [f1] at t1
          refine ⟨S', t1, fun a ha => ?_, t3⟩
          rw [t2 a ha, qup_off ha]
        · simp only [if_neg z, if_neg y, if_neg (show ¬ ((c : Int) ≠ m ∧ sReach T (Y.1 s) s c) from fun u => y u.2), ob_some]
          obtain ⟨S', t1, t2, t3⟩ := deal_one hm hb hs hk j n (c + 1) w S g (by omega) (by omega) h0 h8 hI hp hg
          rw [f1] at t1
          exact ⟨S', t1, t2, t3⟩
theorem deal_all {m : Int} (hm : qR m) (hb : bY T lev Y) {t : Nat} (ht : t < 20000) : ∀ (rest : List Nat) (n p c : Nat) (S : qSto) (g : Nat → Int), (sRow Y (sN T)).drop p = rest → rest.length < n → c ≤ sC T → iT S T lev → pY S T Y → S 6 10 = (sRow Y (sN T)).length → rL S (sRow Y (sN T)) → p ≤ 100 → (∀ i, i < 8 → S 45 i = g i) → ∃ S', Dealer_deal_L13 n (t : Int) m (c : Int) (p : Int) S = some (if (dAll T m Y (rest.filter (sWk T Y t)) c g).1 = true then .inl S' else .inr (0, S')) ∧ fO 45 S S' ∧ ∀ i, i < 8 → S' 45 i = (dAll T m Y (rest.filter (sWk T Y t)) c g).2 i
  | [], n + 1, p, c, S, g, hd, hn, hc, hI, hp, h6, hr, hpb, hg => by
    have hlen := oL_len (P := fun s => 0 < Y.2.2 s) (f := Y.1) (n := sN T)
    have b9 := bT_n hI.1
    have hl : (sRow Y (sN T)).length ≤ 14 := by unfold sRow; unfold sN at hlen ⊢; omega
    have hple := List.drop_eq_nil_iff.mp hd
    refine ⟨S, ?_, fun c _ => rfl, fun i hi => hg i hi⟩
    rw [Dealer_deal_L13]
    simp (disch := omega) only [qk_r, h6, if_pos (show ((sRow Y (sN T)).length : Int) ≤ (p : Int) by omega)]
    rfl
  | s :: rest, n + 1, p, c, S, g, hd, hn, hc, hI, hp, h6, hr, hpb, hg => by
    have hlen := oL_len (P := fun s => 0 < Y.2.2 s) (f := Y.1) (n := sN T)
    have b9 := bT_n hI.1
    have hl : (sRow Y (sN T)).length ≤ 14 := by unfold sRow; unfold sN at hlen ⊢; omega
    have eg : (sRow Y (sN T))[p]? = some s := by
      have := congrArg (fun l => l[0]?) hd
      simpa using this
    have hplt := (List.getElem?_eq_some_iff.mp eg).1
    have hmem := (oL_mem _ _).mp (List.mem_of_getElem? eg)
    have hs : (s : Int) < T 9 := by have := hmem.1; unfold sN at this; omega
    have hk : 0 < Y.2.2 s := hmem.2
    have e44 := hr p s eg
    have hd2 : (sRow Y (sN T)).drop (p + 1) = rest := by
      have : (sRow Y (sN T)).drop (p + 1) = ((sRow Y (sN T)).drop p).drop 1 := by rw [List.drop_drop]
      rw [this, hd]
      rfl
    have o := bY_one hI.1 hb hs hk
    have wb := sWork_b hI.1 hs (k := Y.2.2 s) (by omega) (by omega)
    obtain ⟨p1, p2, p3, p4⟩ := hp.2 s hs hk
    have p5 := hp.1 s (by omega)
    have f1 : (((p + 1 : Nat)) : Int) = (p : Int) + 1 := by omega
    rw [Dealer_deal_L13]
    simp (disch := omega) only [qk_r, qk_ix, h6, if_neg (show ¬ ((sRow Y (sN T)).length : Int) ≤ (p : Int) by omega), Int.toNat_natCast, e44, p3, p4, p5]
    by_cases g1 : (t : Int) < Y.2.1 s
    · have ew : sWk T Y t s = false := decide_eq_false (by omega)
      rw [List.filter_cons_of_neg (by rw [ew]; simp)]
      simp only [if_pos g1]
      obtain ⟨S', t1, t2, t3⟩ := deal_all hm hb ht rest n (p + 1) c S g hd2 (by simp at hn; omega) hc hI hp h6 hr (by omega) hg
      rw [f1] at t1
      exact ⟨S', t1, t2, t3⟩
    · simp only [if_neg g1]
      by_cases g2 : (t : Int) < Y.2.1 s + sWork T s (Y.2.2 s)
      · have ew : sWk T Y t s = true := decide_eq_true (by omega)
        rw [List.filter_cons_of_pos ew]
        simp only [if_pos g2]
        obtain ⟨S1, u1, u2, u3⟩ := deal_one hm hb hs hk (sC T - c) qF c (Y.2.2 s) S g (by omega) (by have := hI.1.2.2.2.2.2.2.2.1; unfold qF sC; omega) (by omega) (by omega) hI hp hg
        have rg := dOne_rng (T := T) (m := m) (x := Y.1 s) (s := s) (sC T - c) c (Y.2.2 s) (by omega)
        rw [u1]
        simp (disch := omega) only [ob_some, qk_r]
        rw [dAll]
        by_cases g3 : (dOne T m (Y.1 s) s (sC T - c) c (Y.2.2 s)).2 ≤ 0
        · simp only [if_pos g3, if_neg (show ¬ 0 < (dOne T m (Y.1 s) s (sC T - c) c (Y.2.2 s)).2 by omega)]
          obtain ⟨S', t1, t2, t3⟩ := deal_all hm hb ht rest n (p + 1) (dOne T m (Y.1 s) s (sC T - c) c (Y.2.2 s)).1 S1 _ hd2 (by simp at hn; omega) (by omega) (iT_off hI (fun a ha => u2 a (by omega))) (pY_off hp (fun a ha => u2 a (by omega))) (by rw [u2 6 (by omega)]; exact h6) (by unfold rL; rw [u2 44 (by omega)]; exact hr) (by omega) u3
          rw [f1] at t1
          exact ⟨S', t1, fun a ha => (t2 a ha).trans (u2 a ha), t3⟩
        · simp only [if_neg g3, if_pos (show 0 < (dOne T m (Y.1 s) s (sC T - c) c (Y.2.2 s)).2 by omega)]
          exact ⟨S1, rfl, u2, u3⟩
      · have ew : sWk T Y t s = false := decide_eq_false (by omega)
        rw [List.filter_cons_of_neg (by rw [ew]; simp)]
        simp only [if_neg g2]
        obtain ⟨S', t1, t2, t3⟩ := deal_all hm hb ht rest n (p + 1) c S g hd2 (by simp at hn; omega) hc hI hp h6 hr (by omega) hg
        rw [f1] at t1
        exact ⟨S', t1, t2, t3⟩
theorem fill45_L {v : Int} : ∀ (j n i : Nat) (S : qSto), i + j = 8 → j < n → (∀ k, k < i → S 45 k = v) → ∃ S', Ja_fill_45_L5 n v (i : Int) S = some S' ∧ fO 45 S S' ∧ ∀ k, k < 8 → S' 45 k = v
  | 0, n + 1, i, S, e, _, h => by
    rw [Ja_fill_45_L5]
    simp (disch := omega) only [qk_r, if_pos (show (8 : Int) ≤ (i : Int) by omega)]
    exact ⟨S, rfl, fun c _ => rfl, fun k hk => h k (by omega)⟩
  | j + 1, n + 1, i, S, e, hn, h => by
    rw [Ja_fill_45_L5]
    simp (disch := omega) only [qk_r, qk_ix, if_neg (show ¬ (8 : Int) ≤ (i : Int) by omega), Int.toNat_natCast]
    obtain ⟨S', t1, t2, t3⟩ := fill45_L j n (i + 1) (qup S 45 i v) (by omega) (by omega) (fun k hk => by
      rw [qup_on]
      split
      · rfl
      · exact h k (by omega))
    exact ⟨S', t1, fun c hc => (t2 c hc).trans (qup_off hc), t3⟩
theorem fill45_s {v : Int} {S : qSto} : ∃ S', Ja_fill_45 v S = some S' ∧ fO 45 S S' ∧ ∀ k, k < 8 → S' 45 k = v := by
  obtain ⟨S', t1, t2, t3⟩ := fill45_L (v := v) 8 qF 0 S (by omega) (by unfold qF; omega) (fun k hk => absurd hk (by omega))
  have t1' : Ja_fill_45_L5 qF v 0 S = some S' := t1
  refine ⟨S', ?_, t2, t3⟩
  rw [Ja_fill_45, t1']
  rfl
noncomputable def sDeal (T : Nat → Int) (m : Int) (Y : qY) (t : Nat) : Bool × (Nat → Int) := dAll T m Y ((sRow Y (sN T)).filter (sWk T Y t)) 0 (fun _ => -1)
/-- the class deals -/
theorem Dealer_deal_s {S : qSto} {m : Int} (hm : qR m) (hb : bY T lev Y) {t : Nat} (ht : t < 20000) (hI : iT S T lev) (hp : pY S T Y) (h6 : S 6 10 = (sRow Y (sN T)).length) (hr : rL S (sRow Y (sN T))) : ∃ S', Dealer_deal (t : Int) m S = some (if (sDeal T m Y t).1 = true then 1 else 0, S') ∧ fO 45 S S' ∧ ∀ i, i < 8 → S' 45 i = (sDeal T m Y t).2 i := by
  obtain ⟨S1, u1, u2, u3⟩ := fill45_s (v := -1) (S := S)
  have hlen := oL_len (P := fun s => 0 < Y.2.2 s) (f := Y.1) (n := sN T)
  have b9 := bT_n hI.1
  have hl : (sRow Y (sN T)).length ≤ 14 := by unfold sRow; unfold sN at hlen ⊢; omega
  obtain ⟨S', t1, t2, t3⟩ := deal_all hm hb ht (sRow Y (sN T)) qF 0 0 S1 (fun _ => -1) rfl (by unfold qF; omega) (by omega) (iT_off hI (fun a ha => u2 a (by omega))) (pY_off hp (fun a ha => u2 a (by omega))) (by rw [u2 6 (by omega)]; exact h6) (by unfold rL; rw [u2 44 (by omega)]; exact hr) (by omega) u3
  have t1' : Dealer_deal_L13 qF (t : Int) m 0 0 S1 = _ := t1
  refine ⟨S', ?_, fun c hc => (t2 c hc).trans (u2 c hc), t3⟩
  rw [Dealer_deal, u1]
  simp only [ob_some]
  rw [t1']
  unfold sDeal
  by_cases q : (dAll T m Y ((sRow Y (sN T)).filter (sWk T Y t)) 0 (fun _ => -1)).1 = true
  · simp only [if_pos q, ob_some]
    rfl
  · simp only [if_neg q, ob_some]
    rfl
end PD
