/-! the row of ships along the quay -/
/-- what lining up and dealing read of the class' cells of stays -/
def pY (S : qSto) (T : Nat → Int) (Y : qY) : Prop :=
  (∀ s : Nat, s < 14 → S 40 s = Y.2.2 s) ∧
  (∀ s : Nat, (s : Int) < T 9 → 0 < Y.2.2 s → S 37 s = Y.1 s ∧ S 38 s = Y.1 s + sCon T s 0 - 1 ∧ S 39 s = Y.2.1 s ∧ S 41 s = sWork T s (Y.2.2 s))
theorem cY_p {S : qSto} {T lev : Nat → Int} {Y : qY} (h : cY S T lev Y) : pY S T Y :=
  ⟨h.1, fun s hs hk => ⟨(h.2.1 s hs hk).1, (h.2.1 s hs hk).2.1, (h.2.1 s hs hk).2.2.1, (h.2.1 s hs hk).2.2.2.1⟩⟩
theorem Stays_has_p {S : qSto} {T lev : Nat → Int} {Y : qY} (hb : bY T lev Y) (h : ∀ s : Nat, s < 14 → S 40 s = Y.2.2 s) (hT : bT T) {s : Nat} (hs : s < 14) : Stays_has (s : Int) S = some (if 0 < Y.2.2 s then 1 else 0, S) := by
  have e := h s hs
  have n := bT_n hT
  have k0 := hb.1 s
  have k8 : Y.2.2 s ≤ 8 := by
    rcases Int.lt_or_le 0 (Y.2.2 s) with g | g
    · rcases Int.lt_or_le (s : Int) (T 9) with q | q
      · exact (bY_one hT hb q g).1.2
      · have := k0.2 q
        omega
    · omega
  simp (disch := omega) only [Stays_has, qk_ix, qk_r, Int.toNat_natCast, e]
  by_cases g : 0 < Y.2.2 s
  · rw [if_neg (by omega), if_pos g]
  · rw [if_pos (by omega), if_neg g]
/-- the row holds the list l -/
def rL (S : qSto) (l : List Nat) : Prop := ∀ p s : Nat, l[p]? = some s → S 44 p = s
theorem oIns_at {f : Nat → Int} {a : Nat} : ∀ (l : List Nat) (p : Nat), p ≤ l.length → l.Pairwise (oLt f) → (∀ q s : Nat, l[q]? = some s → p ≤ q → f a < f s) → (p = 0 ∨ ∃ s, l[p - 1]? = some s ∧ f s ≤ f a) → oIns f a l = l.take p ++ a :: l.drop p
  | [], p, hp, _, _, _ => by
    have : p = 0 := by simpa using hp
    subst this
    rfl
  | b :: l, 0, _, _, h1, _ => by
    have := h1 0 b (by simp) (by omega)
    rw [oIns, if_pos this]
    rfl
  | b :: l, p + 1, hp, hs, h1, h2 => by
    obtain ⟨s1, s2⟩ := List.pairwise_cons.mp hs
    have hb : ¬ f a < f b := by
      rcases h2 with q | ⟨s, q1, q2⟩
      · omega
      · cases p with
        | zero =>
          have : b = s := by simpa using q1
          rw [this]
          omega
        | succ p =>
          have hm : s ∈ l := by
            have : l[p]? = some s := by simpa using q1
            exact List.mem_of_getElem? this
          have := s1 s hm
          unfold oLt at this
          omega
    rw [oIns, if_neg hb, oIns_at l p (by simpa using hp) s2 (fun q s z1 z2 => h1 (q + 1) s (by simpa using z1) (by omega)) (by
      rcases h2 with q | ⟨s, q1, q2⟩
      · omega
      · cases p with
        | zero => exact Or.inl rfl
        | succ p => exact Or.inr ⟨s, by simpa using q1, q2⟩)]
    rfl
theorem lineUp_in {f : Nat → Int} {l : List Nat} {a : Nat} (ha : a < 14) (hl : l.length < 14) (hm : ∀ s ∈ l, s < 14) (hr : ∀ s : Nat, s = a ∨ s ∈ l → -1000000 ≤ f s ∧ f s ≤ 1000000) : ∀ (p n : Nat) (S : qSto), p ≤ l.length → p < n → (∀ s, s = a ∨ s ∈ l → S 37 s = f s) → (∀ q s : Nat, l[q]? = some s → q < p → S 44 q = s) → (∀ q s : Nat, l[q]? = some s → p ≤ q → S 44 (q + 1) = s) → (∀ q s : Nat, l[q]? = some s → p ≤ q → f a < f s) → ∃ (p' : Nat) (S' : qSto), Stays_lineUp_L31 n (a : Int) (p : Int) S = some ((p' : Int), S') ∧ p' ≤ l.length ∧ (∀ q s : Nat, l[q]? = some s → q < p' → S' 44 q = s) ∧ (∀ q s : Nat, l[q]? = some s → p' ≤ q → S' 44 (q + 1) = s) ∧ (∀ q s : Nat, l[q]? = some s → p' ≤ q → f a < f s) ∧ (p' = 0 ∨ ∃ s, l[p' - 1]? = some s ∧ f s ≤ f a) ∧ ∀ c, c ≠ 44 → S' c = S c
  | 0, n + 1, S, _, _, h37, h1, h2, h3 => by
    refine ⟨0, S, ?_, by omega, h1, h2, h3, Or.inl rfl, fun c _ => rfl⟩
    rw [Stays_lineUp_L31]
    simp (disch := omega) only [qk_r]
    rfl
  | p + 1, n + 1, S, hp, hn, h37, h1, h2, h3 => by
    obtain ⟨s, es⟩ : ∃ s, l[p]? = some s := ⟨l[p]'(by omega), List.getElem?_eq_getElem (by omega)⟩
    have hs := List.mem_of_getElem? es
    have hs14 := hm s hs
    have e44 := h1 p s es (by omega)
    have r1 := hr s (Or.inr hs)
    have r2 := hr a (Or.inl rfl)
    have z1 := h37 s (Or.inr hs)
    have z2 := h37 a (Or.inl rfl)
    have f1 : ((p + 1 : Nat) : Int) - 1 = (p : Int) := by omega
    have f2 : ((p + 1 : Nat) : Int) + -1 = (p : Int) := by omega
    rw [Stays_lineUp_L31]
    simp (disch := omega) only [f1, f2, qk_r, qk_ix, if_neg (show ¬ ((p + 1 : Nat) : Int) ≤ 0 by omega), Int.toNat_natCast, e44, z1, z2]
    by_cases g : f s ≤ f a
    · simp only [if_pos g]
      exact ⟨p + 1, S, rfl, hp, h1, h2, h3, Or.inr ⟨s, es, g⟩, fun c _ => rfl⟩
    · simp only [if_neg g]
      obtain ⟨p', S', k1, k2, k3, k4, k5, k6, k7⟩ := lineUp_in ha hl hm hr p n (qup S 44 (p + 1) (s : Int)) (by omega) (by omega) (fun z hz => by rw [qup_off (by omega)]; exact h37 z hz) (fun q z y1 y2 => by
          rw [qup_on, if_neg (by omega)]
          exact h1 q z y1 (by omega)) (fun q z y1 y2 => by
          rw [qup_on]
          rcases Nat.lt_or_ge p q with w | w
          · rw [if_neg (by omega)]
            exact h2 q z y1 (by omega)
          · have : q = p := by omega
            subst this
            rw [es] at y1
            rw [if_pos rfl]
            have : s = z := by simpa using y1
            rw [this]) (fun q z y1 y2 => by
          rcases Nat.lt_or_ge p q with w | w
          · exact h3 q z y1 (by omega)
          · have : q = p := by omega
            subst this
            rw [es] at y1
            have : s = z := by simpa using y1
            rw [← this]
            omega)
      refine ⟨p', S', k1, k2, k3, k4, k5, k6, fun c hc => ?_⟩
      rw [k7 c hc, qup_off hc]
section PN
variable {T lev : Nat → Int} {Y : qY}
noncomputable def sRow (Y : qY) (n : Nat) : List Nat := oL (fun s => 0 < Y.2.2 s) Y.1 n
theorem oL_len {P : Nat → Prop} {f : Nat → Int} {n : Nat} : (oL P f n).length ≤ n := by
  have h := sm_mem (n := n) (l := oL P f n) (oL_nodup _ _ _) (fun x hx => ((oL_mem _ _).mp hx).1)
  have b := sm_bnd (f := fun o => if o ∈ oL P f n then 1 else 0) (c := 1) (n := n) (fun k _ => by
    skip
    split <;> omega)
  omega
/-- the cells that lining up changes: the row and its length -/
def fR (S S' : qSto) : Prop := (∀ c, c ≠ 44 → c ≠ 6 → S' c = S c) ∧ ∀ i, i ≠ 10 → S' 6 i = S 6 i
theorem fR_rfl {S : qSto} : fR S S := ⟨fun _ _ _ => rfl, fun _ _ => rfl⟩
theorem fR_tr {S S' S2 : qSto} (h1 : fR S S') (h2 : fR S' S2) : fR S S2 := ⟨fun c a b => (h2.1 c a b).trans (h1.1 c a b), fun i a => (h2.2 i a).trans (h1.2 i a)⟩
theorem iT_off {S S' : qSto} (h : iT S T lev) (e : ∀ c, c = 2 ∨ (15 ≤ c ∧ c ≤ 23) ∨ c = 36 ∨ c = 72 ∨ c = 76 ∨ c = 77 → S' c = S c) : iT S' T lev := by
  obtain ⟨h1, h2, h3, h4, h5⟩ := h
  refine ⟨h1, ?_, ?_, ?_, ?_⟩
  · unfold rT at h2 ⊢
    rw [e 2 (by omega), e 15 (by omega), e 16 (by omega), e 17 (by omega), e 18 (by omega), e 19 (by omega), e 20 (by omega), e 21 (by omega), e 22 (by omega), e 23 (by omega)]
    exact h2
  · rw [e 72 (by omega)]
    exact h3
  · rw [e 36 (by omega), e 77 (by omega)]
    exact h4
  · rw [e 76 (by omega)]
    exact h5
theorem pY_off {S S' : qSto} (h : pY S T Y) (e : ∀ c, 37 ≤ c ∧ c ≤ 41 → S' c = S c) : pY S' T Y := by
  unfold pY at h ⊢
  rw [e 37 (by omega), e 38 (by omega), e 39 (by omega), e 40 (by omega), e 41 (by omega)]
  exact h
theorem cY_off {S S' : qSto} (h : cY S T lev Y) (e : ∀ c, 37 ≤ c ∧ c ≤ 43 → S' c = S c) : cY S' T lev Y := by
  unfold cY gB at h ⊢
  rw [e 37 (by omega), e 38 (by omega), e 39 (by omega), e 40 (by omega), e 41 (by omega), e 42 (by omega), e 43 (by omega)]
  exact h
theorem mY_off {S S' : qSto} (h : mY S T lev Y) (e : ∀ c, 78 ≤ c ∧ c ≤ 82 → S' c = S c) : mY S' T lev Y := by
  unfold mY gB at h ⊢
  rw [e 78 (by omega), e 79 (by omega), e 80 (by omega), e 81 (by omega), e 82 (by omega)]
  exact h
theorem lineUp_L (hb : bY T lev Y) : ∀ (j n i : Nat) (S : qSto), (i : Int) + j = T 9 → j < n → iT S T lev → pY S T Y → S 6 10 = (sRow Y i).length → rL S (sRow Y i) → ∃ S', Stays_lineUp_L7 n (i : Int) S = some S' ∧ fR S S' ∧ S' 6 10 = (sRow Y (sN T)).length ∧ rL S' (sRow Y (sN T))
  | 0, n + 1, i, S, e, _, hI, hp, h1, h2 => by
    have b9 := bT_n hI.1
    have e1 := hI.2.1.2.2.2.2.1
    rw [Stays_lineUp_L7]
    simp (disch := omega) only [qk_r, e1, if_pos (show T 9 ≤ (i : Int) by omega)]
    unfold sN
    rw [show (T 9).toNat = i by omega]
    exact ⟨S, rfl, fR_rfl, h1, h2⟩
  | j + 1, n + 1, i, S, e, hn, hI, hp, h1, h2 => by
    have b9 := bT_n hI.1
    have e1 := hI.2.1.2.2.2.2.1
    have f1 : (((i + 1 : Nat)) : Int) = (i : Int) + 1 := by omega
    rw [Stays_lineUp_L7]
    simp (disch := omega) only [qk_r, e1, if_neg (show ¬ T 9 ≤ (i : Int) by omega), Stays_has_p hb hp.1 hI.1 (s := i) (by omega), ob_some, ite01_r, ite01_e]
    by_cases g : 0 < Y.2.2 i
    · have hlen := oL_len (P := fun s => 0 < Y.2.2 s) (f := Y.1) (n := i)
      have hmem : ∀ s ∈ sRow Y i, s < i ∧ 0 < Y.2.2 s := fun s hs => (oL_mem _ _).mp hs
      have hh : ∀ s : Nat, s = i ∨ s ∈ sRow Y i → s < 14 ∧ (s : Int) < T 9 ∧ 0 < Y.2.2 s := fun s hs => by
        rcases hs with q | q
        · subst q
          exact ⟨by omega, by omega, g⟩
        · have := hmem s q
          exact ⟨by omega, by omega, this.2⟩
      obtain ⟨p', S', k1, k2, k3, k4, k5, k6, k7⟩ := lineUp_in (f := Y.1) (l := sRow Y i) (a := i) (by omega) (by unfold sRow; omega) (fun s hs => (hh s (Or.inr hs)).1) (fun s hs => by
          have := bY_one hI.1 hb (hh s hs).2.1 (hh s hs).2.2
          omega) (sRow Y i).length qF S (Nat.le_refl _) (by unfold qF sRow; omega) (fun s hs => (hp.2 s (hh s hs).2.1 (hh s hs).2.2).1) (fun q s y1 y2 => h2 q s y1) (fun q s y1 y2 => by
          have := (List.getElem?_eq_some_iff.mp y1).1
          omega) (fun q s y1 y2 => by
          have := (List.getElem?_eq_some_iff.mp y1).1
          omega)
      have hlen2 : (sRow Y i).length < 14 := by unfold sRow; omega
      have es : sRow Y (i + 1) = (sRow Y i).take p' ++ i :: (sRow Y i).drop p' := by
        have : sRow Y (i + 1) = oIns Y.1 i (sRow Y i) := oL_s _ _ g
        rw [this]
        exact oIns_at _ _ k2 (oL_sorted _ _ _) k5 k6
      rw [h1, k1]
      simp (disch := omega) only [if_pos g, ob_some, qk_ix, Int.toNat_natCast]
      have w6 : S' 6 = S 6 := k7 6 (by omega)
      rw [qup_off (show (6 : Nat) ≠ 44 by omega), w6, h1]
      have hI2 : iT (qup (qup S' 44 p' (i : Int)) 6 10 (((sRow Y i).length : Int) + 1)) T lev := iT_off hI (fun c hc => by
        rw [qup_off (by omega), qup_off (by omega)]
        exact k7 c (by omega))
      have hp2 : pY (qup (qup S' 44 p' (i : Int)) 6 10 (((sRow Y i).length : Int) + 1)) T Y := pY_off hp (fun c hc => by
        rw [qup_off (by omega), qup_off (by omega)]
        exact k7 c (by omega))
      obtain ⟨S2, t1, t2, t3, t4⟩ := lineUp_L hb j n (i + 1) _ (by omega) (by omega) hI2 hp2 (by
        rw [qup_on, if_pos rfl, es]
        simp
        omega) (by
        intro p s hps
        rw [qup_off (show (44 : Nat) ≠ 6 by omega), qup_on]
        rw [es] at hps
        have hlt : (List.take p' (sRow Y i)).length = p' := by
          rw [List.length_take]
          omega
        by_cases c : p = p'
        · subst c
          rw [if_pos rfl]
          rw [List.getElem?_append_right (by omega), hlt, Nat.sub_self] at hps
          have : i = s := by simpa using hps
          rw [this]
        · rw [if_neg c]
          rcases Nat.lt_or_ge p p' with q | q
          · rw [List.getElem?_append_left (by omega), List.getElem?_take_of_lt q] at hps
            exact k3 p s hps q
          · rw [List.getElem?_append_right (by omega), hlt] at hps
            obtain ⟨d, rfl⟩ : ∃ d, p = p' + 1 + d := ⟨p - p' - 1, by omega⟩
            rw [show p' + 1 + d - p' = d + 1 by omega] at hps
            rw [List.getElem?_cons_succ, List.getElem?_drop] at hps
            have := k4 (p' + d) s hps (by omega)
            rw [show p' + 1 + d = p' + d + 1 by omega]
            exact this)
      rw [f1] at t1
      refine ⟨S2, t1, ?_, t3, t4⟩
      refine fR_tr ⟨fun c a b => ?_, fun x hx => ?_⟩ t2
      · rw [qup_off b, qup_off a, k7 c a]
      · rw [qup_on, if_neg hx, qup_off (show (6 : Nat) ≠ 44 by omega), w6]
    · simp only [if_neg g, ob_some]
      have es : sRow Y (i + 1) = sRow Y i := oL_n _ _ g
      obtain ⟨S2, t1, t2, t3, t4⟩ := lineUp_L hb j n (i + 1) S (by omega) (by omega) hI hp (by rw [es]; exact h1) (by rw [es]; exact h2)
      rw [f1] at t1
      exact ⟨S2, t1, t2, t3, t4⟩
theorem lineUp_s {S : qSto} (hb : bY T lev Y) (hI : iT S T lev) (hp : pY S T Y) : ∃ S', Stays_lineUp S = some S' ∧ fR S S' ∧ S' 6 10 = (sRow Y (sN T)).length ∧ rL S' (sRow Y (sN T)) := by
  have b9 := bT_n hI.1
  obtain ⟨S', t1, t2, t3, t4⟩ := lineUp_L hb (T 9).toNat qF 0 (qup S 6 10 0) (by omega) (by unfold qF; omega) (iT_off hI (fun c hc => qup_off (by omega))) (pY_off hp (fun c hc => qup_off (by omega))) (by
    rw [qup_on, if_pos rfl]
    rfl) (fun p s h => by
    have : (sRow Y 0) = [] := rfl
    rw [this] at h
    simp at h)
  have t1' : Stays_lineUp_L7 qF 0 (qup S 6 10 0) = some S' := t1
  refine ⟨S', ?_, ?_, t3, t4⟩
  · rw [Stays_lineUp, t1']
    rfl
  · refine fR_tr ⟨fun c a b => ?_, fun x hx => ?_⟩ t2
    · rw [qup_off b]
    · rw [qup_on, if_neg hx]
end PN
