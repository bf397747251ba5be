/-! which laws a lawful stay keeps; the class' first broken law -/
theorem oL_cong {P P' : Nat → Prop} {f f' : Nat → Int} {n : Nat} (h : ∀ s, s < n → (P s ↔ P' s)) (hf : ∀ s, s < n → P s → f s = f' s) : oL P f n = oL P' f' n := by
  refine srt_uniq (f := f) _ _ (oL_sorted P f n) ?_ (fun x => ?_)
  · refine List.Pairwise.imp_of_mem ?_ (oL_sorted P' f' n)
    intro a b ha hb hlt
    obtain ⟨a1, a2⟩ := (oL_mem _ _).mp ha
    obtain ⟨b1, b2⟩ := (oL_mem _ _).mp hb
    unfold oLt at hlt ⊢
    rw [hf a a1 ((h a a1).mpr a2), hf b b1 ((h b b1).mpr b2)]
    exact hlt
  · rw [oL_mem, oL_mem]
    constructor
    · rintro ⟨h1, h2⟩
      exact ⟨h1, (h x h1).mp h2⟩
    · rintro ⟨h1, h2⟩
      exact ⟨h1, (h x h1).mpr h2⟩
theorem oL_sub {P P' : Nat → Prop} {f f' : Nat → Int} {n : Nat} (h : ∀ s, s < n → P s → P' s ∧ f s = f' s) : (oL P f n).Sublist (oL P' f' n) := by
  have e : oL P f n = (oL P' f' n).filter (fun s => @decide (P s) (Classical.propDecidable _)) := by
    rw [oL_filter (P' := P) (fun s hs => ⟨fun q => ⟨(h s hs q).1, by simp [q]⟩, fun q => by simpa using q.2⟩)]
    exact oL_cong (fun s hs => Iff.rfl) (fun s hs q => (h s hs q).2)
  rw [e]
  exact List.filter_sublist
section PG
variable {T lev : Nat → Int} {Y : qY}
theorem deal_sub {Y1 Y2 : qY} {m : Int} {u v : Nat} (hk : ∀ s, 0 ≤ Y2.2.2 s) (h : ∀ x, x < sN T → sAtP T Y1 u x → sAtP T Y2 v x ∧ Y1.1 x = Y2.1 x ∧ Y1.2.2 x = Y2.2.2 x) (hd : (sDeal T m Y2 v).1 = true) : (sDeal T m Y1 u).1 = true := by
  rw [sDeal_go, sRow_wk] at hd ⊢
  obtain ⟨e', he⟩ := Option.isSome_iff_exists.mp hd
  obtain ⟨e, h1, -⟩ := dGo_sub (m := m) hk (oL_sub (P := sAtP T Y1 u) (f := Y1.1) (P' := sAtP T Y2 v) (f' := Y2.1) (n := sN T) (fun s hs q => ⟨(h s hs q).1, (h s hs q).2.1⟩)) 0 e' (by omega) he
  rw [dGo_cong (Y := Y1) (Y' := Y2) _ 0 (fun s hs => (h s ((oL_mem _ _).mp hs).1 ((oL_mem _ _).mp hs).2).2), h1]
  rfl
theorem sCrowd_symm {a b : Nat} (h : sCrowd T lev Y a b) : sCrowd T lev Y b a := ⟨⟨h.1.2, h.1.1⟩, ⟨h.2.2, h.2.1⟩⟩
/-- more ships: nothing gets better -/
def yLe (T : Nat → Int) (Y1 Y2 : qY) : Prop := ∀ i, i < sN T → 0 < Y1.2.2 i → Y1.1 i = Y2.1 i ∧ Y1.2.1 i = Y2.2.1 i ∧ Y1.2.2 i = Y2.2.2 i
theorem yLe_rfl : yLe T Y Y := fun _ _ _ => ⟨rfl, rfl, rfl⟩
theorem yLe_tr {Y1 Y2 Y3 : qY} (h1 : yLe T Y1 Y2) (h2 : yLe T Y2 Y3) : yLe T Y1 Y3 := fun i hi hk => by
  obtain ⟨a, b, c⟩ := h1 i hi hk
  obtain ⟨d, e, f⟩ := h2 i hi (by rw [← c]; exact hk)
  exact ⟨a.trans d, b.trans e, c.trans f⟩
theorem yLe_x {s : Nat} : yLe T (yX Y s) Y := fun i hi hk => by
  have hk' : 0 < (if i = s then (0 : Int) else Y.2.2 i) := hk
  by_cases e : i = s
  · rw [if_pos e] at hk'
    omega
  · show (if i = s then (0 : Int) else Y.1 i) = Y.1 i ∧ (if i = s then (0 : Int) else Y.2.1 i) = Y.2.1 i ∧ (if i = s then (0 : Int) else Y.2.2 i) = Y.2.2 i
    rw [if_neg e, if_neg e, if_neg e]
    exact ⟨rfl, rfl, rfl⟩
theorem yLe_put {s : Nat} {x t k : Int} (h0 : Y.2.2 s = 0) : yLe T Y (yP Y s x t k) := fun i hi hk => by
  have e : ¬ i = s := fun e => by
    rw [e] at hk
    omega
  show Y.1 i = (if i = s then x else Y.1 i) ∧ Y.2.1 i = (if i = s then t else Y.2.1 i) ∧ Y.2.2 i = (if i = s then k else Y.2.2 i)
  rw [if_neg e, if_neg e, if_neg e]
  exact ⟨rfl, rfl, rfl⟩
theorem yLe_up {Y1 Y2 : qY} {s : Nat} {x t k : Int} (h : yLe T Y1 Y2) : yLe T (yP Y1 s x t k) (yP Y2 s x t k) := fun i hi hk => by
  have hk' : 0 < (if i = s then k else Y1.2.2 i) := hk
  show (if i = s then x else Y1.1 i) = (if i = s then x else Y2.1 i) ∧ (if i = s then t else Y1.2.1 i) = (if i = s then t else Y2.2.1 i) ∧ (if i = s then k else Y1.2.2 i) = (if i = s then k else Y2.2.2 i)
  by_cases e : i = s
  · simp only [if_pos e]
    exact ⟨trivial, trivial, trivial⟩
  · rw [if_neg e] at hk'
    simp only [if_neg e]
    exact h i hi hk'
theorem wP_le {Y1 Y2 : qY} (h : yLe T Y1 Y2) (hw : wP T lev Y2) : wP T lev Y1 := by
  intro a b ha hb ne ka kb hc
  obtain ⟨a1, a2, a3⟩ := h a ha ka
  obtain ⟨b1, b2, b3⟩ := h b hb kb
  refine hw a b ha hb ne (by rw [← a3]; exact ka) (by rw [← b3]; exact kb) ?_
  unfold sCrowd sLv sLast at hc ⊢
  rw [a1, a2, a3, b1, b2, b3] at hc
  exact hc
theorem at_le {Y1 Y2 : qY} (h : yLe T Y1 Y2) {u x : Nat} (hx : x < sN T) (hp : sAtP T Y1 u x) : sAtP T Y2 u x ∧ Y1.1 x = Y2.1 x ∧ Y1.2.2 x = Y2.2.2 x := by
  obtain ⟨a1, a2, a3⟩ := h x hx hp.1
  refine ⟨?_, a1, a3⟩
  show 0 < Y2.2.2 x ∧ Y2.2.1 x ≤ u ∧ (u : Int) < Y2.2.1 x + sWork T x (Y2.2.2 x)
  rw [← a2, ← a3]
  exact hp
theorem deal_le {Y1 Y2 : qY} {m : Int} {u : Nat} (h : yLe T Y1 Y2) (hk : ∀ s, 0 ≤ Y2.2.2 s) (hd : (sDeal T m Y2 u).1 = true) : (sDeal T m Y1 u).1 = true := deal_sub hk (fun x hx hp => at_le h hx hp) hd
theorem wY_le {Y1 Y2 : qY} (h : yLe T Y1 Y2) (hk : ∀ s, 0 ≤ Y2.2.2 s) (hw : wY T lev Y2) : wY T lev Y1 := ⟨wP_le h hw.1, fun t ht => deal_le h hk (hw.2.1 t ht), fun a ha ka => by
  obtain ⟨e1, -, e3⟩ := h a ha ka
  rw [e1]
  exact hw.2.2 a ha (by rw [← e3]; exact ka)⟩
theorem crP_crowd {s o : Nat} {x t k : Int} (hne : o ≠ s) : sCrowd T lev (yP Y s x t k) s o ↔ ((Y.2.1 o < sLeave T lev s t k ∧ t < sLv T lev Y o) ∧ (x ≤ sLast T Y o + T 1 ∧ Y.1 o ≤ x + sCon T s 0 - 1 + T 1)) := by
  have e1 : (yP Y s x t k).1 s = x := if_pos rfl
  have e2 : (yP Y s x t k).2.1 s = t := if_pos rfl
  have e3 : (yP Y s x t k).2.2 s = k := if_pos rfl
  have e4 : (yP Y s x t k).1 o = Y.1 o := if_neg hne
  have e5 : (yP Y s x t k).2.1 o = Y.2.1 o := if_neg hne
  have e6 : (yP Y s x t k).2.2 o = Y.2.2 o := if_neg hne
  unfold sCrowd sLv sLast
  rw [e1, e2, e3, e4, e5, e6]
  omega
theorem wP_put {s : Nat} {x t k : Int} (hw : wP T lev Y) (h7 : ¬ L7 T lev Y s x t k) : wP T lev (yP Y s x t k) := by
  have key : ∀ o, o < sN T → o ≠ s → 0 < Y.2.2 o → ¬ sCrowd T lev (yP Y s x t k) s o := fun o ho hne hk hc => by
    have := (crP_crowd hne).mp hc
    exact h7 ⟨o, ho, hne, hk, this.1, this.2⟩
  intro a b ha hb ne ka kb
  have ka' : 0 < (if a = s then k else Y.2.2 a) := ka
  have kb' : 0 < (if b = s then k else Y.2.2 b) := kb
  by_cases ea : a = s
  · subst ea
    rw [if_neg (fun e => ne e.symm)] at kb'
    exact key b hb (fun e => ne e.symm) kb'
  · rw [if_neg ea] at ka'
    by_cases eb : b = s
    · subst eb
      intro hc
      exact key a ha ea ka' (sCrowd_symm hc)
    · rw [if_neg eb] at kb'
      have n := hw a b ha hb ne ka' kb'
      intro hc
      apply n
      have e1 : (yP Y s x t k).1 a = Y.1 a := if_neg ea
      have e2 : (yP Y s x t k).2.1 a = Y.2.1 a := if_neg ea
      have e3 : (yP Y s x t k).2.2 a = Y.2.2 a := if_neg ea
      have e4 : (yP Y s x t k).1 b = Y.1 b := if_neg eb
      have e5 : (yP Y s x t k).2.1 b = Y.2.1 b := if_neg eb
      have e6 : (yP Y s x t k).2.2 b = Y.2.2 b := if_neg eb
      unfold sCrowd sLv sLast at hc ⊢
      rw [e1, e2, e3, e4, e5, e6] at hc
      exact hc
theorem wY_put (hb : bY T lev Y) {s : Nat} {x t k : Int} (h0 : Y.2.2 s = 0) (hw : wY T lev Y) (hf : x + sCon T s 0 ≤ T 0) (h7 : ¬ L7 T lev Y s x t k) (h9 : ¬ L9 T Y s x t k) : wY T lev (yP Y s x t k) := by
  refine ⟨wP_put hw.1 h7, fun u hu => ?_, fun a ha ka => ?_⟩
  rotate_left
  · have ka' : 0 < (if a = s then k else Y.2.2 a) := ka
    show (if a = s then x else Y.1 a) + sCon T a 0 ≤ T 0
    by_cases e : a = s
    · rw [if_pos e, e]
      exact hf
    · rw [if_neg e] at ka' ⊢
      exact hw.2.2 a ha ka'
  by_cases q : t ≤ u ∧ (u : Int) < t + sWork T s k
  · by_cases z : (sDeal T (-1) (yP Y s x t k) u).1 = true
    · exact z
    · exact absurd ⟨u, q, z⟩ h9
  · refine deal_sub (Y2 := Y) (v := u) (fun s => (hb.1 s).1) (fun i hi hp => ?_) (hw.2.1 u hu)
    have hp' : 0 < (if i = s then k else Y.2.2 i) ∧ (if i = s then t else Y.2.1 i) ≤ u ∧ (u : Int) < (if i = s then t else Y.2.1 i) + sWork T i (if i = s then k else Y.2.2 i) := hp
    by_cases e : i = s
    · subst e
      simp only [reduceIte] at hp'
      exact absurd hp'.2 q
    · show sAtP T Y u i ∧ (if i = s then x else Y.1 i) = Y.1 i ∧ (if i = s then k else Y.2.2 i) = Y.2.2 i
      simp only [if_neg e] at hp' ⊢
      exact ⟨hp', trivial, trivial⟩
theorem wY_x (hb : bY T lev Y) {s : Nat} (hw : wY T lev Y) : wY T lev (yX Y s) := wY_le yLe_x (fun s => (hb.1 s).1) hw
/-- the frame of looking for a broken law -/
def fL (S S' : qSto) : Prop := (∀ c, ¬ (c = 6 ∨ c = 8 ∨ (37 ≤ c ∧ c ≤ 41) ∨ c = 44 ∨ c = 45) → S' c = S c) ∧ ∀ i, i ≠ 10 → S' 6 i = S 6 i
theorem fL_rfl {S : qSto} : fL S S := ⟨fun _ _ => rfl, fun _ _ => rfl⟩
theorem fL_tr {S S' S2 : qSto} (h1 : fL S S') (h2 : fL S' S2) : fL S S2 := ⟨fun c a => (h2.1 c a).trans (h1.1 c a), fun i a => (h2.2 i a).trans (h1.2 i a)⟩
theorem fL_C {S S' : qSto} (h : fL S S') : fC S S' := fun c hc => h.1 c (by omega)
theorem fO8_L {S S' : qSto} (h : fO 8 S S') : fL S S' := ⟨fun c hc => h c (by omega), fun i _ => by rw [h 6 (by omega)]⟩
theorem suffices_s {S : qSto} (hI : iT S T lev) (hb : bY T lev Y) (hc : cY S T lev Y) {s : Nat} (hs : (s : Int) < T 9) (h0 : Y.2.2 s = 0) {x t k : Int} (hok : okS T lev s x t k) : ∃ r S', Dealer_suffices (s : Int) x t k (sWork T s k) S = some (r, S') ∧ (r = 0 ∨ r = 1) ∧ (r = 0 ↔ L9 T Y s x t k) ∧ cY S' T lev Y ∧ fL S S' ∧ S' 8 = S 8 := by
  have b9 := bT_n hI.1
  have b := okS_b hI.1 hs hok
  have cn := bT_con hI.1 hs
  obtain ⟨SP, eSP⟩ : ∃ SP, SP = qup (qup (qup (qup (qup S 37 s x) 38 s (x + sCon T s 0 - 1)) 39 s t) 40 s k) 41 s (sWork T s k) := ⟨_, rfl⟩
  have hp := propose_s hI hs (x := x) (t := t) (k := k) (w := sWork T s k)
  rw [← eSP] at hp
  have offP : ∀ c, ¬ (37 ≤ c ∧ c ≤ 41) → SP c = S c := fun c hc => by
    rw [eSP, qup_off (by omega), qup_off (by omega), qup_off (by omega), qup_off (by omega), qup_off (by omega)]
  have q37 : ∀ i, SP 37 i = if i = s then x else S 37 i := fun i => by
    rw [eSP, qup_off (by omega), qup_off (by omega), qup_off (by omega), qup_off (by omega), qup_on]
  have q38 : ∀ i, SP 38 i = if i = s then x + sCon T s 0 - 1 else S 38 i := fun i => by
    rw [eSP, qup_off (by omega), qup_off (by omega), qup_off (by omega), qup_on, qup_off (by omega)]
  have q39 : ∀ i, SP 39 i = if i = s then t else S 39 i := fun i => by
    rw [eSP, qup_off (by omega), qup_off (by omega), qup_on, qup_off (by omega), qup_off (by omega)]
  have q40 : ∀ i, SP 40 i = if i = s then k else S 40 i := fun i => by
    rw [eSP, qup_off (by omega), qup_on, qup_off (by omega), qup_off (by omega), qup_off (by omega)]
  have q41 : ∀ i, SP 41 i = if i = s then sWork T s k else S 41 i := fun i => by
    rw [eSP, qup_on, qup_off (by omega), qup_off (by omega), qup_off (by omega), qup_off (by omega)]
  have hIP : iT SP T lev := iT_off hI (fun c hc => offP c (by omega))
  have hbP : bY T lev (yP Y s x t k) := bY_put hI.1 hb hs (Or.inr hok)
  have hpP : pY SP T (yP Y s x t k) := by
    refine ⟨fun i hi => ?_, fun i hi hik => ?_⟩
    · rw [q40]
      show _ = if i = s then k else Y.2.2 i
      split
      · rfl
      · exact hc.1 i hi
    · rw [q37, q38, q39, q41]
      show (if i = s then x else S 37 i) = (if i = s then x else Y.1 i) ∧ (if i = s then x + sCon T s 0 - 1 else S 38 i) = (if i = s then x else Y.1 i) + sCon T i 0 - 1 ∧ (if i = s then t else S 39 i) = (if i = s then t else Y.2.1 i) ∧ (if i = s then sWork T s k else S 41 i) = sWork T i (if i = s then k else Y.2.2 i)
      have hik' : 0 < (if i = s then k else Y.2.2 i) := hik
      by_cases e : i = s
      · subst e
        simp only [reduceIte]
        exact ⟨trivial, trivial, trivial, trivial⟩
      · rw [if_neg e] at hik'
        simp only [if_neg e]
        have := hc.2.1 i hi hik'
        exact ⟨this.1, this.2.1, this.2.2.1, this.2.2.2.1⟩
  obtain ⟨S1, t1, t2, t3, t4⟩ := lineUp_s hbP hIP hpP
  have hl := sRow_len (T := T) (Y := yP Y s x t k) hI.1
  obtain ⟨r, S2, u1, u2, u3, u4⟩ := suffices_L hbP (t := t) (w := sWork T s k) (by omega) (by omega) (sRow (yP Y s x t k) (sN T)) qF 0 S1 rfl (by unfold qF; omega) (by omega) (iT_off hIP (fun c hc => t2.1 c (by omega) (by omega))) (pY_off hpP (fun c hc => t2.1 c (by omega) (by omega))) t3 t4
  have u1' : Dealer_suffices_L27 qF t (sWork T s k) 1 0 S1 = some (r, S2) := u1
  have off2 : ∀ c, ¬ (c = 6 ∨ (37 ≤ c ∧ c ≤ 41) ∨ c = 44 ∨ c = 45) → S2 c = S c := fun c hc => by
    rw [u2 c (by omega), t2.1 c (by omega) (by omega), offP c (by omega)]
  have in2 : ∀ c, 37 ≤ c ∧ c ≤ 41 → S2 c = SP c := fun c hc => by
    rw [u2 c (by omega), t2.1 c (by omega) (by omega)]
  refine ⟨r, qup S2 40 s 0, ?_, u3, ?_, ?_, ⟨fun c hc => ?_, fun i hi => ?_⟩, ?_⟩
  · rw [Dealer_suffices, hp]
    simp only [ob_some]
    rw [t1]
    simp only [ob_some]
    rw [u1']
    simp (disch := omega) only [ob_some, Stays_withdraw, qk_ix, Int.toNat_natCast]
    rw [qk_z u3]
  · have e2 : (yP Y s x t k).2.1 s = t := if_pos rfl
    have e3 : (yP Y s x t k).2.2 s = k := if_pos rfl
    have sf := sSuf_iff (T := T) (lev := lev) (Y := yP Y s x t k) hI.1 hbP (s := s) (by unfold sN; omega) (by rw [e3]; omega)
    rw [e2, e3] at sf
    have key : (r = 1) ↔ ¬ L9 T Y s x t k := by
      refine u4.trans (sf.trans ⟨fun h => ?_, fun h u hu => ?_⟩)
      · rintro ⟨u, v1, v2⟩
        exact v2 (h u v1)
      · by_cases z : (sDeal T (-1) (yP Y s x t k) u).1 = true
        · exact z
        · exact absurd ⟨u, hu, z⟩ h
    constructor
    · intro z
      by_cases q : L9 T Y s x t k
      · exact q
      · have := key.mpr q
        omega
    · intro z
      rcases u3 with q | q
      · exact q
      · exact absurd z (key.mp q)
  · refine ⟨fun i hi => ?_, fun i hi hik => ?_, fun u hu => ?_, ?_, ?_, ?_, ?_, ?_⟩
    · rw [qup_on, in2 40 (by omega), q40]
      by_cases e : i = s
      · rw [if_pos e, e, h0]
      · rw [if_neg e, if_neg e]
        exact hc.1 i hi
    · have e : ¬ i = s := fun e => by
        rw [e] at hik
        omega
      have z37 : (qup S2 40 s 0) 37 i = S 37 i := by rw [qup_off (by omega), in2 37 (by omega), q37, if_neg e]
      have z38 : (qup S2 40 s 0) 38 i = S 38 i := by rw [qup_off (by omega), in2 38 (by omega), q38, if_neg e]
      have z39 : (qup S2 40 s 0) 39 i = S 39 i := by rw [qup_off (by omega), in2 39 (by omega), q39, if_neg e]
      have z41 : (qup S2 40 s 0) 41 i = S 41 i := by rw [qup_off (by omega), in2 41 (by omega), q41, if_neg e]
      have z42 : (qup S2 40 s 0) 42 i = S 42 i := by rw [qup_off (by omega), off2 42 (by omega)]
      rw [z37, z38, z39, z41, z42]
      exact hc.2.1 i hi hik
    · rw [qup_off (by omega), off2 43 (by omega)]
      exact hc.2.2.1 u hu
    · intro i hi
      rw [qup_off (by omega), in2 37 (by omega), q37]
      split
      · omega
      · exact hc.2.2.2.1 i hi
    · intro i hi
      rw [qup_off (by omega), in2 38 (by omega), q38]
      split
      · omega
      · exact hc.2.2.2.2.1 i hi
    · intro i hi
      rw [qup_off (by omega), in2 39 (by omega), q39]
      split
      · omega
      · exact hc.2.2.2.2.2.1 i hi
    · intro i hi
      rw [qup_off (by omega), in2 41 (by omega), q41]
      split
      · omega
      · exact hc.2.2.2.2.2.2.1 i hi
    · intro i hi
      rw [qup_off (by omega), off2 42 (by omega)]
      exact hc.2.2.2.2.2.2.2 i hi
  · rw [qup_off (by omega), off2 c (by omega)]
  · rw [qup_off (by omega), u2 6 (by omega), t2.2 i hi, offP 6 (by omega)]
  · rw [qup_off (by omega), off2 8 (by omega)]
theorem sLeast_b {S : qSto} (hI : iT S T lev) {a b : Nat} (hab : a ≤ b) (hb : b < 1000) : 0 ≤ sLeast T a b ∧ sLeast T a b ≤ 300 := by
  have hd : ∀ m : Int, 0 ≤ sDepth T m ∧ sDepth T m ≤ 300 := fun m => by
    unfold sDepth
    have b6 := hI.1.2.2.2.2.2.2.1
    rcases sDep_spec hI.1 m (T 6).toNat (by omega) with ⟨-, h2⟩ | ⟨k, h1, h2, h3, h4⟩
    · rw [h2]
      show (0 : Int) ≤ 100 ∧ (100 : Int) ≤ 300
      omega
    · rw [h3]
      have := hI.1.2.2.2.2.2.2.2.2.2.2.1 k (by omega)
      exact this.2.1
  have key : ∀ (j m : Nat) (a : Int), 0 ≤ a → a ≤ 300 → 0 ≤ sLeastN T j m a ∧ sLeastN T j m a ≤ 300 := by
    intro j
    induction j with
    | zero => exact fun m a h1 h2 => ⟨h1, h2⟩
    | succ j ih =>
      intro m a h1 h2
      rw [sLeastN]
      have := hd (m : Int)
      exact ih (m + 1) _ (by omega) (by omega)
  unfold sLeast
  exact key _ _ _ (hd _).1 (hd _).2
theorem sLow_b {S : qSto} (hI : iT S T lev) {t e : Nat} (ht : t < 336) (he : e ≤ 336) : 0 ≤ sLow lev t e ∧ sLow lev t e ≤ 99 := by
  have hl : ∀ t, t < 336 → 0 ≤ lev t ∧ lev t ≤ 99 := fun t ht => (hI.2.2.2.1 t ht).2.2
  unfold sLow
  have := hl t ht
  rcases Nat.lt_or_ge t e with q | q
  · have z := sLowN_b lev hl (e - t) t (lev t) (by omega) this.1 this.2
    omega
  · rw [show e - t = 0 by omega, sLowN]
    exact this
/-- the class: the first law that is broken -/
theorem firstBroken_s {S : qSto} (hI : iT S T lev) (hb : bY T lev Y) (hc : cY S T lev Y) {s : Nat} (hs : (s : Int) < T 9) (h0 : Y.2.2 s = 0) {x t k : Int} (hx : qR x) (ht : qR t) (hk : qR k) : ∃ S', Laws_firstBroken (s : Int) x t k S = some (sLaw T lev Y s x t k, S') ∧ cY S' T lev Y ∧ fL S S' := by
  obtain ⟨k1, k2⟩ := id hk
  rw [Laws_firstBroken, Laws_fits_s hI hs hx]
  simp only [ob_some, ite01_m, ite01_n]
  unfold sLaw sEarly
  by_cases g : x < 0 ∨ T 0 < x + sCon T s 0
  · rw [if_pos g, if_pos g, if_neg (by omega)]
    exact ⟨S, rfl, hc, fL_rfl⟩
  · rw [if_neg g, if_neg g]
    obtain ⟨S1, t1, t2, t3⟩ := Laws_ofTime_s hI hs ht hk
    have hI1 : iT S1 T lev := iT_off hI (fun c hc => t2 c (by omega))
    have hc1 : cY S1 T lev Y := cY_off hc (fun c hc => t2 c (by omega))
    have rt := sTime_rng (T := T) (lev := lev) s t k
    rw [t1]
    simp only [ob_some]
    rw [qk_r (by omega) (by omega)]
    by_cases g2 : sTime T lev s t k = 0
    · rw [if_pos g2, if_pos g2]
      have hok : okS T lev s x t k := (sEarly_ok (T := T) (lev := lev) (s := s) (x := x) (t := t) (k := k) (by unfold sEarly; rw [if_neg g]; exact g2)).1
      have b := okS_b hI.1 hs hok
      have cn := bT_con hI.1 hs
      have b0 := hI.1.1
      have b1 := hI.1.2.1
      have b2 := hI.1.2.2.1
      have hok2 := hok.2.1
      obtain ⟨e84, e85⟩ := t3 g2
      have ec : Told_contractOf (s : Int) 0 S1 = some (sCon T s 0, S1) := Told_contractOf_s hI1 hs (w := 0) (by omega)
      have fx : ((x.toNat : Nat) : Int) = x := by omega
      have fx2 : (((x + sCon T s 0 - 1).toNat : Nat) : Int) = x + sCon T s 0 - 1 := by omega
      have ft : ((t.toNat : Nat) : Int) = t := by omega
      have fl : (((sLeave T lev s t k).toNat : Nat) : Int) = sLeave T lev s t k := by omega
      have es := Told_shallowest_s hI1 (a := x.toNat) (b := (x + sCon T s 0 - 1).toNat) (by omega) (by omega)
      rw [fx, fx2] at es
      have el := Waters_lowest_s hI1 (t := t.toNat) (e := (sLeave T lev s t k).toNat) (by omega) (by omega) (by omega)
      rw [ft, fl] at el
      have en := Told_waterNeededBy_s hI1 hs
      have r1 := sLeast_b hI1 (a := x.toNat) (b := (x + sCon T s 0 - 1).toNat) (by omega) (by omega)
      have r2 := sLow_b hI1 (t := t.toNat) (e := (sLeave T lev s t k).toNat) (by omega) (by omega)
      have r3 : 0 ≤ sNeed T s ∧ sNeed T s ≤ 330 := by unfold sNeed; omega
      simp (disch := omega) only [ec, ob_some, es, e85, el, en, qk_r]
      by_cases g6 : sNeed T s ≤ sLeast T x.toNat (x + sCon T s 0 - 1).toNat + sLow lev t.toNat (sLeave T lev s t k).toNat
      · rw [if_pos g6, cI_f (show ¬ L6 T lev s x t k by unfold L6; omega)]
        obtain ⟨r, p1, p2⟩ := pastObstacle_s hI1 hb hc1 hs (x := x) (t := t) (l := sLeave T lev s t k) (by omega) (by omega) (by omega) e85
        rw [p1]
        simp only [ob_some]
        rcases p2 with ⟨q1, q2⟩ | ⟨o, q1, q2, q3⟩
        · rw [q1, qk_r (by omega) (by omega), if_pos (Int.le_refl x), cI_f (show ¬ L7 T lev Y s x t k from fun ⟨o, o1, o2⟩ => q2 o o1 o2)]
          obtain ⟨r8, v1, v2⟩ := firstShort_s (s := s) hI1 hb hc1 (k := k) (t := t) (by omega) (by omega) (by omega) (by omega) e84
          rw [v1]
          simp only [ob_some]
          rcases v2 with ⟨w1, w2⟩ | ⟨u, w1, w2, w3⟩
          · obtain ⟨r9, S2, x1, x2, x3, x4, x5, x6⟩ := suffices_s hI1 hb hc1 hs h0 hok
            rw [w1, qk_r (by omega) (by omega), if_pos rfl, cI_f w2, e84, x1]
            simp only [ob_some]
            rw [qk_r (by omega) (by omega)]
            by_cases g9 : r9 = 0
            · rw [if_pos g9, cI_t (x3.mp g9)]
              exact ⟨S2, rfl, x4, fL_tr (fO8_L t2) x5⟩
            · rw [if_neg g9, cI_f (fun z => g9 (x3.mpr z))]
              exact ⟨S2, rfl, x4, fL_tr (fO8_L t2) x5⟩
          · rw [w1, qk_r (by omega) (by omega), if_neg (show ¬ (u : Int) = -1 by omega), cI_t (show L8 T Y s t k from ⟨u, w2, w3⟩)]
            exact ⟨S1, rfl, hc1, fO8_L t2⟩
        · have q4 := q3.2.2.2
          have oo := bY_one hI.1 hb (s := o) (by unfold sN at q2; omega) q3.2.1
          have co := bT_con hI.1 (s := o) (by unfold sN at q2; omega)
          unfold sLast at q1 q4
          rw [qk_r (by omega) (by omega), if_neg (show ¬ r ≤ x by omega), cI_t (show L7 T lev Y s x t k from ⟨o, q2, q3⟩)]
          exact ⟨S1, rfl, hc1, fO8_L t2⟩
      · rw [if_neg g6, cI_t (show L6 T lev s x t k by unfold L6; omega)]
        exact ⟨S1, rfl, hc1, fO8_L t2⟩
    · rw [if_neg g2, if_neg g2]
      exact ⟨S1, rfl, hc1, fO8_L t2⟩
end PG
