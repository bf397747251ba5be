/-! THE MAKING: calls -/
theorem nb_join {D : va_G} {cl : List vw_C} {A : Nat → Prop} {wr wc w1 : va_W} {H H1 : Heap} {z : Nat} (hz : H.size = z) (hP : va_P D cl (wr ++ wc) H) (hD : va_D A (wr ++ wc)) (hk : ∀ q, q < H.size → ¬ va_A wc z q → H1[q]? = H[q]?) (hF : ∀ q, va_A wc z q → A q) (hP1 : va_P D cl w1 H1) (hD1 : va_D (va_A wc z) w1) : va_P D cl (wr ++ w1) H1 ∧ va_D A (wr ++ w1) := by
  have lf : ∀ {k : Nat} {q : Nat × va_E} {w : va_W}, wr[k]? = some q → (wr ++ w)[k]? = some q := fun {k q w} h => by
    have hlt : k < wr.length := (List.getElem?_eq_some_iff.mp h).1
    rw [List.getElem?_append_left hlt]; exact h
  have rg : ∀ {k : Nat} {q : Nat × va_E} {w : va_W}, (wr ++ w)[k]? = some q → wr[k]? = some q ∨ ∃ j, k = wr.length + j ∧ w[j]? = some q := fun {k q w} h => by
    by_cases hlt : k < wr.length
    · rw [List.getElem?_append_left hlt] at h; exact Or.inl h
    · rw [List.getElem?_append_right (by omega)] at h; exact Or.inr ⟨k - wr.length, by omega, h⟩
  have off : ∀ (k : Nat) (q : Nat × va_E), wr[k]? = some q → ¬ va_A wc z q.1 := by
    intro k q hq h
    have hlt : k < wr.length := (List.getElem?_eq_some_iff.mp hq).1
    rcases h with ⟨j, e, hj⟩ | h
    · have h2 : (wr ++ wc)[wr.length + j]? = some (q.1, e) := by rw [List.getElem?_append_right (by omega)]; simpa using hj
      have := hD.1 k (wr.length + j) q (q.1, e) (lf hq) h2 rfl
      omega
    · have := (hP k q (lf hq)).lt
      omega
  have hPr : va_P D cl wr H1 := fun k q hq => (hP k q (lf hq)).kept (hk q.1 (hP k q (lf hq)).lt (off k q hq))
  refine ⟨hPr.app hP1, fun i j p q hi hj hpq => ?_, fun k q hq => ?_⟩
  · rcases rg hi with h1 | ⟨i', rfl, h1⟩ <;> rcases rg hj with h2 | ⟨j', rfl, h2⟩
    · exact hD.1 i j p q (lf h1) (lf h2) hpq
    · exact absurd (by rw [hpq]; exact hD1.2 j' q h2) (off i p h1)
    · exact absurd (by rw [← hpq]; exact hD1.2 i' p h1) (off j q h2)
    · rw [hD1.1 i' j' p q h1 h2 hpq]
  · rcases rg hq with h1 | ⟨j, rfl, h1⟩
    · exact hD.2 k q (lf h1)
    · exact hF _ (hD1.2 j q h1)
theorem nb_in {A : Nat → Prop} {wr wc : va_W} {z : Nat} (hD : va_D A (wr ++ wc)) (hA : ∀ q, z ≤ q → A q) : ∀ q, va_A wc z q → A q := by
  intro q h
  rcases h with ⟨j, e, hj⟩ | h
  · exact hD.2 (wr.length + j) (q, e) (by rw [List.getElem?_append_right (by omega)]; simpa using hj)
  · exact hA q h
theorem nb_cut {D : va_G} {cl : List vw_C} {wr wc : va_W} {H : Heap} (hP : va_P D cl (wr ++ wc) H) : va_P D cl wc H := fun k q hq => hP (wr.length + k) q (by rw [List.getElem?_append_right (by omega)]; simpa using hq)
theorem nb_cutD {A : Nat → Prop} {wr wc : va_W} (hD : va_D A (wr ++ wc)) : va_D A wc := by
  have h : ∀ {k : Nat} {q : Nat × va_E}, wc[k]? = some q → (wr ++ wc)[wr.length + k]? = some q := fun {k q} hq => by rw [List.getElem?_append_right (by omega)]; simpa using hq
  exact ⟨fun i j p q hi hj e => by have := hD.1 _ _ p q (h hi) (h hj) e; omega, fun k q hk => hD.2 _ q (h hk)⟩
theorem nb_good {ws : List Cond} (h : ∀ w ∈ ws, w ∈ qwords) : GoodIn qwords ws := fun w hw => ⟨h w hw, good_of_word (qwords_good (h w hw))⟩
theorem nbP_blind {X : qX} {vs : List qV} {ws : va_W} {sz : Nat} {Ex : State → Prop} (hE : ∀ (U : State) (g : JFrame) (mk : MethodId) (a : Array Value), Ex U → Ex (U.calling g mk a)) : FrameBlind (nbP X vs ws sz Ex) := by
  intro a U g mk q
  obtain ⟨q0, q1, q2, q3, q4, q5⟩ := q
  exact ⟨q0, q1, q2, q3, va_K.moved (u := U) (U := U.calling g mk a) (Vm.Alike.refl U.vm) q4, hE U g mk a q5⟩
section NC
variable {X : qX} {R : Room} {y : MethodName} {bc : ByteArray} {ml : Nat} {A : Nat → Prop} {sz : Nat} {Ex : State → Prop} {wse ws : va_W} {mc ms pc pc' nc ns : Nat} {lv : qLv} {st : List qV} {S : qSto}
/-- the world's cells in another order, or fewer -/
theorem nb_sub {ws' : va_W} (is : List Nat) (hs : is.filterMap (fun i => ws[i]?) = ws') (hs2 : is.map (fun i => ws[i]?) = ws'.map some) (hn : va_nd is = true) (k : nbW X R y bc ml A sz Ex wse mc ms pc lv st ws' nc ns) : nbW X R y bc ml A sz Ex wse mc ms pc lv st ws nc ns := by
  intro p e s m args below meth cd H locs ls C hz hP hD hS hl
  exact k p e s m args below meth cd H locs ls C hz (hP.sub is hs) (hD.sub is hn hs2) hS hl
theorem nb_eqw {ws' : va_W} (hs : ws = ws') (k : nbW X R y bc ml A sz Ex wse mc ms pc lv st ws' nc ns) : nbW X R y bc ml A sz Ex wse mc ms pc lv st ws nc ns := hs ▸ k
theorem nb_after {wr wc w1 : va_W} {mc' ms' : Nat} {st0 : List qV} {a : Array Value} {p : Program} {e : Env} {s : State} {m : MethodId} {args : Array Value} {below : List Frame} {meth : Method} {c : Code} {H : Heap} {locs : List Loc} {ls : Array Slot}
    (C : nbX X y bc ml A sz Ex p s m args meth c) (hz : H.size = sz + nc) (hP : va_P (qD X) vwCl (wr ++ wc) H) (hD : va_D A (wr ++ wc)) (hS : va_S A s.heap H locs) (hl : lv_has ls ml (qlv X lv))
    (hr : va_Run p X.1 e R s m args below meth c H locs nc ns mc' ms' (F0 m pc ls (st0.map (qvl X))) (st.map (qvl X)) (nbQ X (va_A wc (sz + nc)) w1 (sz + nc + mc') a) (va_A wc (sz + nc)))
    (k : nbW X R y bc ml A sz Ex wse mc ms (pc + 3) lv st (wr ++ w1) (nc + mc') (ns + ms')) : W p X.1 e R s m args below meth c H locs nc ns (MQ below (nbQ X A wse (sz + mc)) args s mc ms A) (F0 m pc ls (st0.map (qvl X))) := by
  obtain ⟨x1, x2, x3, x4, x5, x6, x7, x8, x9, x10, x11, x12⟩ := id C
  have hF := nb_in hD (z := sz + nc) (fun q h => x11 q (by omega))
  refine va_callv hr hS (fun q _ h => hF q h) hF (fun u t H1 locs1 ht hvm _ hB hz1 hk1 hS1 => ?_)
  obtain ⟨b1, b2, b3, b4⟩ := hB
  rw [ht] at b1 b2
  obtain ⟨hP', hD'⟩ := nb_join hz hP hD hk1 hF b2 b3
  exact k p e s m args below meth c H1 locs1 ls C (by omega) hP' hD' hS1 hl
theorem nb_callI {o mz idx n f mc' ms' : Nat} {z : MethodName} {bz : ByteArray} {as st0 : List qV} {wr wc w1 : va_W} {Ez : State → Prop} (hd : decode bc pc = .ok (.invokespecial idx, 3)) (h1 : Cond.methodLink y.cls idx z ∈ qwords) (h2 : Cond.instanceMethod z ∈ qwords) (h3 : Cond.initialized z.cls ∈ qwords) (h4 : Cond.code z bz mz none ∈ qwords) (hzn : z.name = "<init>") (hpd : z.cls ≠ "java/lang/invoke/MethodHandle" ∧ z.cls ≠ "java/lang/invoke/VarHandle" ∧ (parseMethodDescriptor z.desc).map (fun d => d.parameters.length) = some n) (hmz : mz ≤ 40) (hst : st0 = as.reverse ++ qr o :: st) (hn : as.length = n) (hr : qroom st ≤ 8) (hRf : f + 2 ≤ R.frames) (hRl : 64 * (f + 2) ≤ R.locals) (hc : nc + mc' ≤ R.cells) (hs : ns + ms' ≤ R.slots)
    (hE : ∀ (U : State) (g : JFrame) (mk : MethodId) (a : Array Value), Ez U → Ez (U.calling g mk a)) (hE2 : ∀ (s U : State) (H : Heap) (locs : List Loc), Ex s → va_S A s.heap H locs → s.WarmedH U.vm → U.heap = H → Ez U)
    (hM : nbC X f z bz mz (qr o :: as) wc (sz + nc) Ez w1 mc' ms') (hw : ws = wr ++ wc) (hp : pc + 3 = pc') (k : nbW X R y bc ml A sz Ex wse mc ms pc' lv st (wr ++ w1) (nc + mc') (ns + ms')) : nbW X R y bc ml A sz Ex wse mc ms pc lv st0 ws nc ns := by
  subst hp
  subst hst
  subst hw
  intro p e s m args below meth cd H locs ls C hz hP hD hS hl
  obtain ⟨x1, x2, x3, x4, x5, x6, x7, x8, x9, x10, x11, x12⟩ := id C
  refine nb_size (fun hz2 => ?_)
  have hsz : H.size = sz + nc := by omega
  have hG : GoodIn qwords (qwm z bz mz none) := nb_good (fun w hw => by
    rcases List.mem_cons.mp hw with rfl | hw
    · exact h4
    · exact hw)
  refine nb_after C hsz hP hD hS hl (va_runI (b := qad X o) (As := as.map (qvl X)) (rest := st.map (qvl X)) ⟨x1, x2, x3, x6, x7⟩ hM (cwI n x7 hG rfl rfl rfl (x7 _ h3) (x7 _ h1) (x7 _ h2) hzn hpd ⟨hRf, by show 8 + (mz + 11) + 64 * (f + 1) ≤ _; omega⟩) ⟨nbP_blind hE, fun U hU hW => ?_⟩ rfl (by rw [List.length_map]; exact hn) hl.1 (by simp [qvl]) (lv_room (by rw [qroom_eq]; exact hr)) hd ⟨hc, hs⟩) k
  exact ⟨by simp [qvl], by rw [hU]; exact hsz, by rw [hU]; exact nb_cut hP, (nb_cutD hD).weaken (fun _ _ _ _ => trivial), va_K.moved hW.alike x8, hE2 s U H locs x12 hS hW hU⟩
/-- a private constructor of a nest mate -/
theorem nb_callN {o mz idx n f mc' ms' : Nat} {z : MethodName} {bz : ByteArray} {as st0 : List qV} {wr wc w1 : va_W} {Ez : State → Prop} (hd : decode bc pc = .ok (.invokespecial idx, 3)) (h1 : ∀ U : State, Ex U → va_Nw (.methodLinkNest y.cls idx z "QuayBerths") U) (h2 : Cond.instanceMethod z ∈ qwords) (h3 : Cond.initialized z.cls ∈ qwords) (h4 : Cond.code z bz mz none ∈ qwords) (hzn : z.name = "<init>") (hpd : z.cls ≠ "java/lang/invoke/MethodHandle" ∧ z.cls ≠ "java/lang/invoke/VarHandle" ∧ (parseMethodDescriptor z.desc).map (fun d => d.parameters.length) = some n) (hmz : mz ≤ 40) (hst : st0 = as.reverse ++ qr o :: st) (hn : as.length = n) (hr : qroom st ≤ 8) (hRf : f + 2 ≤ R.frames) (hRl : 64 * (f + 2) ≤ R.locals) (hc : nc + mc' ≤ R.cells) (hs : ns + ms' ≤ R.slots)
    (hE : ∀ (U : State) (g : JFrame) (mk : MethodId) (a : Array Value), Ez U → Ez (U.calling g mk a)) (hE2 : ∀ (s U : State) (H : Heap) (locs : List Loc), Ex s → va_S A s.heap H locs → s.WarmedH U.vm → U.heap = H → Ez U)
    (hM : nbC X f z bz mz (qr o :: as) wc (sz + nc) Ez w1 mc' ms') (hw : ws = wr ++ wc) (hp : pc + 3 = pc') (k : nbW X R y bc ml A sz Ex wse mc ms pc' lv st (wr ++ w1) (nc + mc') (ns + ms')) : nbW X R y bc ml A sz Ex wse mc ms pc lv st0 ws nc ns := by
  subst hp
  subst hst
  subst hw
  intro p e s m args below meth cd H locs ls C hz hP hD hS hl
  obtain ⟨x1, x2, x3, x4, x5, x6, x7, x8, x9, x10, x11, x12⟩ := id C
  refine nb_size (fun hz2 => ?_)
  have hsz : H.size = sz + nc := by omega
  have hG : GoodIn qwords (qwm z bz mz none) := nb_good (fun w hw => by
    rcases List.mem_cons.mp hw with rfl | hw
    · exact h4
    · exact hw)
  refine nb_after C hsz hP hD hS hl (va_runIN (b := qad X o) (As := as.map (qvl X)) (rest := st.map (qvl X)) ⟨x1, x2, x3, x6, x7⟩ hM ⟨va_cnB n x7 hG rfl rfl rfl (h1 s x12) (x7 _ h3) hpd ⟨hRf, by show 8 + (mz + 11) + 64 * (f + 1) ≤ _; omega⟩, hzn, x7 _ h2⟩ ⟨nbP_blind hE, fun U hU hW => ?_⟩ rfl (by rw [List.length_map]; exact hn) hl.1 (by simp [qvl]) (lv_room (by rw [qroom_eq]; exact hr)) hd ⟨hc, hs⟩) k
  exact ⟨by simp [qvl], by rw [hU]; exact hsz, by rw [hU]; exact nb_cut hP, (nb_cutD hD).weaken (fun _ _ _ _ => trivial), va_K.moved hW.alike x8, hE2 s U H locs x12 hS hW hU⟩
/-- a method without numbers and answer, over a finished part of the world -/
theorem nb_callQ {X' : qX} {o o' mz idx d ci nf : Nat} {z : MethodName} {bz : ByteArray} {q : vw_C} {st0 : List qV} {wr : va_W} {S1 : qSto} (hX1 : X'.1 = X.1) (hXD : qD X' = qD X) (hXt : qtys X' = qtys X) (hd : decode bc pc = .ok (.invokevirtual idx, 3)) (hm : qML y.cls idx z bz mz none 0) (hst : st0 = qr o :: st) (hoo : qad X' o' = qad X o) (hc : o' ∈ qLs X') (hs : qsh o' = (0, ci, nf)) (hcl : vwCl[ci]? = some q) (hcn : q.1 = z.cls) (hr : qroom st ≤ 8) (hRf : d + 2 ≤ R.frames) (hRl : 64 * (d + 2) ≤ R.locals) (hcc : nc ≤ R.cells) (hss : ns ≤ R.slots)
    (hE : ∀ (s U : State) (H : Heap) (locs : List Loc), Ex s → va_S A s.heap H locs → s.WarmedH U.vm → U.heap = H → qEx X' U U.heap) (hM : ∀ Q', Q' none S1 → qC X' d z bz mz none [qr o'] S Q') (hw : ws = wr ++ qws X' S) (hp : pc + 3 = pc') (k : nbW X R y bc ml A sz Ex wse mc ms pc' lv st (wr ++ qws X' S1) nc ns) : nbW X R y bc ml A sz Ex wse mc ms pc lv st0 ws nc ns := by
  subst hp
  subst hst
  subst hw
  intro p e s m args below meth cd H locs ls C hz hP hD hS hl
  obtain ⟨x1, x2, x3, x4, x5, x6, x7, x8, x9, x10, x11, x12⟩ := id C
  refine nb_size (fun hz2 => ?_)
  have hsz : H.size = sz + nc := by omega
  obtain ⟨m1, m2, m3, m4, m5, m6, m7⟩ := hm
  have hG : GoodIn qwords (wsV y.cls idx z.cls z (qwm z bz mz none)) := nb_good (fun w hw => by
    simp only [wsV, qwm, List.mem_append, List.mem_cons, List.not_mem_nil, or_false] at hw
    rcases hw with (rfl | rfl | rfl | rfl) | rfl | hw
    · exact m1
    · exact m2
    · exact m3
    · exact m4
    · exact m5
    · exact hw)
  have hM' : Met X.1 z (qwm z bz mz none) (qrm d) (qPc X' [qr o'] S) (qQc X' (fun r S' => r = none ∧ S' = S1)) 0 0 (qA X') := by
    have h := hM (fun r S' => r = none ∧ S' = S1) ⟨rfl, rfl⟩
    unfold qC at h
    rw [hX1] at h
    exact h
  have hPc := nb_cut hP
  have hDc := nb_cutD hD
  obtain ⟨kk, hk1, hk2⟩ := qws_at (X := X') (S := S) hc
  rw [qcell_O hs] at hk2
  have hqA : ∀ q, qA X' q → va_A (qws X' S) (sz + nc) q := by
    rintro q ⟨c, hc, rfl⟩
    obtain ⟨k2, -, h2⟩ := qws_at (X := X') (S := S) hc
    exact Or.inl ⟨k2, _, h2⟩
  have hDq : va_D (qA X') (qws X' S) := by
    refine ⟨hDc.1, fun k q hq => ?_⟩
    rw [qws, List.getElem?_map] at hq
    cases hj : (qLs X')[k]? with
    | none => rw [hj] at hq; cases hq
    | some a =>
      rw [hj] at hq
      cases hq
      exact ⟨a, List.mem_of_getElem? hj, rfl⟩
  have hF := nb_in hD (z := sz + nc) (fun q h => x11 q (by omega))
  have hrun := va_runV (p := p) (l := X.1) (e := e) (R := R) (s := s) (m := m) (args := args) (below := below) (meth := meth) (c := cd) (H := H) (locs := locs) (cells := nc) (slots := ns) (g := F0 m pc ls ((qr o :: st).map (qvl X))) (b := qad X' o') (As := []) (rest := st.map (qvl X)) ⟨x1, x2, x3, x6, x7⟩ hM' (cwV 0 x7 hG rfl rfl rfl ⟨rfl, m6⟩ ⟨hRf, by show 8 + (mz + 11) + 64 * (d + 1) ≤ _; omega⟩) ⟨qPc_blind, (by
      have h9 := va_recv x8 hPc hcl hk2
      rw [hcn] at h9
      exact h9), fun U hU hW => ⟨rfl, by rw [hU]; exact ⟨by rw [hXD]; exact hPc, hDq, by rw [hXD, hXt]; exact va_K.moved hW.alike x8⟩, hE s U H locs x12 hS hW hU⟩⟩ rfl rfl hl.1 (by simp [qvl, hoo]) (lv_room (by rw [qroom_eq]; exact hr)) hd ⟨hcc, hss⟩
  intro T hT Xs
  obtain ⟨v, st₀, t, T', L, h0, X'', hL, e1, e2, ⟨⟨r, S', ⟨hq1, hq2⟩, hv, w1, w2, w3⟩, hz3, hk⟩, st9⟩ := hrun T hT Xs
  subst hq1
  subst hq2
  cases hv
  rw [h0] at hz3 hk
  rw [hXD] at w1
  obtain ⟨hP', hD'⟩ := nb_join (w1 := qws X' S') (H1 := T'.heap) hsz hP hD (fun q h1 h2 => by rw [e1]; exact hk q h1 (fun h => h2 (hqA q h))) hF (by rw [e1]; exact w1) ⟨w2.1, fun k q hq => hqA _ (w2.2 k q hq)⟩
  obtain ⟨t2, a1, b1⟩ := k p e s m args below meth cd T'.heap (locs ++ L) ls C (by rw [e1]; omega) hP' hD' ⟨Nat.le_trans hS.1 (by rw [e1]; exact hz3), fun q h1 h2 => by rw [e1, hk q (Nat.lt_of_lt_of_le h1 hS.1) (fun h => h2 (hF _ (hqA q h)))]; exact hS.2.1 q h1 h2, fun q hq => by
      rcases List.mem_append.mp hq with h | h
      · exact hS.2.2 q h
      · exact hF _ (hqA _ (hL q h))⟩ hl T' rfl X''
  exact ⟨t2, st9 t2 a1, b1⟩
end NC
