/-! THE LAW: from its entry -/
theorem nq_cq : Cond.classLink RL 7 RX11 ∈ lw_tbl := List.mem_of_getElem? (i := 146) (by decide +kernel)
theorem nq_cm : Cond.classLink RL 10 RX12 ∈ lw_tbl := List.mem_of_getElem? (i := 1326) (by decide +kernel)
theorem nq_iq : Cond.initialized RX11 ∈ lw_tbl := List.mem_of_getElem? (i := 125) (by decide +kernel)
theorem nq_im : Cond.initialized RX12 ∈ lw_tbl := List.mem_of_getElem? (i := 139) (by decide +kernel)
theorem nq_lq : Cond.methodLink RL 9 yX11_init ∈ qwords := q_mem (i := 148) (by decide +kernel) (by decide +kernel)
theorem nq_lm : Cond.methodLink RL 12 yX12_init ∈ qwords := q_mem (i := 1328) (by decide +kernel) (by decide +kernel)
theorem nq_nq : Cond.instanceMethod yX11_init ∈ qwords := q_mem (i := 149) (by decide +kernel) (by decide +kernel)
theorem nq_nm : Cond.instanceMethod yX12_init ∈ qwords := q_mem (i := 1329) (by decide +kernel) (by decide +kernel)
theorem nq_kq : Cond.code yX11_init cX11_init 1 none ∈ qwords := q_mem (i := 150) (by decide +kernel) (by decide +kernel)
theorem nq_km : Cond.code yX12_init cX12_init 1 none ∈ qwords := q_mem (i := 1330) (by decide +kernel) (by decide +kernel)
theorem nq_good {z : MethodName} {bz : ByteArray} {mz : Nat} (h : Cond.code z bz mz none ∈ qwords) : GoodIn lw_tbl (qwm z bz mz none) := fun w hw => by
  have h9 : w ∈ qwords := by
    rcases List.mem_cons.mp hw with rfl | hw
    · exact h
    · exact hw
  exact ⟨q_tbl h9, good_of_word (qwords_good h9)⟩
theorem nQE.at {X : qX} {A B : Nat → Prop} {s U : State} {locs : List Loc} {H : Heap} (h : nQE X A s) (hS : va_S B s.heap H locs) (hB : ∀ q, B q → A q) (hW : s.WarmedH U.vm) (hU : U.heap = H) : nQE X A U :=
  ⟨h.1.at hS hB hW hU, va_Nw.warmM hW h.2.1, va_Nw.warmM hW h.2.2.1, va_Nw.warmM hW h.2.2.2.1, h.2.2.2.2.moved hW.alike⟩
theorem nQE_blind {X : qX} {A : Nat → Prop} (U : State) (g : JFrame) (mk : MethodId) (a : Array Value) (h : nQE X A U) : nQE X A (U.calling g mk a) :=
  ⟨h.1.same rfl rfl, va_Nw.same rfl rfl h.2.1, va_Nw.same rfl rfl h.2.2.1, va_Nw.same rfl rfl h.2.2.2.1, h.2.2.2.2.moved (Vm.Alike.refl _)⟩
theorem nq_one {D : va_G} {cl : List vw_C} {q : Nat × va_E} {H : Heap} (h : va_at D cl q H) : va_P D cl [q] H := fun k x hx => by
  have hz : k < 1 := (List.getElem?_eq_some_iff.mp hx).1
  rw [show k = 0 by omega] at hx
  cases hx
  exact h
theorem nq_oneD {A : Nat → Prop} {q : Nat × va_E} (h : A q.1) : va_D A [q] := by
  have z : ∀ {k : Nat} {x : Nat × va_E}, [q][k]? = some x → k = 0 ∧ x = q := fun {k x} hx => by
    have hz : k < 1 := (List.getElem?_eq_some_iff.mp hx).1
    have hk : k = 0 := by omega
    subst hk
    cases hx
    exact ⟨rfl, rfl⟩
  exact ⟨fun i j x y hi hj _ => by rw [(z hi).1, (z hj).1], fun k x hx => by rw [(z hx).2]; exact h⟩
set_option maxHeartbeats 8000000 in
set_option maxRecDepth 50000 in
/-- YOUR PART: from the entry, for every script of at most 3072 ints, the law comes to its end with true ('hflags': the launch's flags, for a law that throws: no stack traces) -/
theorem whole_start {p : Program} {e : Env} {s : State} {m : MethodId} {below : List Frame} {meth : Method} {c : Code} (l : Launch) (hflags : l.flags = flags0) {b L : Nat} {xs : Nat → Int32} (hL : L ≤ 3072) (C0 : lw_At p s m meth c b L xs) : W p l e room_1 s m #[Value.ref b] below meth c s.heap [] 0 0 (lw_Z below #[Value.ref b] s) (entryFrame m ([Value.ref b] : List Value).toArray 4) := by
  obtain ⟨hx, hb, hr, hml, hown, hts, hX, hbl, hlocks, hgv⟩ := id C0
  obtain ⟨X, hX1, ha, ha2, hLs, hK, hE⟩ := n_world l hts hgv
  obtain ⟨F, S1, S2, f1, f2, f3, f4⟩ := n_first
  subst hX1
  have hLa : ∀ c, c < 93 → c ∈ qLs X := fun c hc => by rw [hLs]; exact nLs_all c hc
  have hXA : ∀ q, qA X q → s.heap.size ≤ q := by
    rintro q ⟨c, hc, rfl⟩
    rw [hLs] at hc
    have hc93 := nLs_lt c hc
    by_cases h : c < 70
    · rw [ha c h]; omega
    · rw [ha2 c (by omega) hc93]; omega
  have a0 : qad X 0 = s.heap.size := ha 0 (by decide)
  have a70 : qad X 70 = s.heap.size + 70 := ha2 70 (by decide) (by decide)
  have hl := lv_entry ([.ref b]) (n := 4) (Nat.le_of_ble_eq_true rfl)
  rw [lg_entry_eq]
  generalize (lg_sl ([.ref b]) ++ List.replicate (4 - (lg_sl ([.ref b])).length) Slot.unset).toArray = ls at hl ⊢
  have hl : lv_has ls 4 [(0, .ref b)] := hl
  -- the class
  refine W.newcK (C := RX11) (n := 15) hx hb hown (hts _ nq_cq) (hts _ qin_11) (hts _ nq_iq) rfl dL_law_0 (Nat.le_of_ble_eq_true rfl) (Nat.le_of_ble_eq_true rfl) (hK.1 11 _ rfl).2.1 rfl (fun H1 kC hkC e1 z1 o1 => ?_)
  have hS1 : va_S (fun q => s.heap.size ≤ q) s.heap H1 [] := ⟨by omega, fun q h1 _ => o1 q h1, fun _ h => by cases h⟩
  have hP1 : va_P (qD X) vwCl [(qad X 0, .inr (11, [.null, .int 0, .null, .null, .null, .null, .null, .null, .null, .null, .null, .null, .null, .null, .null]))] H1 := nq_one (by rw [a0]; exact ⟨_, rfl, (u_born tyX11 hts (fun w hw => q_tbl (lay_11 w hw)) (hK.1 11 _ rfl) hkC e1 tyX11_ok).to n_df11⟩)
  refine W.eq (g2 := F0 m 3 ls [.ref (qad X 0)]) (by rw [a0]) ?_
  refine lv_dup hx hb dL_law_3 rfl ?_
  have hF1 : ∀ q, va_A [(qad X 0, .inr (11, [.null, .int 0, .null, .null, .null, .null, .null, .null, .null, .null, .null, .null, .null, .null, .null]))] (s.heap.size + 1) q → s.heap.size ≤ q := by
    rintro q (⟨k, e, hk⟩ | h)
    · have hz : k < 1 := (List.getElem?_eq_some_iff.mp hk).1
      rw [show k = 0 by omega] at hk
      cases hk
      rw [a0]
      exact Nat.le_refl _
    · omega
  refine va_callv (va_runI (b := qad X 0) (As := []) (rest := [.ref (qad X 0)]) ⟨hx, hb, hml, hown, hts⟩ (mk_0 (X := X) (F := F) (sz := s.heap.size) (A := fun q => s.heap.size ≤ q) (fun c h1 _ => ha c h1) hF1 f1) (cwI 0 hts (nq_good nq_kq) rfl rfl rfl (hts _ nq_iq) (hts _ (q_tbl nq_lq)) (hts _ (q_tbl nq_nq)) rfl ⟨by decide +kernel, by decide +kernel, by decide +kernel⟩ ⟨Nat.le_of_ble_eq_true rfl, Nat.le_of_ble_eq_true rfl⟩) ⟨nbP_blind nQE_blind, fun U hU hW => ⟨rfl, by rw [hU]; exact z1, by rw [hU]; exact hP1, nq_oneD trivial, va_K.moved hW.alike hK, hE.at hS1 (fun _ h => h) hW hU⟩⟩ rfl rfl hl.1 rfl (lv_room (Nat.le_of_ble_eq_true rfl)) dL_law_4 ⟨Nat.le_of_ble_eq_true rfl, Nat.le_of_ble_eq_true rfl⟩) hS1 (fun q _ h => hF1 q h) hF1 (fun u t H2 locs2 ht2 hvm2 _ hB2 hz2 hk2 hS2 => ?_)
  obtain ⟨b1, b2, b3, b4⟩ := hB2
  rw [ht2] at b1 b2
  have hD2 : va_D (fun q => s.heap.size ≤ q) (nws X (nSb F) nLQ) := b3.weaken (fun _ _ _ h => hF1 _ h)
  refine lv_astore_n (lv' := [(1, .ref (qad X 0)), (0, .ref b)]) hx hb dL_law_7 rfl hl (by decide) rfl (fun ls hl => ?_)
  -- the reference
  refine nb_size (fun hz3 => ?_)
  have hsz2 : H2.size = s.heap.size + 70 := by omega
  refine W.newcK (C := RX12) (n := 42) hx hb hown (hts _ nq_cm) (hts _ qin_12) (hts _ nq_im) rfl dL_law_8 (Nat.le_of_ble_eq_true rfl) (Nat.le_of_ble_eq_true rfl) (hK.1 12 _ rfl).2.1 hsz2 (fun H3 kC hkC e1 z3 o3 => ?_)
  have hS3 : va_S (fun q => s.heap.size ≤ q) s.heap H3 locs2 := ⟨by omega, fun q h1 h2 => (o3 q (by omega)).trans (hS2.2.1 q h1 h2), hS2.2.2⟩
  have hP3 : va_P (qD X) vwCl ([(qad X 70, .inr (12, [.null, .null, .null, .null, .null, .int 0, .int 0, .int 0, .int 0, .int 0, .int 0, .int 0, .int 0, .int 0, .int 0, .int 0, .int 0, .long 0, .null, .null, .null, .null, .null, .null, .null, .null, .null, .int 0, .int 0, .null, .null, .int 0, .null, .null, .null, .null, .null, .int 0, .int 0, .int 0, .null, .int 0]))] ++ nws X (nSb F) nLQ) H3 := va_P.app (nq_one (by rw [a70]; exact ⟨_, rfl, (u_born tyX12 hts (fun w hw => q_tbl (lay_12 w hw)) (hK.1 12 _ rfl) hkC e1 tyX12_ok).to n_df12⟩)) (b2.kept (fun k x hx => o3 x.1 (by have := (b2 k x hx).lt; omega)))
  have hD3 : va_D (fun q => s.heap.size ≤ q) ([(qad X 70, .inr (12, [.null, .null, .null, .null, .null, .int 0, .int 0, .int 0, .int 0, .int 0, .int 0, .int 0, .int 0, .int 0, .int 0, .int 0, .int 0, .long 0, .null, .null, .null, .null, .null, .null, .null, .null, .null, .int 0, .int 0, .null, .null, .int 0, .null, .null, .null, .null, .null, .int 0, .int 0, .int 0, .null, .int 0]))] ++ nws X (nSb F) nLQ) := by
    have h := nb_more (wn := [(qad X 70, .inr (12, [.null, .null, .null, .null, .null, .int 0, .int 0, .int 0, .int 0, .int 0, .int 0, .int 0, .int 0, .int 0, .int 0, .int 0, .int 0, .long 0, .null, .null, .null, .null, .null, .null, .null, .null, .null, .int 0, .int 0, .null, .null, .int 0, .null, .null, .null, .null, .null, .int 0, .int 0, .int 0, .null, .int 0]))]) b2 hD2 (fun q h => by omega) (fun i q hq => by
      have hz : i < 1 := (List.getElem?_eq_some_iff.mp hq).1
      rw [show i = 0 by omega] at hq
      cases hq
      rw [a70, hsz2]
      omega)
    refine ⟨fun i j x y hi hj hxy => ?_, fun k x hx => ?_⟩
    · have tr : ∀ {k : Nat} {x : Nat × va_E}, ([(qad X 70, .inr (12, [.null, .null, .null, .null, .null, .int 0, .int 0, .int 0, .int 0, .int 0, .int 0, .int 0, .int 0, .int 0, .int 0, .int 0, .int 0, .long 0, .null, .null, .null, .null, .null, .null, .null, .null, .null, .int 0, .int 0, .null, .null, .int 0, .null, .null, .null, .null, .null, .int 0, .int 0, .int 0, .null, .int 0]))] ++ nws X (nSb F) nLQ)[k]? = some x → (k = 0 ∧ (nws X (nSb F) nLQ ++ [(qad X 70, .inr (12, [.null, .null, .null, .null, .null, .int 0, .int 0, .int 0, .int 0, .int 0, .int 0, .int 0, .int 0, .int 0, .int 0, .int 0, .int 0, .long 0, .null, .null, .null, .null, .null, .null, .null, .null, .null, .int 0, .int 0, .null, .null, .int 0, .null, .null, .null, .null, .null, .int 0, .int 0, .int 0, .null, .int 0]))])[70]? = some x) ∨ (1 ≤ k ∧ (nws X (nSb F) nLQ ++ [(qad X 70, .inr (12, [.null, .null, .null, .null, .null, .int 0, .int 0, .int 0, .int 0, .int 0, .int 0, .int 0, .int 0, .int 0, .int 0, .int 0, .int 0, .long 0, .null, .null, .null, .null, .null, .null, .null, .null, .null, .int 0, .int 0, .null, .null, .int 0, .null, .null, .null, .null, .null, .int 0, .int 0, .int 0, .null, .int 0]))])[k - 1]? = some x ∧ k - 1 < 70) := fun {k x} hk => by
        cases k with
        | zero => exact Or.inl ⟨rfl, hk⟩
        | succ k =>
          have hk' : (nws X (nSb F) nLQ)[k]? = some x := hk
          have hlt : k < (nws X (nSb F) nLQ).length := (List.getElem?_eq_some_iff.mp hk').1
          have hlen : (nws X (nSb F) nLQ).length = 70 := by simp [nws, nLQ]
          refine Or.inr ⟨by omega, ?_, by omega⟩
          rw [show k + 1 - 1 = k by omega, List.getElem?_append_left hlt]
          exact hk'
      rcases tr hi with ⟨i0, i1⟩ | ⟨i0, i1, i2⟩ <;> rcases tr hj with ⟨j0, j1⟩ | ⟨j0, j1, j2⟩
      · omega
      · have := h.1 _ _ x y i1 j1 hxy
        omega
      · have := h.1 _ _ x y i1 j1 hxy
        omega
      · have := h.1 _ _ x y i1 j1 hxy
        omega
    · cases k with
      | zero =>
        cases hx
        show s.heap.size ≤ qad X 70
        rw [a70]
        omega
      | succ k => exact hD2.2 k x hx
  refine W.eq (g2 := F0 m 11 ls [.ref (qad X 70)]) (by rw [a70]) ?_
  refine lv_dup hx hb dL_law_11 rfl ?_
  have hF3 : ∀ q, va_A ((qad X 70, .inr (12, [.null, .null, .null, .null, .null, .int 0, .int 0, .int 0, .int 0, .int 0, .int 0, .int 0, .int 0, .int 0, .int 0, .int 0, .int 0, .long 0, .null, .null, .null, .null, .null, .null, .null, .null, .null, .int 0, .int 0, .null, .null, .int 0, .null, .null, .null, .null, .null, .int 0, .int 0, .int 0, .null, .int 0])) :: nws X (nSb F) nLQ) (s.heap.size + 71) q → s.heap.size ≤ q := by
    rintro q (⟨k, e, hk⟩ | h)
    · exact hD3.2 k (q, e) hk
    · omega
  refine va_callv (va_runI (b := qad X 70) (As := []) (rest := [.ref (qad X 70)]) ⟨hx, hb, hml, hown, hts⟩ (mk_70 (X := X) (F := F) (S1 := S1) (S2 := S2) (sz := s.heap.size) (A := fun q => s.heap.size ≤ q) ha2 hLs hLa hF3 hXA f2 f3) (cwI 0 hts (nq_good nq_km) rfl rfl rfl (hts _ nq_im) (hts _ (q_tbl nq_lm)) (hts _ (q_tbl nq_nm)) rfl ⟨by decide +kernel, by decide +kernel, by decide +kernel⟩ ⟨Nat.le_of_ble_eq_true rfl, Nat.le_of_ble_eq_true rfl⟩) ⟨nbP_blind (fun U g mk a h => nEx.same h rfl rfl), fun U hU hW => ⟨rfl, by rw [hU]; exact z3, by rw [hU]; exact hP3, hD3.weaken (fun _ _ _ _ => trivial), va_K.moved hW.alike hK, hE.1.at hS3 (fun _ h => h) hW hU⟩⟩ rfl rfl hl.1 rfl (lv_room (Nat.le_of_ble_eq_true rfl)) dL_law_12 ⟨Nat.le_of_ble_eq_true rfl, Nat.le_of_ble_eq_true rfl⟩) hS3 (fun q _ h => hF3 q h) hF3 (fun u4 t4 H4 locs4 ht4 hvm4 _ hB4 hz4 hk4 hS4 => ?_)
  obtain ⟨d1, d2, d3, d4⟩ := hB4
  rw [ht4] at d1 d2
  have hWd : qWd X S2 s H4 := ⟨d2, ⟨d3.1, fun k q hq => by
    rw [qws, List.getElem?_map] at hq
    cases hj : (qLs X)[k]? with
    | none => rw [hj] at hq; cases hq
    | some a =>
      rw [hj] at hq
      cases hq
      exact ⟨a, List.mem_of_getElem? hj, rfl⟩⟩, hK⟩
  refine lv_astore_n (lv' := [(2, .ref (qad X 70)), (1, .ref (qad X 0)), (0, .ref b)]) hx hb dL_law_15 rfl hl (by decide) rfl (fun ls hl => ?_)
  refine lv_iconst (v := 0) hx hb dL_law_16 (by decide) ?_
  refine lv_istore_n (lv' := [(3, .int 0), (2, .ref (qad X 70)), (1, .ref (qad X 0)), (0, .ref b)]) hx hb dL_law_17 rfl hl (by decide) rfl (fun ls hl => ?_)
  refine W.widen (k := 93) (n := 8302) (Nat.le_of_ble_eq_true rfl) (Nat.le_of_ble_eq_true rfl) ?_
  have hl4 : lv_has ls 4 (qlv X [(0, qo (.ref b)), (1, qr 0), (2, qr 70), (3, qi 0)]) := lv_sub hl [3, 2, 1, 0] rfl
  exact law_loop hLa hL (L + 1) 0 S2 (by omega) (by omega) (by omega) f4 p e s m below meth c H4 locs4 ls ⟨hx, hb, hr, hml, hown, hts, hX, hbl, hlocks, hE.1, hXA⟩ hWd hS4 hl4
-- ===== YOUR PART ENDS =====
set_option maxHeartbeats 4000000 in
theorem lw_walk (l : Launch) (hflags : l.flags = flags0) (b : Addr) (xs : List Int32) : MetFree l x (headSpec (Jvm.Cond.code x code maxLocals ret :: tables_1) room_1) (lw_P b xs) (fun _ _ _ _ _ => True) lw_Q := by
  refine MetFree.of_bodyS (code := code) (maxLocals := maxLocals) (ret := ret) (by decide) ?_ ?_
  · intro args s m h hn
    obtain ⟨meth, c, h1, h2, h3, h4, h5, h6, -, -⟩ := Cond.code_spec hn (atoms_spec (ws := Jvm.Cond.code x code maxLocals ret :: tables_1) h _ List.mem_cons_self)
    exact ⟨meth, c, h1, h2, h3, h4, h5, h6⟩
  · intro p e s m args below meth c s₁ B hml0 hP _
    obtain ⟨rfl, hx, hbd, hgv⟩ := hP
    obtain ⟨scr, harrAt, hlist, hof, hsmall⟩ := hx
    obtain ⟨hcb, hkn, -, -⟩ := State.arrayAt?_spec harrAt
    have hown : s.vm.findClass R_law = some m.cls := findClass_of_methodNamed B.named
    have hts0 : ∀ c ∈ (Jvm.Cond.code x code maxLocals ret :: tables_1), c.before #[Value.ref b] s = true := atoms_spec (ws := Jvm.Cond.code x code maxLocals ret :: tables_1) B.pre
    have hts : ∀ w ∈ lw_tbl, w.before #[Value.ref b] s = true := k2_hts_sels lw_privs (fun w hw => hts0 w (List.mem_cons_of_mem _ hw)) lw_privs_ok
    have hml : c.maxLocals = 4 := B.maxLocals_eq (hts0 _ List.mem_cons_self)
    have X₀ : Stand p l e room_1 s m #[Value.ref b] below meth c s₁ [] 0 0 := Stand.of_body B
    have hh0 : s₁.heap = s.heap := by rw [B.state]; rfl
    have hsz : scr.slots.size = xs.length := by rw [← Array.length_toList, hlist, List.length_map]
    have hval : ∀ j : Nat, j < xs.length → scr.slots[j]? = some (.int (xs.getD j 0)) := fun j hj => by
      rw [← Array.getElem?_toList, hlist]
      simp [hj]
    have hbl : b < s.heap.size := (Array.getElem?_eq_some_iff.mp hcb).1
    have hX : va_X b xs.length (fun j => xs.getD j 0) s s.heap := ⟨scr, hcb, hof, hkn, hsz, hval⟩
    have K : W p l e room_1 s m #[Value.ref b] below meth c s₁.heap [] 0 0 (lw_Z below #[Value.ref b] s) (entryFrame m ([Value.ref b] : List Value).toArray 4) := by
      rw [hh0]
      exact whole_start l hflags hbd ⟨B.exec, B.bytes, B.returns, hml, hown, hts, hX, hbl, B.notSynchronized, hgv⟩
    obtain ⟨t, a1, o, b1, b2, b3⟩ := K s₁ rfl X₀
    exact ⟨t, o, a1, b1, b2, b3⟩
theorem lw_pre_spec {args : Array Value} {s : State} (h : (Jvm.Cond.and given_1 narrow_1).before args s = true) (hr : rest_1_c.before args s = true) : ∃ (b : Addr) (xs : List Int32), lw_P b xs args s := by
  have hs := flat_of_before _ h
  have hq := flat_of_before _ hr
  have hc : (Cond.count 1).before args s = true := hs _ (by decide +kernel)
  have harr : (Cond.arrayOf (.arg 0) .int).before args s = true := hs _ (by decide +kernel)
  have hle : (Cond.le (.length (.arg 0)) (.int 3072)).before args s = true := hs _ (by decide +kernel)
  have hlen : (Cond.isInt (.length (.arg 0))).before args s = true := hq _ (by decide +kernel)
  have hall : (Cond.all (.arg 0) (.isInt (.elem (.arg 0) (.index 0)))).before args s = true := hq _ (by decide +kernel)
  obtain ⟨b, xs, hb, hx⟩ := State.ints_of_pre rfl harr hlen hall
  have hsm : xs.length < 2 ^ 31 := hx.choose_spec.2.2.2
  have hev : (Term.length (.arg 0)).eval args s none [] s = some (.int xs.length.toInt32) := hx.length_eval hb
  have hv := Cond.le_ints hev (show (Term.int 3072).eval args s none [] s = some (.int 3072) from rfl)
  have hd : xs.length.toInt32 ≤ 3072 := by
    simpa [Cond.before, Cond.holds, hv] using hle
  have hN : xs.length ≤ 3072 := (Int32.ofNat_le_ofNat hsm (by decide)).mp (show Int32.ofNat xs.length ≤ Int32.ofNat 3072 from hd)
  exact ⟨b, xs, Cond.one_arg hc (show args[0]? = some (.ref b) from hb), hx, hN, h⟩
theorem lw_comes (l : Launch) (hflags : l.flags = flags0) : Comes l x (Jvm.Cond.code x code maxLocals ret :: tables_1) room_1 (fun tb e args s => Calls_1 tb e args s ∧ rest_1 tb e args s ∧ Pre_1 tb e args s)
    (fun _ _ args s o t => lw_Q args s o t) := by
  intro p e ha hc hk s m args below hf hfit hheap happ hpre
  obtain ⟨b, xs, hP⟩ := lw_pre_spec hpre.2.2 hpre.2.1
  obtain ⟨k, o, h1, h2, h3, hQ⟩ := lw_walk l hflags b xs p e ha hc hk s m args below hf ((Spec.applies_iff_loose hf).mp happ).1 hP trivial
  exact ⟨k, o, h1, h2, h3, hQ⟩
theorem lw_frame {s t : State} {o : Outcome} {args : Array Value} (h : Framed s o t [] 600000 7302250) :
    Framed s o t (fieldLocs frame_1_writes args s ++ arrayLocs frame_1_arrays args s ++ staticLocs frame_1_statics s) 600000 7302250 := h
theorem lw_limb (L : Cond) (hL : ∀ (args : Array Value) (s t : State), L.after args s (.returned (some (.int 1))) t = true) :
    ArmFor flags0 classFile x code maxLocals ret World_1 tables_1 room_1 Calls_1 rest_1 Pre_1
      (fun tb e a s o t => postC L tb e a s o t ∧ Framed s o t (fieldLocs frame_1_writes a s ++ arrayLocs frame_1_arrays a s ++ staticLocs frame_1_statics s) 600000 7302250) := by
  intro l hflags _ _ p e ha hc hk s m args below hf hfit hheap happ hpre
  obtain ⟨k, o, h1, h2, h3, rfl, hF⟩ := lw_comes l hflags p e ha hc hk s m args below hf hfit hheap happ hpre
  exact ⟨k, _, h1, h2, h3, hL args s _, lw_frame hF⟩
theorem i_vc : Claimed_1_1 ∧ Claimed_1_2 := ⟨lw_limb limb_1_1 (fun args s t => by simp [limb_1_1, Cond.after, Cond.holds, Cond.value]), lw_limb limb_1_2 (fun args s t => Cond.after_iff.mpr (by
  first | (rw [show limb_1_2 = Cond.eq .result (.int 1) from rfl, Cond.eq_ints (x := 1) (y := 1) rfl rfl]; simp; done) | (simp [limb_1_2, Cond.value, Term.eval]; done)))⟩
