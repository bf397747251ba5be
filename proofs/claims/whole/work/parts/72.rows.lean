/-! rows of rows: multianewarray with two lengths, ints within -/
def nmO (cA : ClassId) (N h i : Nat) : Cell := arrV cA N (fun j => if j < i then .ref (h + 1 + j) else .null)
def nmI (cI : ClassId) (M : Nat) : Cell := arrV cI M (fun _ => .int 0)
/-- the state when i of the inner rows are made -/
def nmT (T : State) (cA cI : ClassId) (N M : Nat) : Nat → State
  | 0 => T.pushCell (nmO cA N T.heap.size 0)
  | i + 1 => ((nmT T cA cI N M i).pushCell (nmI cI M)).setCell T.heap.size (nmO cA N T.heap.size (i + 1))
theorem nmO_put (cA : ClassId) (N h i : Nat) : (nmO cA N h i).setSlot i (.ref (h + 1 + i)) = nmO cA N h (i + 1) := by
  unfold nmO
  rw [arrV_store]
  congr 1
  funext j
  unfold updV
  by_cases e : j = i
  · subst e; simp
  · have e2 : (j < i + 1) = (j < i) := by
      apply propext
      omega
    simp only [e, if_false, e2]
theorem nmT_top (T : State) (g : JFrame) (cA cI : ClassId) (N M : Nat) : ∀ i, nmT (T.setTop g) cA cI N M i = (nmT T cA cI N M i).setTop g
  | 0 => rfl
  | i + 1 => by
    show ((nmT (T.setTop g) cA cI N M i).pushCell _).setCell _ _ = _
    rw [nmT_top T g cA cI N M i]
    rfl
theorem nmT_is (T : State) (cA cI : ClassId) (N M : Nat) : ∀ i, (nmT T cA cI N M i).heap.size = T.heap.size + 1 + i ∧ (nmT T cA cI N M i).heap[T.heap.size]? = some (nmO cA N T.heap.size i) ∧ (nmT T cA cI N M i).vm = T.vm ∧ (nmT T cA cI N M i).slotsUsed = T.slotsUsed + N + i * M ∧ (∀ q, q < T.heap.size → (nmT T cA cI N M i).heap[q]? = T.heap[q]?) ∧ ∀ j, j < i → (nmT T cA cI N M i).heap[T.heap.size + 1 + j]? = some (nmI cI M)
  | 0 => by
    refine ⟨by simp [nmT], by simp [nmT], rfl, ?_, fun q hq => State.heap_pushCell_of_lt _ _ hq, fun j hj => by omega⟩
    show T.slotsUsed + (nmO cA N T.heap.size 0).slots.size = _
    rw [nmO, arrV_size]; omega
  | i + 1 => by
    obtain ⟨h1, h2, h3, h4, h5, h6⟩ := nmT_is T cA cI N M i
    have l0 : T.heap.size < (nmT T cA cI N M i).heap.size := by omega
    have p0 : ((nmT T cA cI N M i).pushCell (nmI cI M)).heap[T.heap.size]? = some (nmO cA N T.heap.size i) := by rw [State.heap_pushCell_of_lt (h := l0)]; exact h2
    refine ⟨?_, State.heap_setCell_self p0, h3, ?_, fun q hq => ?_, fun j hj => ?_⟩
    · show (((nmT T cA cI N M i).pushCell (nmI cI M)).setCell _ _).heap.size = _
      simp [State.setCell, h1]; omega
    · show (nmT T cA cI N M i).slotsUsed + (nmI cI M).slots.size = _
      rw [h4, nmI, arrV_size, Nat.succ_mul]; omega
    · show (((nmT T cA cI N M i).pushCell (nmI cI M)).setCell _ _).heap[q]? = _
      rw [State.heap_setCell_other (show T.heap.size ≠ q by omega), State.heap_pushCell_of_lt (h := (show q < (nmT T cA cI N M i).heap.size by omega))]
      exact h5 q hq
    · show (((nmT T cA cI N M i).pushCell (nmI cI M)).setCell _ _).heap[T.heap.size + 1 + j]? = _
      rw [State.heap_setCell_other (show T.heap.size ≠ T.heap.size + 1 + j by omega)]
      by_cases e : j = i
      · subst e
        rw [← h1]
        exact State.heap_pushCell_size _ _
      · rw [State.heap_pushCell_of_lt (h := (show T.heap.size + 1 + j < (nmT T cA cI N M i).heap.size by omega))]
        exact h6 j (by omega)
section NM
variable {p : Program} {l : Launch} {e : Env} {R : Room} {s : State} {m : MethodId} {args : Array Value} {below : List Frame} {meth : Method} {c : Code} {T : State} {locs : List Loc} {cells slots : Nat}
theorem nm_stand (Xs : Stand p l e R s m args below meth c T locs cells slots) (cA cI : ClassId) (N M : Nat) : ∀ i, Stand p l e R s m args below meth c (nmT T cA cI N M i) (locs ++ (List.range i).map fun j => ⟨T.heap.size, j⟩) (cells + 1 + i) (slots + N + i * M)
  | 0 => by
    have h := Xs.pushed (nmO cA N T.heap.size 0)
    rw [nmO, arrV_size] at h
    simpa [nmT, nmO] using h
  | i + 1 => by
    obtain ⟨h1, h2, -⟩ := nmT_is T cA cI N M i
    have hp : ((nmT T cA cI N M i).pushCell (nmI cI M)).heap[T.heap.size]? = some (nmO cA N T.heap.size i) := by rw [State.heap_pushCell_of_lt (h := (show T.heap.size < (nmT T cA cI N M i).heap.size by omega))]; exact h2
    have h := ((nm_stand Xs cA cI N M i).pushed (nmI cI M)).stored hp i (.ref (T.heap.size + 1 + i))
    rw [nmO_put] at h
    have e1 : (nmI cI M).slots.size = M := by rw [nmI, arrV_size]
    rw [e1] at h
    have e2 : (locs ++ (List.range (i + 1)).map fun j => (⟨T.heap.size, j⟩ : Loc)) = (locs ++ (List.range i).map fun j => (⟨T.heap.size, j⟩ : Loc)) ++ [⟨T.heap.size, i⟩] := by simp [List.range_succ, List.append_assoc]
    have e3 : slots + N + (i + 1) * M = slots + N + i * M + M := by rw [Nat.succ_mul]; omega
    rw [e2, e3]
    exact h
end NM
theorem nm_over {args : Array Value} {s : State} (h : (Cond.arrayOver (.array .int)).before args s = true) : ∃ cI cA kA, s.vm.findClass (FieldType.array .int).toString = some cI ∧ s.vm.classes[cA]? = some kA ∧ kA.kind = .array cI (.array .int) ∧ s.vm.findClass ("[" ++ (FieldType.array .int).toString) = some cA := by
  simp only [Cond.before, Cond.holds, Cond.value, beq_iff_eq] at h
  cases h1 : s.vm.findClass (FieldType.array .int).toString with
  | none => simp [h1] at h
  | some cI =>
    simp only [h1, Option.bind_some, Option.bind_eq_some_iff, Option.map_eq_some_iff] at h
    obtain ⟨cA, h2, kA, h3, h4⟩ := h
    obtain ⟨lt, h5, -⟩ := Array.findIdx?_eq_some_iff_getElem.mp h2
    rw [(Array.getElem?_eq_some_iff.mp h3).2] at h5
    cases h6 : kA.kind with
    | array a ty =>
      rw [h6] at h4 h5
      simp at h4 h5
      exact ⟨cI, cA, kA, rfl, h3, by rw [h6, h5, h4.1], h4.2⟩
    | _ => rw [h6] at h4; simp at h4
/-- rows of int rows: their class, and that of its rows -/
def nAO (U : State) : Prop := ∃ cI cA kA, U.vm.findClass (FieldType.array .int).toString = some cI ∧ U.vm.classes[cA]? = some kA ∧ kA.kind = .array cI (.array .int) ∧ U.vm.findClass ("[" ++ (FieldType.array .int).toString) = some cA
theorem nAO.moved {u U : State} (hvm : u.vm.Alike U.vm) (h : nAO u) : nAO U := by
  obtain ⟨cI, cA, kA, h1, h2, h3, h4⟩ := h
  obtain ⟨k', hk', he⟩ := hvm.2.2 _ _ h2
  exact ⟨cI, cA, k', by rw [hvm.findClass]; exact h1, hk', by rw [he]; exact h3, by rw [hvm.findClass]; exact h4⟩
theorem nm_inner {E : CtlPost} {e : Env} {d : Bool} {acts : List Action} {u : State} {cI cc : ClassId} {kI : Class} {k : Int32} (h1 : u.vm.classes[cI]? = some kI) (h2 : kI.kind = .array cc .int) (hk : ¬ k < 0) (h3 : ¬ k.toNatClampNeg > e.platform.arrayLengthLimit) (h4 : ¬ k.toNatClampNeg * componentBytes .int > e.platform.maxHeapBytes) (h5 : u.heap.size < e.platform.maxCells) (h6 : u.slotsUsed + k.toNatClampNeg ≤ e.platform.maxSlots) {Q : Addr → Pre} (hq : ∀ acts', Q u.heap.size d acts' (u.pushCell (nmI cI k.toNatClampNeg))) : wp (multianewarray.make cI [k]) Q E e d acts u := by
  rw [multianewarray.make]
  simp only [wp_bind', W.ite, hk, if_false, wp_pure', W.theClass, h1, h2, Option.some.injEq, exists_eq_left']
  refine W.newArray_of h1 h2 h3 h4 h5 h6 rfl (fun acts' => ?_)
  have h9 := hq acts'
  rw [nmI, ← arrV_new] at h9
  exact h9
theorem nm_make {E : CtlPost} {e : Env} {d : Bool} {acts : List Action} {u : State} {cA cI cc : ClassId} {kA kI : Class} {n k : Int32} (a1 : u.vm.classes[cA]? = some kA) (a2 : kA.kind = .array cI (.array .int)) (h1 : u.vm.classes[cI]? = some kI) (h2 : kI.kind = .array cc .int) (hn : ¬ n < 0) (hk : ¬ k < 0) (a3 : ¬ n.toNatClampNeg > e.platform.arrayLengthLimit) (a4 : ¬ n.toNatClampNeg * componentBytes (.array .int) > e.platform.maxHeapBytes) (h3 : ¬ k.toNatClampNeg > e.platform.arrayLengthLimit) (h4 : ¬ k.toNatClampNeg * componentBytes .int > e.platform.maxHeapBytes)
    (h5 : u.heap.size + (1 + n.toNatClampNeg) ≤ e.platform.maxCells) (h6 : u.slotsUsed + (n.toNatClampNeg + n.toNatClampNeg * k.toNatClampNeg) ≤ e.platform.maxSlots) {Q : Addr → Pre} (hq : ∀ d' acts', Q u.heap.size d' acts' (nmT u cA cI n.toNatClampNeg k.toNatClampNeg n.toNatClampNeg)) : wp (multianewarray.make cA [n, k]) Q E e d acts u := by
  have hf : ([k].find? (· < 0)) = none := by simp [hk]
  generalize hN : n.toNatClampNeg = N at a3 a4 h5 h6 hq
  generalize hM : k.toNatClampNeg = M at h6 hq
  rw [multianewarray.make]
  simp only [wp_bind', W.ite, hn, if_false, wp_pure', W.theClass, a1, a2, Option.some.injEq, exists_eq_left', hN]
  refine W.newArray_of a1 a2 a3 a4 (by omega) (by omega) rfl (fun acts' => ?_)
  have e0 : (u.pushCell { cls := cA, slots := Array.replicate N .null }) = nmT u cA cI N M 0 := by
    show u.pushCell { cls := cA, slots := Array.replicate N .null, vm := .none } = u.pushCell _
    rw [arrV_new, nmO]
    simp
  rw [e0]
  simp only [hf]
  rw [ite_self, wp_bind', Std.Legacy.Range.forIn_eq_forIn_range']
  have hsz : ([:N] : Std.Legacy.Range).size = N := by simp [Std.Legacy.Range.size]
  rw [hsz]
  show wp (forIn (List.range' 0 N 1) PUnit.unit _) _ E e _ acts' _
  refine wp_forIn_inv (fun rest v => ∃ i, i + rest.length = N ∧ rest = List.range' i rest.length ∧ v = nmT u cA cI N M i) _ _ ⟨0, by simp, by simp, rfl⟩ ?_ ?_
  · rintro x rest v d' acts'' Q' ⟨i, hi, hr, rfl⟩ hnext
    rw [List.length_cons] at hi hr
    rw [List.range'_succ] at hr
    obtain ⟨rfl, hr2⟩ := List.cons.inj hr
    obtain ⟨f1, f2, f3, f4, -⟩ := nmT_is u cA cI N M x
    have hmul : x * M + M ≤ N * M := by
      have := Nat.mul_le_mul_right M (show x + 1 ≤ N by omega)
      rw [Nat.succ_mul] at this; exact this
    simp only [wp_bind']
    refine nm_inner (by rw [f3]; exact h1) h2 hk h3 h4 (by rw [f1]; omega) (by rw [f4, hM]; omega) (fun acts3 => ?_)
    rw [hM]
    simp only [wp_bind', W.writeLoc, wp_pure']
    refine ⟨nmO cA N u.heap.size x, by rw [State.heap_pushCell_of_lt (h := (show u.heap.size < (nmT u cA cI N M x).heap.size by omega))]; exact f2, by simp [nmO, arrV], by rw [nmO, arrV_size]; omega, ?_, hnext _ _ _ ⟨x + 1, by omega, hr2, ?_⟩⟩
    · show State.fitsSlot _ cA .none x _ = true
      simp [State.fitsSlot, State.slotType?, f3, a1, a2]
      rfl
    · rw [f1, nmO_put]; rfl
  · rintro v d' acts'' ⟨i, hi, -, rfl⟩
    have : i = N := by simpa using hi
    subst this
    simp only [wp_pure']
    exact hq _ _
theorem nb_multi {p : Program} {l : Launch} {e : Env} {R : Room} {s : State} {m : MethodId} {args : Array Value} {below : List Frame} {meth : Method} {c : Code} {H : Heap} {locs : List Loc} {cells slots : Nat} {Q : State → Prop} {cc : ByteArray} (hexec : p.tables.exec = Jvm.exec) (hb : c.code = cc) {own : String} {index : Nat} (hown : s.vm.findClass own = some m.cls) (hclink : (Cond.classLink own index ("[" ++ (FieldType.array .int).toString)).before args s = true) (hover : nAO s) (harr : (Cond.arrayClass .int).before args s = true)
    {pc N M : Nat} {ls : Array Slot} {rest : List Value} (hdg : decode cc pc = .ok (.multianewarray index 2, 4)) {n k : Int32} (hn : ¬ n < 0) (hk : ¬ k < 0) (hN : n.toNatClampNeg = N) (hM : k.toNatClampNeg = M) (bN : N < 10000) (bM : M < 10000) (hcells : cells + (1 + N) ≤ R.cells) (hslots : slots + (N + N * M) ≤ R.slots)
    (kk : ∀ (H1 : Heap) (L : List Loc) (cA cI : ClassId), s.vm.findClass ("[" ++ (FieldType.array .int).toString) = some cA → s.vm.findClass (FieldType.array .int).toString = some cI → H1.size = H.size + 1 + N → (∀ q, q < H.size → H1[q]? = H[q]?) → H1[H.size]? = some (nmO cA N H.size N) → (∀ j, j < N → H1[H.size + 1 + j]? = some (nmI cI M)) → (∀ q ∈ L, q.base = H.size) →
      W p l e R s m args below meth c H1 (locs ++ L) (cells + 1 + N) (slots + N + N * M) Q (F0 m (pc + 4) ls (.ref H.size :: rest))) : W p l e R s m args below meth c H locs cells slots Q (F0 m pc ls (.int k :: .int n :: rest)) := by
  subst hN
  subst hM
  subst hb
  intro T hT Xs
  subst hT
  have hpl : e.platform.magicAccessors = ({} : Platform).magicAccessors := by rw [Xs.admits.platform]
  obtain ⟨cI, cA, kA, n1, n2, n3, n4⟩ := hover
  obtain ⟨cI', kI, cc, i1, i2, i3⟩ := Cond.arrayClass_spec harr
  have eI : cI' = cI := Option.some.inj (i1.symm.trans n1)
  subst eI
  obtain ⟨c0, l1, l2⟩ := Cond.classLink_spec hown hclink e.platform hpl
  cases n4.symm.trans l1
  obtain ⟨g1, g2, g3⟩ := State.classEntry (e := e) Xs.warmed l2
  generalize T.vm.noted m.cls index (.cls cA) = vm1 at g1 g2 g3
  obtain ⟨kA1, r1, r2⟩ := g2.alike.2.2 _ _ n2
  obtain ⟨kI1, r3, r4⟩ := g2.alike.2.2 _ _ i2
  have X1 := Xs.noted g2
  obtain ⟨b1, b2⟩ := Xs.roomAbove hcells hslots
  obtain ⟨f1, f2, f3, f4, f5, f6⟩ := nmT_is (T.setVm vm1) cA cI' n.toNatClampNeg k.toNatClampNeg n.toNatClampNeg
  have X2 := nm_stand X1 cA cI' n.toNatClampNeg k.toNatClampNeg n.toNatClampNeg
  obtain ⟨t, t1, t2⟩ := kk _ _ cA cI' n4 n1 f1 f5 f2 f6 (fun q hq => by
    obtain ⟨j, -, rfl⟩ := List.mem_map.mp hq
    rfl) _ rfl X2
  refine ⟨t, ?_, t2⟩
  have q1 : ¬ n.toNatClampNeg > e.platform.arrayLengthLimit := by rw [Launch.admits_arrayLengthLimit Xs.admits]; omega
  have q2 : ¬ n.toNatClampNeg * componentBytes (.array .int) > e.platform.maxHeapBytes := by
    rw [Launch.admits_maxHeapBytes Xs.admits]; show ¬ n.toNatClampNeg * 4 > 536870912; omega
  have q3 : ¬ k.toNatClampNeg > e.platform.arrayLengthLimit := by rw [Launch.admits_arrayLengthLimit Xs.admits]; omega
  have q4 : ¬ k.toNatClampNeg * componentBytes .int > e.platform.maxHeapBytes := by
    rw [Launch.admits_maxHeapBytes Xs.admits]; show ¬ k.toNatClampNeg * 4 > 536870912; omega
  generalize hg : F0 m pc ls (.int k :: .int n :: rest) = g
  have hgs : g.stack = .int k :: .int n :: rest := by rw [← hg]
  have hgp : g.pc = pc := by rw [← hg]
  have hgm : g.method = m := by rw [← hg]
  have hdg' : decode c.code g.pc = .ok (.multianewarray index 2, 4) := by rw [hgp]; exact hdg
  have hgo : F0 m (pc + 4) ls (.ref T.heap.size :: rest) = { g with pc := g.pc + 4, stack := .ref T.heap.size :: rest } := by rw [← hg]
  rw [hgo] at t1
  clear hgo hg
  subst hgm
  jvm_step Xs.here [hexec, hdg']
  simp only [multianewarray.sem, wp_bind', W.resolveClassAt_links (State.method?_setTop g Xs.here.top) g1]
  rw [W.popN, if_neg (by decide)]
  refine ⟨g, State.topJava?_setTop' (s := T.setVm vm1) g Xs.here.top, [.int n, .int k], rest, rfl, hgs, ?_⟩
  simp only [List.mapM_cons, List.mapM_nil, wp_bind', wp_pure']
  refine nm_make (u := ((T.setTop g).setVm vm1).setTop { g with stack := rest }) (kA := kA1) (kI := kI1) (cI := cI') (cc := cc) r1 (by rw [r2]; exact n3) r3 (by rw [r4]; exact i3) hn hk q1 q2 q3 q4 b1 b2 (fun d' acts' => ?_)
  have eS : ((T.setTop g).setVm vm1).setTop { g with stack := rest } = (T.setVm vm1).setTop { g with stack := rest } := by
    show ((T.setVm vm1).setTop g).setTop _ = _
    rw [State.setTop_setTop]
  rw [eS, nmT_top]
  simp only [wp_bind', W.mark, W.pushRef, State.topJava?_setTop' _ X2.here.top, Option.some.injEq, exists_eq_left', State.setTop_setTop, State.heap_setTop]
  intro acts
  simp [jvm, X2.here.top]
  exact t1
