/-! THE MAKING. nbC: a constructor's contract; nbW: the walk of its body. The world ws is a list of cells; new cells lie one behind the other from the heap's size at the entry on. -/
def nbQ (X : qX) (A : Nat → Prop) (wse : va_W) (sze : Nat) : Array Value → State → Outcome → State → Prop := va_Qv (fun _ : Unit => True) (fun _ t => sze ≤ t.heap.size ∧ va_P (qD X) vwCl wse t.heap ∧ va_D A wse ∧ va_K (qD X) vwCl (qtys X) t) A
def nbP (X : qX) (vs : List qV) (ws : va_W) (sz : Nat) (Ex : State → Prop) : Array Value → State → Prop := va_Pc (vs.map (qvl X)) (fun U => U.heap.size = sz ∧ va_P (qD X) vwCl ws U.heap ∧ va_D (fun _ => True) ws ∧ va_K (qD X) vwCl (qtys X) U ∧ Ex U)
def nrm (f mc ms : Nat) : Room := { frames := f + 1, cells := mc, slots := ms, locals := 64 * (f + 1) }
def nbC (X : qX) (f : Nat) (y : MethodName) (bc : ByteArray) (ml : Nat) (vs : List qV) (ws : va_W) (sz : Nat) (Ex : State → Prop) (wse : va_W) (mc ms : Nat) : Prop :=
  Met X.1 y (qwm y bc ml none) (nrm f mc ms) (nbP X vs ws sz Ex) (nbQ X (va_A ws sz) wse (sz + mc)) mc ms (va_A ws sz)
def nbX (X : qX) (y : MethodName) (bc : ByteArray) (ml : Nat) (A : Nat → Prop) (sz : Nat) (Ex : State → Prop) (p : Program) (s : State) (m : MethodId) (args : Array Value) (meth : Method) (c : Code) : Prop :=
  p.tables.exec = Jvm.exec ∧ c.code = bc ∧ c.maxLocals = ml ∧ meth.sig.returnType = none ∧ meth.locks = false ∧ s.vm.findClass y.cls = some m.cls ∧ (∀ w ∈ qwords, w.before args s = true) ∧ va_K (qD X) vwCl (qtys X) s ∧ meth.name = "<init>" ∧ s.heap.size = sz ∧ (∀ q, sz ≤ q → A q) ∧ Ex s
def nbW (X : qX) (R : Room) (y : MethodName) (bc : ByteArray) (ml : Nat) (A : Nat → Prop) (sz : Nat) (Ex : State → Prop) (wse : va_W) (mc ms : Nat) (pc : Nat) (lv : qLv) (st : List qV) (ws : va_W) (nc ns : Nat) : Prop :=
  ∀ (p : Program) (e : Env) (s : State) (m : MethodId) (args : Array Value) (below : List Frame) (meth : Method) (c : Code) (H : Heap) (locs : List Loc) (ls : Array Slot),
    nbX X y bc ml A sz Ex p s m args meth c → sz + nc ≤ H.size → va_P (qD X) vwCl ws H → va_D A ws → va_S A s.heap H locs → lv_has ls ml (qlv X lv) →
    W p X.1 e R s m args below meth c H locs nc ns (MQ below (nbQ X A wse (sz + mc)) args s mc ms A) (F0 m pc ls (st.map (qvl X)))
theorem nb_size {p : Program} {l : Launch} {e : Env} {R : Room} {s : State} {m : MethodId} {args : Array Value} {below : List Frame} {meth : Method} {c : Code} {H : Heap} {locs : List Loc} {cells slots : Nat} {Q : State → Prop} {g : JFrame} (k : H.size ≤ s.heap.size + cells → W p l e R s m args below meth c H locs cells slots Q g) : W p l e R s m args below meth c H locs cells slots Q g := by
  intro T hT Xs
  refine k ?_ T hT Xs
  have h := Xs.same.2.2.1
  rw [← hT]
  exact h
theorem nb_S2 {A : Nat → Prop} {H0 H H1 : Heap} {locs locs1 : List Loc} (h0 : va_S A H0 H locs) (h1 : va_S A H H1 locs1) : va_S A H0 H1 locs1 :=
  ⟨Nat.le_trans h0.1 h1.1, fun q hq hA => (h1.2.1 q (Nat.lt_of_lt_of_le hq h0.1) hA).trans (h0.2.1 q hq hA), h1.2.2⟩
theorem nb_S1 {A : Nat → Prop} {H0 H : Heap} {locs : List Loc} (h0 : va_S A H0 H locs) : va_S A H H locs := ⟨Nat.le_refl _, fun _ _ _ => rfl, h0.2.2⟩
section NB
variable {X : qX} {R : Room} {y : MethodName} {bc : ByteArray} {ml : Nat} {A : Nat → Prop} {sz : Nat} {Ex : State → Prop} {wse ws : va_W} {mc ms pc pc' nc ns : Nat} {lv : qLv} {st : List qV} {S : qSto}
theorem nb_pure {st' : List qV} (h : nbW X R y bc ml A sz Ex wse mc ms pc' lv st' ws nc ns) (f : ∀ {p : Program} {e : Env} {s : State} {m : MethodId} {args : Array Value} {below : List Frame} {meth : Method} {c : Code} {H : Heap} {locs : List Loc} {cells slots : Nat} {Qm : State → Prop} {ls : Array Slot}, p.tables.exec = Jvm.exec → c.code = bc → lv_has ls ml (qlv X lv) → W p X.1 e R s m args below meth c H locs cells slots Qm (F0 m pc' ls (st'.map (qvl X))) → W p X.1 e R s m args below meth c H locs cells slots Qm (F0 m pc ls (st.map (qvl X)))) : nbW X R y bc ml A sz Ex wse mc ms pc lv st ws nc ns := by
  intro p e s m args below meth c H locs ls C hz hP hD hS hl
  exact f C.1 C.2.1 hl (h p e s m args below meth c H locs ls C hz hP hD hS hl)
theorem nb_aload_n {n : Fin 4} {v : Nat} (hd : decode bc pc = .ok (.aload_n n, 1)) (hl : lv.lookup (n : Nat) = some (qr v)) (hp : pc + 1 = pc') (k : nbW X R y bc ml A sz Ex wse mc ms pc' lv (qr v :: st) ws nc ns) : nbW X R y bc ml A sz Ex wse mc ms pc lv st ws nc ns := by
  subst hp
  exact nb_pure k (fun hx hb h k => lv_aload_n hx hb hd rfl (qlocal h hl) k)
theorem nb_aload {n v : Nat} (hd : decode bc pc = .ok (.aload n, 2)) (hl : lv.lookup n = some (qr v)) (hp : pc + 2 = pc') (k : nbW X R y bc ml A sz Ex wse mc ms pc' lv (qr v :: st) ws nc ns) : nbW X R y bc ml A sz Ex wse mc ms pc lv st ws nc ns := by
  subst hp
  exact nb_pure k (fun hx hb h k => lv_aload hx hb hd (qlocal h hl) k)
theorem nb_iconst {n v : Int} (hd : decode bc pc = .ok (.iconst n, 1)) (hv : n = v) (hp : pc + 1 = pc') (k : nbW X R y bc ml A sz Ex wse mc ms pc' lv (qi v :: st) ws nc ns) : nbW X R y bc ml A sz Ex wse mc ms pc lv st ws nc ns := by
  subst hp
  refine nb_pure k (fun hx hb hl k => ?_)
  exact lv_iconst hx hb hd rfl (hv ▸ k)
theorem nb_bipush {n : Int} (hd : decode bc pc = .ok (.bipush n, 2)) (hv : -128 ≤ n ∧ n ≤ 127) (hp : pc + 2 = pc') (k : nbW X R y bc ml A sz Ex wse mc ms pc' lv (qi n :: st) ws nc ns) : nbW X R y bc ml A sz Ex wse mc ms pc lv st ws nc ns := by
  subst hp
  refine nb_pure k (fun hx hb hl k => ?_)
  exact lv_bipush hx hb hd (Int8.toInt32_ofInt (by rw [Int8.toInt_minValue]; have := hv.1; omega) (by rw [Int8.toInt_maxValue]; have := hv.2; omega)) k
theorem nb_sipush {n : Int} (hd : decode bc pc = .ok (.sipush n, 3)) (hv : -32768 ≤ n ∧ n ≤ 32767) (hp : pc + 3 = pc') (k : nbW X R y bc ml A sz Ex wse mc ms pc' lv (qi n :: st) ws nc ns) : nbW X R y bc ml A sz Ex wse mc ms pc lv st ws nc ns := by
  subst hp
  refine nb_pure k (fun hx hb hl k => ?_)
  exact lv_sipush hx hb hd (Int16.toInt32_ofInt (by rw [Int16.toInt_minValue]; have := hv.1; omega) (by rw [Int16.toInt_maxValue]; have := hv.2; omega)) k
theorem nb_dup {a : Nat} (hd : decode bc pc = .ok (.dup, 1)) (hp : pc + 1 = pc') (k : nbW X R y bc ml A sz Ex wse mc ms pc' lv (qr a :: qr a :: st) ws nc ns) : nbW X R y bc ml A sz Ex wse mc ms pc lv (qr a :: st) ws nc ns := by
  subst hp
  exact nb_pure k (fun hx hb hl k => lv_dup hx hb hd rfl k)
/-- Object's constructor -/
theorem nb_obj {idx o : Nat} (hd : decode bc pc = .ok (.invokespecial idx, 3)) (hw : Cond.methodLink y.cls idx Lib.objectInit ∈ qwords) (hi : Cond.instanceMethod Lib.objectInit ∈ qwords) (hc : Cond.code Lib.objectInit ⟨#[0xb1]⟩ 1 none ∈ qwords) (hR : 1 ≤ R.frames) (hL : 12 ≤ R.locals) (hp : pc + 3 = pc') (k : nbW X R y bc ml A sz Ex wse mc ms pc' lv [] ws nc ns) : nbW X R y bc ml A sz Ex wse mc ms pc lv [qr o] ws nc ns := by
  subst hp
  intro p e s m args below meth c H locs ls C hz hP hD hS hl
  obtain ⟨x1, x2, x3, x4, x5, x6, x7, x8, x9, x10, x11, x12⟩ := id C
  refine W.objInit x1 x2 x6 (x7 _ hw) (x7 _ hi) (x7 _ hc) rfl (by rw [x3]; exact hl.1) rfl hd hR (by simpa using hL) ?_
  exact k p e s m args below meth c H locs ls C hz hP hD hS hl
/-- a new array of numbers -/
theorem nb_newa {c t n : Nat} {v : Int} {atype : ArrayType} {a0 : vp_A} (hd : decode bc pc = .ok (.newarray atype, 2)) (hw : Cond.arrayClass (newarray.typeOf atype) ∈ qwords) (hty : (qtys X)[t]? = some (qca X t, newarray.typeOf atype)) (hra : ∀ (U : State) (cA : ClassId), va_RA U cA (newarray.typeOf atype) → U.vm.findClass ("[" ++ (newarray.typeOf atype).toString) = some cA) (hv : v = (n : Int)) (hn : n < 100000) (hb8 : n * componentBytes (newarray.typeOf atype) ≤ 536870912) (hcell : qcell X S c = .inl (qca X t, a0)) (ha : ∀ cA : ClassId, vp_cell cA a0 = arrV cA n (fun _ => defaultValue (newarray.typeOf atype))) (had : qad X c = sz + nc) (hc : nc + 1 ≤ R.cells) (hs : ns + n ≤ R.slots) (hp : pc + 2 = pc')
    (k : nbW X R y bc ml A sz Ex wse mc ms pc' lv (qr c :: st) (ws ++ [(qad X c, qcell X S c)]) (nc + 1) (ns + n)) : nbW X R y bc ml A sz Ex wse mc ms pc lv (qi v :: st) ws nc ns := by
  subst hp
  intro p e s m args below meth cd H locs ls C hz hP hD hS hl
  obtain ⟨x1, x2, x3, x4, x5, x6, x7, x8, x9, x10, x11, x12⟩ := id C
  refine nb_size (fun hz2 => ?_)
  have hsz : H.size = sz + nc := by omega
  obtain ⟨n1, n2⟩ := q_tn (a := v) (n := 100000) (by omega) (by omega) (by omega)
  have n3 : v.toNat = n := by omega
  rw [n3] at n2
  refine va_newaK x1 x2 (x7 _ hw) rfl hd rfl n1 n2 hb8 hc hs hsz (fun H1 cA e1 z1 o1 hAr hNm => ?_)
  have hcA : cA = qca X t := by
    have h9 := hra s (qca X t) (x8.2 t _ hty).2
    exact Option.some.inj (hNm.symm.trans h9)
  have hk : ∀ (k : Nat) (x : Nat × va_E), ws[k]? = some x → H1[x.1]? = H[x.1]? := fun k x hx => o1 x.1 (by rw [← hsz]; exact (hP k x hx).lt)
  refine W.eq (g2 := F0 m (pc + 2) ls ((qr c :: st).map (qvl X))) (by simp [qvl, had]) ?_
  refine k p e s m args below meth cd H1 locs ls C (by omega) ((hP.kept hk).app (fun k x hx => ?_)) (hD.push hP (by rw [had, hsz]) (by rw [had]; exact x11 _ (by omega))) ⟨by omega, fun q h1 h2 => (o1 q (by omega)).trans (hS.2.1 q h1 h2), hS.2.2⟩ hl
  have hz : k < 1 := (List.getElem?_eq_some_iff.mp hx).1
  rw [show k = 0 by omega] at hx
  cases hx
  rw [hcell]
  show H1[qad X c]? = some (vp_cell _ _)
  rw [ha, had, ← hcA]
  exact e1
/-- a new object -/
theorem nb_new {o ci N idx : Nat} {C : String} {T : u_T} {fs : List Value} (ty : Nat → FieldType) (hd : decode bc pc = .ok (.new idx, 3)) (hcl : vwCl[ci]? = some (C, T, N)) (hlay : ∀ w ∈ u_ws C T N, w ∈ qwords) (hty : ∀ k, k < N → parseFieldDescriptor (T k).2.2.1 = some (ty k)) (h1 : Cond.classLink y.cls idx C ∈ qwords) (h2 : Cond.instantiable C N ∈ qwords) (h3 : Cond.initialized C ∈ qwords) (hfs : ∀ j, j < N → defaultValue (ty j) = vp_V fs j) (had : qad X o = sz + nc) (hc : nc + 1 ≤ R.cells) (hs : ns + N ≤ R.slots) (hp : pc + 3 = pc')
    (k : nbW X R y bc ml A sz Ex wse mc ms pc' lv (qr o :: st) (ws ++ [(qad X o, .inr (ci, fs))]) (nc + 1) (ns + N)) : nbW X R y bc ml A sz Ex wse mc ms pc lv st ws nc ns := by
  subst hp
  intro p e s m args below meth cd H locs ls C hz hP hD hS hl
  obtain ⟨x1, x2, x3, x4, x5, x6, x7, x8, x9, x10, x11, x12⟩ := id C
  refine nb_size (fun hz2 => ?_)
  have hsz : H.size = sz + nc := by omega
  have hKn := x8.1 ci _ hcl
  refine W.newcK x1 x2 x6 (x7 _ h1) (x7 _ h2) (x7 _ h3) rfl hd hc hs hKn.2.1 hsz (fun H1 kC hkC e1 z1 o1 => ?_)
  have hk : ∀ (k : Nat) (x : Nat × va_E), ws[k]? = some x → H1[x.1]? = H[x.1]? := fun k x hx => o1 x.1 (by rw [← hsz]; exact (hP k x hx).lt)
  refine W.eq (g2 := F0 m (pc + 3) ls ((qr o :: st).map (qvl X))) (by simp [qvl, had]) ?_
  refine k p e s m args below meth cd H1 locs ls C (by omega) ((hP.kept hk).app (fun k x hx => ?_)) (hD.push hP (by rw [had, hsz]) (by rw [had]; exact x11 _ (by omega))) ⟨by omega, fun q h1 h2 => (o1 q (by omega)).trans (hS.2.1 q h1 h2), hS.2.2⟩ hl
  have hz : k < 1 := (List.getElem?_eq_some_iff.mp hx).1
  rw [show k = 0 by omega] at hx
  cases hx
  rw [had]
  exact ⟨_, hcl, (u_born ty x7 hlay hKn hkC e1 hty).to hfs⟩
/-- a final field that holds a cell -/
theorem nb_putF {o v ci N idx q0 kf : Nat} {C : String} {T : u_T} {fs : List Value} (ty : Nat → FieldType) (hd : decode bc pc = .ok (.putfield idx, 3)) (hcl : vwCl[ci]? = some (C, T, N)) (hlay : ∀ w ∈ u_ws C T N, w ∈ qwords) (hty : ∀ k, k < N → parseFieldDescriptor (T k).2.2.1 = some (ty k)) (hnm : ∀ a, a < N → ∀ b, b < N → a ≠ b → (T a).2.1 ≠ (T b).2.1) (hk : kf < N) (hlink : Cond.fieldLink y.cls idx (T kf).1 (T kf).2.1 (T kf).2.2.1 ∈ qwords) (hfin : (T kf).2.2.2 = true) (hdecl : (T kf).1 = y.cls) (hn : ∀ b : Nat, narrow (ty kf) (.ref b) = .ref b) (hfit : ∀ b : Nat, fits (ty kf) (.ref b) = true) (he : ws[q0]? = some (qad X o, .inr (ci, fs))) (hl0 : kf < fs.length) (hp : pc + 3 = pc')
    (k : nbW X R y bc ml A sz Ex wse mc ms pc' lv st (ws.set q0 (qad X o, .inr (ci, fs.set kf (.ref (qad X v))))) nc ns) : nbW X R y bc ml A sz Ex wse mc ms pc lv (qr v :: qr o :: st) ws nc ns := by
  subst hp
  intro p e s m args below meth cd H locs ls C hz hP hD hS hl
  obtain ⟨x1, x2, x3, x4, x5, x6, x7, x8, x9, x10, x11, x12⟩ := id C
  refine va_putF (v := .ref (qad X v)) (ty := ty kf) x1 x2 x7 hlay ty hty hnm x6 x8 hP hD (nb_S1 hS) q0 he hcl kf hk (x7 _ hlink) (fun _ h => h) hfin x9 hdecl (hty kf hk) (hn _) (hfit _) hl0 hd (fun H1 locs1 hP1 hD1 hS1 => ?_)
  exact k p e s m args below meth cd H1 locs1 ls C (Nat.le_trans hz hS1.1) hP1 hD1 (nb_S2 hS hS1) hl
/-- a field that holds an int -/
theorem nb_putI {o ci N idx q0 kf : Nat} {v : Int} {C : String} {T : u_T} {fs : List Value} (ty : Nat → FieldType) (hd : decode bc pc = .ok (.putfield idx, 3)) (hcl : vwCl[ci]? = some (C, T, N)) (hlay : ∀ w ∈ u_ws C T N, w ∈ qwords) (hty : ∀ k, k < N → parseFieldDescriptor (T k).2.2.1 = some (ty k)) (hnm : ∀ a, a < N → ∀ b, b < N → a ≠ b → (T a).2.1 ≠ (T b).2.1) (hk : kf < N) (hlink : Cond.fieldLink y.cls idx (T kf).1 (T kf).2.1 (T kf).2.2.1 ∈ qwords) (hfin : (T kf).2.2.2 = false) (hti : ty kf = .int) (he : ws[q0]? = some (qad X o, .inr (ci, fs))) (hl0 : kf < fs.length) (hp : pc + 3 = pc')
    (k : nbW X R y bc ml A sz Ex wse mc ms pc' lv st (ws.set q0 (qad X o, .inr (ci, fs.set kf (.int (Int32.ofInt v))))) nc ns) : nbW X R y bc ml A sz Ex wse mc ms pc lv (qi v :: qr o :: st) ws nc ns := by
  subst hp
  intro p e s m args below meth cd H locs ls C hz hP hD hS hl
  obtain ⟨x1, x2, x3, x4, x5, x6, x7, x8, x9, x10, x11, x12⟩ := id C
  refine va_put (v := .int (Int32.ofInt v)) (ty := .int) x1 x2 x7 hlay ty hty hnm x6 x8 hP hD (nb_S1 hS) q0 he hcl kf hk (x7 _ hlink) (fun _ h => h) hfin (by rw [hty kf hk, hti]) rfl rfl hl0 hd (fun H1 locs1 hP1 hD1 hS1 => ?_)
  exact k p e s m args below meth cd H1 locs1 ls C (Nat.le_trans hz hS1.1) hP1 hD1 (nb_S2 hS hS1) hl
theorem nb_get {o v ci N idx q0 kf : Nat} {C : String} {T : u_T} {fs : List Value} (hd : decode bc pc = .ok (.getfield idx, 3)) (hcl : vwCl[ci]? = some (C, T, N)) (hlay : ∀ w ∈ u_ws C T N, w ∈ qwords) (hk : kf < N) (hlink : Cond.fieldLink y.cls idx (T kf).1 (T kf).2.1 (T kf).2.2.1 ∈ qwords) (he : ws[q0]? = some (qad X o, .inr (ci, fs))) (hv : fs[kf]? = some (.ref (qad X v))) (hp : pc + 3 = pc')
    (k : nbW X R y bc ml A sz Ex wse mc ms pc' lv (qr v :: st) ws nc ns) : nbW X R y bc ml A sz Ex wse mc ms pc lv (qr o :: st) ws nc ns := by
  subst hp
  intro p e s m args below meth cd H locs ls C hz hP hD hS hl
  obtain ⟨x1, x2, x3, x4, x5, x6, x7, x8, x9, x10, x11, x12⟩ := id C
  refine va_get (v := .ref (qad X v)) x1 x2 x7 hlay x6 x8 hP q0 he hcl kf hk (x7 _ hlink) (fun _ h => h) hv hd ?_
  exact k p e s m args below meth cd H locs ls C hz hP hD hS hl
theorem nb_ret (hd : decode bc pc = .ok (.return_, 1)) (hw : ws = wse) (hc : nc = mc) (hs : ns ≤ ms) : nbW X R y bc ml A sz Ex wse mc ms pc lv [] ws nc ns := by
  subst hw
  subst hc
  intro p e s m args below meth cd H locs ls C hz hP hD hS hl
  obtain ⟨x1, x2, x3, x4, x5, x6, x7, x8, x9, x10, x11, x12⟩ := id C
  refine W.widen (k := nc) (n := ms) (Nat.le_refl _) hs ?_
  exact W.vret x1 x2 x4 (fun t ht hW => ⟨⟨(), rfl, trivial, by rw [ht]; exact hz, by rw [ht]; exact hP, hD, va_K.moved hW.alike x8⟩, hS.F ht⟩) hS.2.2 hd (hlocks := x5)
theorem nb_entry {f : Nat} {vs : List qV} (hy : plainName y.cls = true) (hi : y.name = "<init>") (hn : qsz vs ≤ ml) (hl : qla 0 vs = lv) (h : nbW X (nrm f mc ms) y bc ml (va_A ws sz) sz Ex wse mc ms 0 lv [] ws 0 0) : nbC X f y bc ml vs ws sz Ex wse mc ms := by
  subst hl
  refine Met.ofW (cc := bc) (maxL := ml) (ret := none) hy rfl ?_
  intro p e s m args below meth c s₁ B hml hv
  obtain ⟨rfl, hsz, hP, hD, hK, hEx⟩ := hv
  have hts := atoms_spec (ws := qwm y bc ml none) B.pre
  have hown : s.vm.findClass y.cls = some m.cls := findClass_of_methodNamed B.named
  have hin : meth.name = "<init>" := ((name_of_methodNamed B.named B.method).1).trans hi
  have hle := lv_entry (vs.map (qvl X)) (n := ml) (by rw [qsz_sl]; exact hn)
  rw [lg_entry_eq]
  rw [qla_map] at hle
  subst hsz
  exact h p e s m _ below meth c s.heap [] _ ⟨B.exec, B.bytes, hml, B.returns, B.notSynchronized, hown, fun w hw => hts w (List.mem_cons_of_mem _ hw), hK, hin, rfl, fun q hq => Or.inr hq, hEx⟩ (Nat.le_refl _) hP (hD.self (sz := s.heap.size)) va_S.rf hle
end NB
