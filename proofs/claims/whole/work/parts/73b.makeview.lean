/-! THE MAKING, with the object at the world's head and finished cells behind it -/
section NV
variable {X : qX} {R : Room} {y : MethodName} {bc : ByteArray} {ml : Nat} {A : Nat → Prop} {sz : Nat} {Ex : State → Prop} {wse ws : va_W} {mc ms pc pc' nc ns : Nat} {lv : qLv} {st : List qV} {S : qSto} {x : Nat × va_E} {L L' : List Nat}
theorem nws_app {L1 L2 : List Nat} : (x :: nws X S L1) ++ nws X S L2 = x :: nws X S (L1 ++ L2) := by simp [nws]
theorem nv_nI {c n : Nat} {v : Int} (hd : decode bc pc = .ok (.newarray .int, 2)) (hw : Cond.arrayClass .int ∈ qwords) (hs : qsh c = (1, 0, n)) (hz : ∀ j, S c j = 0) (hv : v = (n : Int)) (hn : n < 100000) (had : qad X c = sz + nc) (hc : nc + 1 ≤ R.cells) (hsl : ns + n ≤ R.slots) (hp : pc + 2 = pc') (hL : L ++ [c] = L')
    (k : nbW X R y bc ml A sz Ex wse mc ms pc' lv (qr c :: st) (x :: nws X S L') (nc + 1) (ns + n)) : nbW X R y bc ml A sz Ex wse mc ms pc lv (qi v :: st) (x :: nws X S L) nc ns := by
  subst hL
  rw [← nws_app] at k
  exact nb_nI hd hw hs hz hv hn had hc hsl hp k
theorem nv_nB {c n : Nat} {v : Int} (hd : decode bc pc = .ok (.newarray .byte, 2)) (hw : Cond.arrayClass .byte ∈ qwords) (hs : qsh c = (1, 1, n)) (hz : ∀ j, S c j = 0) (hv : v = (n : Int)) (hn : n < 100000) (had : qad X c = sz + nc) (hc : nc + 1 ≤ R.cells) (hsl : ns + n ≤ R.slots) (hp : pc + 2 = pc') (hL : L ++ [c] = L')
    (k : nbW X R y bc ml A sz Ex wse mc ms pc' lv (qr c :: st) (x :: nws X S L') (nc + 1) (ns + n)) : nbW X R y bc ml A sz Ex wse mc ms pc lv (qi v :: st) (x :: nws X S L) nc ns := by
  subst hL
  rw [← nws_app] at k
  exact nb_nB hd hw hs hz hv hn had hc hsl hp k
theorem nv_nZ {c n : Nat} {v : Int} (hd : decode bc pc = .ok (.newarray .boolean, 2)) (hw : Cond.arrayClass .boolean ∈ qwords) (hs : qsh c = (1, 2, n)) (hz : ∀ j, S c j = 0) (hv : v = (n : Int)) (hn : n < 100000) (had : qad X c = sz + nc) (hc : nc + 1 ≤ R.cells) (hsl : ns + n ≤ R.slots) (hp : pc + 2 = pc') (hL : L ++ [c] = L')
    (k : nbW X R y bc ml A sz Ex wse mc ms pc' lv (qr c :: st) (x :: nws X S L') (nc + 1) (ns + n)) : nbW X R y bc ml A sz Ex wse mc ms pc lv (qi v :: st) (x :: nws X S L) nc ns := by
  subst hL
  rw [← nws_app] at k
  exact nb_nZ hd hw hs hz hv hn had hc hsl hp k
theorem nv_nL {c n : Nat} {v : Int} (hd : decode bc pc = .ok (.newarray .long, 2)) (hw : Cond.arrayClass .long ∈ qwords) (hs : qsh c = (2, 3, n)) (hz : ∀ j, S c j = 0) (hv : v = (n : Int)) (hn : n < 100000) (had : qad X c = sz + nc) (hc : nc + 1 ≤ R.cells) (hsl : ns + n ≤ R.slots) (hp : pc + 2 = pc') (hL : L ++ [c] = L')
    (k : nbW X R y bc ml A sz Ex wse mc ms pc' lv (qr c :: st) (x :: nws X S L') (nc + 1) (ns + n)) : nbW X R y bc ml A sz Ex wse mc ms pc lv (qi v :: st) (x :: nws X S L) nc ns := by
  subst hL
  rw [← nws_app] at k
  exact nb_nL hd hw hs hz hv hn had hc hsl hp k
theorem nv_nM {c N M idx : Nat} {v w : Int} (hd : decode bc pc = .ok (.multianewarray idx 2, 4)) (h1 : Cond.classLink y.cls idx ("[" ++ (FieldType.array .int).toString) ∈ qwords) (h2 : ∀ U, Ex U → nAO U) (h3 : Cond.arrayClass .int ∈ qwords) (hs : qsh c = (3, 4, N)) (hsi : ∀ j, j < N → qsh (qrf c j) = (1, 0, M)) (hz : ∀ j, j < N → ∀ i, S (qrf c j) i = 0) (hv : v = (N : Int)) (hw : w = (M : Int)) (bN : N < 10000) (bM : M < 10000) (had : qad X c = sz + nc) (hadi : ∀ j, j < N → qad X (qrf c j) = sz + nc + 1 + j) (hc : nc + (1 + N) ≤ R.cells) (hsl : ns + (N + N * M) ≤ R.slots) (hp : pc + 4 = pc') (hL : L ++ (c :: (List.range N).map (qrf c)) = L')
    (k : nbW X R y bc ml A sz Ex wse mc ms pc' lv (qr c :: st) (x :: nws X S L') (nc + 1 + N) (ns + N + N * M)) : nbW X R y bc ml A sz Ex wse mc ms pc lv (qi w :: qi v :: st) (x :: nws X S L) nc ns := by
  subst hL
  rw [← nws_app] at k
  refine nb_nM hd h1 h2 h3 hs hsi hz hv hw bN bM had hadi hc hsl hp ?_
  have e : nws X S (c :: (List.range N).map (qrf c)) = (qad X c, qcell X S c) :: (List.range N).map (fun j => (qad X (qrf c j), qcell X S (qrf c j))) := by simp [nws, Function.comp_def]
  rw [← e]
  exact k
theorem nv_putF {o v ci N idx kf : Nat} {C : String} {T : u_T} {fs fs' : List Value} {W : va_W} (ty : Nat → FieldType) (hd : decode bc pc = .ok (.putfield idx, 3)) (hcl : vwCl[ci]? = some (C, T, N)) (hlay : ∀ w ∈ u_ws C T N, w ∈ qwords) (hty : ∀ k, k < N → parseFieldDescriptor (T k).2.2.1 = some (ty k)) (hnm : ∀ a, a < N → ∀ b, b < N → a ≠ b → (T a).2.1 ≠ (T b).2.1) (hk : kf < N) (hlink : Cond.fieldLink y.cls idx (T kf).1 (T kf).2.1 (T kf).2.2.1 ∈ qwords) (hfin : (T kf).2.2.2 = true) (hdecl : (T kf).1 = y.cls) (hn : ∀ b : Nat, narrow (ty kf) (.ref b) = .ref b) (hfit : ∀ b : Nat, fits (ty kf) (.ref b) = true) (hl0 : kf < fs.length) (hp : pc + 3 = pc') (hf : fs.set kf (.ref (qad X v)) = fs')
    (k : nbW X R y bc ml A sz Ex wse mc ms pc' lv st ((qad X o, .inr (ci, fs')) :: W) nc ns) : nbW X R y bc ml A sz Ex wse mc ms pc lv (qr v :: qr o :: st) ((qad X o, .inr (ci, fs)) :: W) nc ns := by
  subst hf
  exact nb_putF (q0 := 0) ty hd hcl hlay hty hnm hk hlink hfin hdecl hn hfit rfl hl0 hp k
theorem nv_putI {o ci N idx kf : Nat} {v : Int} {C : String} {T : u_T} {fs fs' : List Value} {W : va_W} (ty : Nat → FieldType) (hd : decode bc pc = .ok (.putfield idx, 3)) (hcl : vwCl[ci]? = some (C, T, N)) (hlay : ∀ w ∈ u_ws C T N, w ∈ qwords) (hty : ∀ k, k < N → parseFieldDescriptor (T k).2.2.1 = some (ty k)) (hnm : ∀ a, a < N → ∀ b, b < N → a ≠ b → (T a).2.1 ≠ (T b).2.1) (hk : kf < N) (hlink : Cond.fieldLink y.cls idx (T kf).1 (T kf).2.1 (T kf).2.2.1 ∈ qwords) (hfin : (T kf).2.2.2 = false) (hti : ty kf = .int) (hl0 : kf < fs.length) (hp : pc + 3 = pc') (hf : fs.set kf (.int (Int32.ofInt v)) = fs')
    (k : nbW X R y bc ml A sz Ex wse mc ms pc' lv st ((qad X o, .inr (ci, fs')) :: W) nc ns) : nbW X R y bc ml A sz Ex wse mc ms pc lv (qi v :: qr o :: st) ((qad X o, .inr (ci, fs)) :: W) nc ns := by
  subst hf
  exact nb_putI (q0 := 0) ty hd hcl hlay hty hnm hk hlink hfin hti rfl hl0 hp k
theorem nv_get {o v ci N idx kf : Nat} {C : String} {T : u_T} {fs : List Value} {W : va_W} (hd : decode bc pc = .ok (.getfield idx, 3)) (hcl : vwCl[ci]? = some (C, T, N)) (hlay : ∀ w ∈ u_ws C T N, w ∈ qwords) (hk : kf < N) (hlink : Cond.fieldLink y.cls idx (T kf).1 (T kf).2.1 (T kf).2.2.1 ∈ qwords) (hv : fs[kf]? = some (.ref (qad X v))) (hp : pc + 3 = pc')
    (k : nbW X R y bc ml A sz Ex wse mc ms pc' lv (qr v :: st) ((qad X o, .inr (ci, fs)) :: W) nc ns) : nbW X R y bc ml A sz Ex wse mc ms pc lv (qr o :: st) ((qad X o, .inr (ci, fs)) :: W) nc ns :=
  nb_get (q0 := 0) hd hcl hlay hk hlink rfl hv hp k
/-- a new object, behind the rest -/
theorem nv_new {o ci N idx : Nat} {C : String} {T : u_T} {fs : List Value} {W : va_W} (ty : Nat → FieldType) (hd : decode bc pc = .ok (.new idx, 3)) (hcl : vwCl[ci]? = some (C, T, N)) (hlay : ∀ w ∈ u_ws C T N, w ∈ qwords) (hty : ∀ k, k < N → parseFieldDescriptor (T k).2.2.1 = some (ty k)) (h1 : Cond.classLink y.cls idx C ∈ qwords) (h2 : Cond.instantiable C N ∈ qwords) (h3 : Cond.initialized C ∈ qwords) (hfs : ∀ j, j < N → defaultValue (ty j) = vp_V fs j) (had : qad X o = sz + nc) (hc : nc + 1 ≤ R.cells) (hs : ns + N ≤ R.slots) (hp : pc + 3 = pc')
    (k : nbW X R y bc ml A sz Ex wse mc ms pc' lv (qr o :: st) (x :: (W ++ [(qad X o, .inr (ci, fs))])) (nc + 1) (ns + N)) : nbW X R y bc ml A sz Ex wse mc ms pc lv st (x :: W) nc ns :=
  nb_new (ws := x :: W) ty hd hcl hlay hty h1 h2 h3 hfs had hc hs hp k
theorem nv_callI {o mz idx n f mc' ms' : Nat} {z : MethodName} {bz : ByteArray} {as st0 : List qV} {wc : va_W} {Lo : List Nat} {Ez : State → Prop} (hd : decode bc pc = .ok (.invokespecial idx, 3)) (h1 : Cond.methodLink y.cls idx z ∈ qwords) (h2 : Cond.instanceMethod z ∈ qwords) (h3 : Cond.initialized z.cls ∈ qwords) (h4 : Cond.code z bz mz none ∈ qwords) (hzn : z.name = "<init>") (hpd : z.cls ≠ "java/lang/invoke/MethodHandle" ∧ z.cls ≠ "java/lang/invoke/VarHandle" ∧ (parseMethodDescriptor z.desc).map (fun d => d.parameters.length) = some n) (hmz : mz ≤ 40) (hst : st0 = as.reverse ++ qr o :: st) (hn : as.length = n) (hr : qroom st ≤ 8) (hRf : f + 2 ≤ R.frames) (hRl : 64 * (f + 2) ≤ R.locals) (hc : nc + mc' ≤ R.cells) (hs : ns + ms' ≤ R.slots)
    (hE : ∀ (U : State) (g : JFrame) (mk : MethodId) (a : Array Value), Ez U → Ez (U.calling g mk a)) (hE2 : ∀ (s U : State) (H : Heap) (locs : List Loc), Ex s → va_S A s.heap H locs → s.WarmedH U.vm → U.heap = H → Ez U)
    (hM : nbC X f z bz mz (qr o :: as) wc (sz + nc) Ez (nws X S Lo) mc' ms') (hp : pc + 3 = pc') (hL : L ++ Lo = L') (k : nbW X R y bc ml A sz Ex wse mc ms pc' lv st (x :: nws X S L') (nc + mc') (ns + ms')) : nbW X R y bc ml A sz Ex wse mc ms pc lv st0 (x :: (nws X S L ++ wc)) nc ns := by
  subst hL
  rw [← nws_app] at k
  exact nb_callI (wr := x :: nws X S L) hd h1 h2 h3 h4 hzn hpd hmz hst hn hr hRf hRl hc hs hE hE2 hM rfl hp k
theorem nv_callN {o mz idx n f mc' ms' : Nat} {z : MethodName} {bz : ByteArray} {as st0 : List qV} {wc : va_W} {Lo : List Nat} {Ez : State → Prop} (hd : decode bc pc = .ok (.invokespecial idx, 3)) (h1 : ∀ U : State, Ex U → va_Nw (.methodLinkNest y.cls idx z "QuayBerths") U) (h2 : Cond.instanceMethod z ∈ qwords) (h3 : Cond.initialized z.cls ∈ qwords) (h4 : Cond.code z bz mz none ∈ qwords) (hzn : z.name = "<init>") (hpd : z.cls ≠ "java/lang/invoke/MethodHandle" ∧ z.cls ≠ "java/lang/invoke/VarHandle" ∧ (parseMethodDescriptor z.desc).map (fun d => d.parameters.length) = some n) (hmz : mz ≤ 40) (hst : st0 = as.reverse ++ qr o :: st) (hn : as.length = n) (hr : qroom st ≤ 8) (hRf : f + 2 ≤ R.frames) (hRl : 64 * (f + 2) ≤ R.locals) (hc : nc + mc' ≤ R.cells) (hs : ns + ms' ≤ R.slots)
    (hE : ∀ (U : State) (g : JFrame) (mk : MethodId) (a : Array Value), Ez U → Ez (U.calling g mk a)) (hE2 : ∀ (s U : State) (H : Heap) (locs : List Loc), Ex s → va_S A s.heap H locs → s.WarmedH U.vm → U.heap = H → Ez U)
    (hM : nbC X f z bz mz (qr o :: as) wc (sz + nc) Ez (nws X S Lo) mc' ms') (hp : pc + 3 = pc') (hL : L ++ Lo = L') (k : nbW X R y bc ml A sz Ex wse mc ms pc' lv st (x :: nws X S L') (nc + mc') (ns + ms')) : nbW X R y bc ml A sz Ex wse mc ms pc lv st0 (x :: (nws X S L ++ wc)) nc ns := by
  subst hL
  rw [← nws_app] at k
  exact nb_callN (wr := x :: nws X S L) hd h1 h2 h3 h4 hzn hpd hmz hst hn hr hRf hRl hc hs hE hE2 hM rfl hp k
theorem nv_ret {o ci : Nat} {fs : List Value} (hd : decode bc pc = .ok (.return_, 1)) (hq : qcell X S o = .inr (ci, fs)) (hc : nc = mc) (hs : ns ≤ ms) : nbW X R y bc ml A sz Ex (nws X S (o :: L)) mc ms pc lv [] ((qad X o, .inr (ci, fs)) :: nws X S L) nc ns :=
  nb_ret hd (by simp [nws, hq]) hc hs
theorem nv_entry {f : Nat} {vs : List qV} (S : qSto) (hy : plainName y.cls = true) (hi : y.name = "<init>") (hn : qsz vs ≤ ml) (hl : qla 0 vs = lv) (h : nbW X (nrm f mc ms) y bc ml (va_A [x] sz) sz Ex wse mc ms 0 lv [] (x :: nws X S []) 0 0) : nbC X f y bc ml vs [x] sz Ex wse mc ms := nb_entry hy hi hn hl h
end NV
