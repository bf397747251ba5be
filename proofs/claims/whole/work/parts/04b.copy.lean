/-! System.arraycopy out of an int array outside the world of which the first slots are known (its length is known as an int alone) into an int array of the world -/
theorem qx_nn {z : Int32} (hz : ¬ z < 0) : z.toInt = (z.toNatClampNeg : Int) := by
  have h : (0 : Int) ≤ z.toInt := by simpa using Int32.le_iff_toInt_le.mp (Int32.not_lt.mp hz)
  show z.toInt = ((z.toInt.toNat : Nat) : Int)
  omega
theorem qx_copy {p : Program} {l : Launch} {e : Env} {R : Room} {s : State} {m : MethodId} {args : Array Value} {below : List Frame} {meth : Method} {c : Code} {H : Heap} {locs : List Loc} {cells slots : Nat} {Q : State → Prop} {cc : ByteArray} {pc a b0 n0 n1 q1 t1 : Nat} {ls : Array Slot} {rest : List Value} {D : va_G} {cl : List vw_C} {A : Nat → Prop} {tys : List (ClassId × FieldType)} {ws : va_W} {own : String} {index : Nat} {f g : Nat → Int32} {c1 : ClassId} {sp dp n : Int32}
    (hx : p.tables.exec = Jvm.exec) (hb : c.code = cc) (hml : c.maxLocals = ls.size) (hown : s.vm.findClass own = some m.cls) (w1 : (Cond.methodLink own index arraycopyName).before args s = true) (w2 : (Cond.native arraycopyName).before args s = true) (w3 : (Cond.static arraycopyName).before args s = true) (w4 : (Cond.initialized "java/lang/System").before args s = true)
    (hK : va_K D cl tys s) (hP : va_P D cl ws H) (hD : va_D A ws) (hS : va_S A s.heap H locs) (hT0 : va_T .int b0 n0 (fun j => .int (f j)) A s s.heap) (ha : ws[q1]? = some (a, .inl (c1, n1, .inl g))) (ht : tys[t1]? = some (c1, .int)) (h1 : ¬ sp < 0) (h2 : ¬ dp < 0) (h3 : ¬ n < 0) (h4 : sp.toNatClampNeg + n.toNatClampNeg ≤ n0) (h5 : dp.toNatClampNeg + n.toNatClampNeg ≤ n1) (hR : 1 ≤ R.frames) (hL : (rest.map fun v => v.category).sum + (nativeFrameWords "java/lang/System" "arraycopy" 5 + 11) ≤ R.locals) (hd : decode cc pc = .ok (.invokestatic index, 3))
    (k : ∀ (H1 : Heap) (locs1 : List Loc), va_P D cl (ws.set q1 (a, .inl (c1, n1, .inl (va_cpy f g sp.toNatClampNeg dp.toNatClampNeg n.toNatClampNeg)))) H1 → va_S A s.heap H1 locs1 → W p l e R s m args below meth c H1 locs1 cells slots Q (F0 m (pc + 3) ls rest)) : W p l e R s m args below meth c H locs cells slots Q (F0 m pc ls (.int n :: .int dp :: .ref a :: .int sp :: .ref b0 :: rest)) := by
  intro T hT Xs
  subst hT
  obtain ⟨cs, e1, ⟨e2, ks, e3, cs0, e4⟩, e5, e6, -, e7, e8⟩ := hT0
  have hcs : T.heap[b0]? = some cs := (hS.2.1 b0 (Array.getElem?_eq_some_iff.mp e1).1 e8).trans e1
  have hcd : T.heap[a]? = some (vp_cell c1 (n1, .inl g)) := hP q1 _ ha
  have hA : A a := hD.2 q1 _ ha
  obtain ⟨-, kd, d1, cd0, d2⟩ := (hK.2 t1 _ ht).1 n1 (fun j => .int (g j))
  have hv : ∀ i, i < n.toNatClampNeg → cs.slots.getD (sp.toNatClampNeg + i) .null = .int (f (sp.toNatClampNeg + i)) := fun i hi => by
    rw [Array.getD_eq_getD_getElem?, e7 _ (by omega)]
    rfl
  have hd' : decode c.code (F0 m pc ls (.int n :: .int dp :: .ref a :: .int sp :: .ref b0 :: rest)).pc = .ok (.invokestatic index, 3) := by rw [hb]; exact hd
  obtain ⟨vm', X', st⟩ := Xs.arraycopy hx hown w1 w2 w3 w4 hcs hcd e2 (fun _ h => by cases h) e5 (fun h => by cases h) e3 d1 e4 d2 (by simp [refKind]) h1 h2 h3 (by rw [qx_nn h1, qx_nn h3]; omega) (by rw [qx_nn h2, qx_nn h3]; show ¬ _ > ((arrV c1 n1 (fun j => .int (g j))).slots.size : Int); rw [arrV_size]; omega) (fun vm1 _ i hi => by rw [hv i hi]; exact ⟨rfl, trivial⟩) (g := F0 m pc ls (.int n :: .int dp :: .ref a :: .int sp :: .ref b0 :: rest)) rfl hml.symm (rest := rest) rfl hd' hR (by show 2 * 0 + _ + _ ≤ _; omega)
  generalize hnew : vp_cell c1 (n1, .inl (va_cpy f g sp.toNatClampNeg dp.toNatClampNeg n.toNatClampNeg)) = cn
  have ecp : copied cs (vp_cell c1 (n1, .inl g)) sp dp n = cn := by rw [← hnew]; exact va_copiedX (fun z => .int z) cs c1 f g e7 h4
  rw [ecp] at X' st
  have hl : a < T.heap.size := (Array.getElem?_eq_some_iff.mp hcd).1
  have hq : ∀ q : Nat, q ≠ a → ((T.setVm vm').setCell a cn).heap[q]? = T.heap[q]? := fun q h => by
    show (T.heap.setIfInBounds a cn)[q]? = _
    simp [Array.getElem?_setIfInBounds, Ne.symm h]
  have ha' : ((T.setVm vm').setCell a cn).heap[a]? = some cn := by
    show (T.heap.setIfInBounds a cn)[a]? = _
    simp [Array.getElem?_setIfInBounds, hl]
  have hsz : ((T.setVm vm').setCell a cn).heap.size = T.heap.size := by
    show (T.heap.setIfInBounds a cn).size = _
    simp
  subst hnew
  obtain ⟨t, a1, b1⟩ := k _ _ (hP.set hD ha ha' hq) ⟨by rw [hsz]; exact hS.1, fun q g1 g2 => (hq q (fun h => g2 (by rw [h]; exact hA))).trans (hS.2.1 q g1 g2), fun q h => by
    rcases List.mem_append.mp h with h | h
    · exact hS.2.2 q h
    · obtain ⟨z, -, hz⟩ := List.mem_map.mp h
      rw [← hz]
      exact hA⟩ _ rfl X'
  exact ⟨t, st t a1, b1⟩
