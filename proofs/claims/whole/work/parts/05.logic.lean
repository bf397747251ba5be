/-! THE LOGIC. A store gives each cell's slots as ints; references are fixed. qW: from here the method comes to its end, with Q of answer and store. qC: a method's contract. -/
abbrev qV : Type := Int ⊕ (Int ⊕ (Nat ⊕ Value))
abbrev qSto : Type := Nat → Nat → Int
abbrev qLv : Type := List (Nat × qV)
abbrev qX : Type := Launch × (Nat → ClassId) × (Nat → Nat → Nat) × (Nat → Nat) × (Nat → ClassId) × List Nat
abbrev qi (v : Int) : qV := .inl v
abbrev ql (v : Int) : qV := .inr (.inl v)
abbrev qr (c : Nat) : qV := .inr (.inr (.inl c))
abbrev qo (v : Value) : qV := .inr (.inr (.inr v))
def qad (X : qX) (c : Nat) : Nat := X.2.2.2.1 c
def qca (X : qX) (t : Nat) : ClassId := X.2.2.2.2.1 t
def qLs (X : qX) : List Nat := X.2.2.2.2.2
def qD (X : qX) : va_G := (X.2.1, X.2.2.1)
def qvl (X : qX) : qV → Value
  | .inl v => .int (Int32.ofInt v)
  | .inr (.inl v) => .long (Int64.ofInt v)
  | .inr (.inr (.inl c)) => .ref (qad X c)
  | .inr (.inr (.inr v)) => v
def qR (a : Int) : Prop := -2147483648 ≤ a ∧ a ≤ 2147483647
def qRL (a : Int) : Prop := -9223372036854775808 ≤ a ∧ a ≤ 9223372036854775807
/-- one cell's contents anew -/
def qua (S : qSto) (c : Nat) (f : Nat → Int) : qSto := fun a j => if a = c then f j else S a j
/-- one slot anew -/
def qup (S : qSto) (c i : Nat) (v : Int) : qSto := qua S c (fun j => if j = i then v else S c j)
def qfv (X : qX) (S : qSto) (c ci j : Nat) : Value := if qst ci j = 2 then .ref (qad X (qrf c j)) else if qst ci j = 1 then .long (Int64.ofInt (S c j)) else .int (Int32.ofInt (S c j))
def qcell (X : qX) (S : qSto) (c : Nat) : va_E :=
  if (qsh c).1 = 0 then .inr ((qsh c).2.1, (List.range (qsh c).2.2).map (qfv X S c (qsh c).2.1))
  else if (qsh c).1 = 1 then .inl (qca X (qsh c).2.1, (qsh c).2.2, .inl (fun j => Int32.ofInt (S c j)))
  else if (qsh c).1 = 2 then .inl (qca X 3, (qsh c).2.2, .inr (.inl (fun j => Int64.ofInt (S c j))))
  else .inl (qca X 4, (qsh c).2.2, .inr (.inr (.inr (.inr (fun j => if j < (qsh c).2.2 then some (qad X (qrf c j)) else none)))))
def qws (X : qX) (S : qSto) : va_W := (qLs X).map (fun c => (qad X c, qcell X S c))
def qA (X : qX) : Nat → Prop := fun q => ∃ c ∈ qLs X, q = qad X c
def qty (t : Nat) : FieldType := match t with
  | 0 => .int
  | 1 => .byte
  | 2 => .boolean
  | 3 => .long
  | _ => .array .int
def qtys (X : qX) : List (ClassId × FieldType) := [(qca X 0, .int), (qca X 1, .byte), (qca X 2, .boolean), (qca X 3, .long), (qca X 4, .array .int)]
def qWd (X : qX) (S : qSto) (U : State) (H : Heap) : Prop := va_P (qD X) vwCl (qws X S) H ∧ va_D (qA X) (qws X S) ∧ va_K (qD X) vwCl (qtys X) U
def qsn (i : Nat) : String := match i with
  | 0 => "NUMBERS_OF"
  | 1 => "FIRST_NUMBER_OF"
  | 2 => "LEAST_NUMBER"
  | 3 => "GREATEST_NUMBER"
  | _ => "WITHOUT_A_LINE"
/-- the nest's links of the static arrays: who reads, by which entry, which array -/
def qnl : List (String × Nat × Nat) := [("QuayBerths$Reader", 105, 2), ("QuayBerths$Reader", 75, 0), ("QuayBerths$Reader", 95, 3), ("QuayBerths$Reader", 98, 1), ("QuayBerths$Told", 42, 4)]
def qskl : List (Nat × String) := [(125, "quay"), (127, "gap"), (129, "keel"), (131, "channel"), (133, "rate"), (135, "loss"), (137, "section"), (139, "crane"), (141, "tide"), (143, "gangs"), (145, "ship")]
def qslen : List Nat := [4, 3, 4, 7, 4, 4, 7, 5, 4, 5, 4]
def qsbyt : List (List Int32) := [[113, 117, 97, 121], [103, 97, 112], [107, 101, 101, 108], [99, 104, 97, 110, 110, 101, 108], [114, 97, 116, 101], [108, 111, 115, 115], [115, 101, 99, 116, 105, 111, 110], [99, 114, 97, 110, 101], [116, 105, 100, 101], [103, 97, 110, 103, 115], [115, 104, 105, 112]]
def qsch : List (List Int) := [[113, 117, 97, 121], [103, 97, 112], [107, 101, 101, 108], [99, 104, 97, 110, 110, 101, 108], [114, 97, 116, 101], [108, 111, 115, 115], [115, 101, 99, 116, 105, 111, 110], [99, 114, 97, 110, 101], [116, 105, 100, 101], [103, 97, 110, 103, 115], [115, 104, 105, 112]]
/-- what stands outside the world: static arrays, String constants, nest links -/
def qEx (X : qX) (U : State) (H : Heap) : Prop :=
  (∀ i, i < 5 → va_Z "QuayBerths" (qsn i) "[I" (.ref (qad X (100 + i))) (qA X) U H ∧ va_T .int (qad X (100 + i)) (qsl i).length (fun j => .int (Int32.ofInt ((qsl i).getD j 0))) (qA X) U H) ∧
  (∀ q ∈ qnl, va_Nw (.fieldLinkNest q.1 q.2.1 "QuayBerths" (qsn q.2.2) "[I" "QuayBerths") U) ∧
  vk_S 11 qslen qsbyt (fun i => qad X (200 + i)) (fun i => qad X (300 + i)) (qA X) U H ∧
  (∀ (i : Nat) (q : Nat × String), qskl[i]? = some q → vk_R "QuayBerths$Reader" q.1 q.2 (qad X (200 + i)) U) ∧
  va_Z "java/lang/String" "COMPACT_STRINGS" "Z" (.int 1) (qA X) U H ∧ va_Zq "jdk/internal/util/Preconditions" "SIOOBE_FORMATTER" "Ljava/util/function/BiFunction;" (qA X) U H
theorem qEx.at {X : qX} {s U : State} {locs : List Loc} {H : Heap} (h : qEx X s s.heap) (hS : va_S (qA X) s.heap H locs) (hW : s.WarmedH U.vm) (hU : U.heap = H) : qEx X U U.heap := by
  refine ⟨fun i hi => ?_, fun q hq => va_Nw.warmF hW (h.2.1 q hq), by rw [hU]; exact vk_S.moved hW.alike (h.2.2.1.kept hS.2.1), fun i q hq => vk_R.warm hW (h.2.2.2.1 i q hq), by rw [hU]; exact va_Z.moved hW.alike (h.2.2.2.2.1.kept hS.2.1), by rw [hU]; exact va_Zq.moved hW.alike (h.2.2.2.2.2.kept hS.2.1)⟩
  obtain ⟨h1, h2⟩ := h.1 i hi
  rw [hU]
  exact ⟨va_Z.moved hW.alike (h1.kept hS.2.1), va_T.moved hW.alike (h2.kept hS.2.1)⟩
theorem qEx.same {X : qX} {u U : State} (h : qEx X u u.heap) (hv : u.vm = U.vm) (hh : U.heap = u.heap) : qEx X U U.heap := by
  have ha : u.vm.Alike U.vm := by rw [hv]; exact Vm.Alike.refl _
  refine ⟨fun i hi => ?_, fun q hq => va_Nw.same rfl hv (h.2.1 q hq), by rw [hh]; exact vk_S.moved ha h.2.2.1, fun i q hq => vk_R.same hv.symm (h.2.2.2.1 i q hq), by rw [hh]; exact va_Z.moved ha h.2.2.2.2.1, by rw [hh]; exact va_Zq.moved ha h.2.2.2.2.2⟩
  obtain ⟨h1, h2⟩ := h.1 i hi
  rw [hh]
  exact ⟨va_Z.moved ha h1, va_T.moved ha h2⟩
def qwords : List Cond := lw_tbl.filter goodWord
def qwm (y : MethodName) (bc : ByteArray) (ml : Nat) (rt : Option FieldType) : List Cond := Cond.code y bc ml rt :: qwords
def qrm (d : Nat) : Room := { frames := d + 1, cells := 0, slots := 0, locals := 64 * (d + 1) }
def qPc (X : qX) (vs : List qV) (S : qSto) : Array Value → State → Prop := va_Pc (vs.map (qvl X)) (fun U => qWd X S U U.heap ∧ qEx X U U.heap)
def qQc (X : qX) (Q : Option qV → qSto → Prop) : Array Value → State → Outcome → State → Prop := fun _ st o t => (∃ (r : Option qV) (S : qSto), Q r S ∧ o = .returned (r.map (qvl X)) ∧ qWd X S t t.heap) ∧ va_F (qA X) st t
def qC (X : qX) (d : Nat) (y : MethodName) (bc : ByteArray) (ml : Nat) (rt : Option FieldType) (vs : List qV) (S : qSto) (Q : Option qV → qSto → Prop) : Prop :=
  Met X.1 y (qwm y bc ml rt) (qrm d) (qPc X vs S) (qQc X Q) 0 0 (qA X)
def qCx (X : qX) (d : Nat) (y : MethodName) (bc : ByteArray) (ml : Nat) (rt : Option FieldType) (p : Program) (s : State) (m : MethodId) (args : Array Value) (meth : Method) (c : Code) : Prop :=
  p.tables.exec = Jvm.exec ∧ c.code = bc ∧ c.maxLocals = ml ∧ meth.sig.returnType = rt ∧ meth.locks = false ∧ s.vm.findClass y.cls = some m.cls ∧ (∀ w ∈ qwm y bc ml rt, w.before args s = true) ∧ qEx X s s.heap
def qlv (X : qX) (lv : qLv) : List (Nat × Value) := lv.map (fun q => (q.1, qvl X q.2))
def qW (X : qX) (d : Nat) (y : MethodName) (bc : ByteArray) (ml : Nat) (rt : Option FieldType) (pc : Nat) (lv : qLv) (st : List qV) (S : qSto) (Q : Option qV → qSto → Prop) : Prop :=
  ∀ (p : Program) (e : Env) (s : State) (m : MethodId) (args : Array Value) (below : List Frame) (meth : Method) (c : Code) (H : Heap) (locs : List Loc) (ls : Array Slot),
    qCx X d y bc ml rt p s m args meth c → qWd X S s H → va_S (qA X) s.heap H locs → lv_has ls ml (qlv X lv) →
    W p X.1 e (qrm d) s m args below meth c H locs 0 0 (MQ below (qQc X Q) args s 0 0 (qA X)) (F0 m pc ls (st.map (qvl X)))
def qlong : qV → Bool
  | .inr (.inl _) => true
  | .inr (.inr (.inr v)) => v.category == 2
  | _ => false
theorem qcat (X : qX) (v : qV) : (qvl X v).category = if qlong v then 2 else 1 := by
  rcases v with v | v | v | v
  · rfl
  · rfl
  · rfl
  · show v.category = if (v.category == 2) = true then 2 else 1
    rcases lv_cat v with h | h <;> simp [h]
/-- a local anew -/
def qset (i : Nat) (v : qV) (lv : qLv) : qLv := (i, v) :: lv.filter (fun q => !(q.1 == i) && !(q.1 + 1 == i && qlong q.2))
def qset2 (i : Nat) (v : qV) (lv : qLv) : qLv := (i, v) :: lv.filter (fun q => !(q.1 == i) && (!(q.1 == i + 1) && !(q.1 + 1 == i && qlong q.2)))
theorem qset_map (X : qX) (i : Nat) (v : qV) (lv : qLv) : (i, qvl X v) :: (qlv X lv).filter (fun q => !(q.1 == i) && !(q.1 + 1 == i && q.2.category == 2)) = qlv X (qset i v lv) := by
  unfold qset qlv
  rw [List.map_cons, List.filter_map]
  congr 2
  apply List.filter_congr
  intro q _
  simp only [Function.comp, qcat]
  cases qlong q.2 <;> rfl
theorem qset2_map (X : qX) (i : Nat) (v : qV) (lv : qLv) : (i, qvl X v) :: (qlv X lv).filter (fun q => !(q.1 == i) && (!(q.1 == i + 1) && !(q.1 + 1 == i && q.2.category == 2))) = qlv X (qset2 i v lv) := by
  unfold qset2 qlv
  rw [List.map_cons, List.filter_map]
  congr 2
  apply List.filter_congr
  intro q _
  simp only [Function.comp, qcat]
  cases qlong q.2 <;> rfl
theorem qlook {α : Type} {i : Nat} {v : α} : ∀ {lv : List (Nat × α)}, lv.lookup i = some v → (i, v) ∈ lv
  | [], h => by simp at h
  | (k, w) :: l, h => by
    rw [List.lookup_cons] at h
    by_cases e : i = k
    · subst e
      simp at h
      subst h
      exact List.mem_cons_self
    · have e' : (i == k) = false := by simpa using e
      rw [e'] at h
      exact List.mem_cons_of_mem _ (qlook h)
theorem qlocal {X : qX} {ls : Array Slot} {ml i : Nat} {v : qV} {lv : qLv} (h : lv_has ls ml (qlv X lv)) (hl : lv.lookup i = some v) : ls[i]? = some (.val (qvl X v)) :=
  h.2.2 (i, qvl X v) (List.mem_map.mpr ⟨(i, v), qlook hl, rfl⟩)
/-! numbers -/
theorem q_to {a : Int} (h : qR a) : (Int32.ofInt a).toInt = a := Int32.toInt_ofInt_of_le (by have := h.1; omega) (by have := h.2; omega)
theorem q_toL {a : Int} (h : qRL a) : (Int64.ofInt a).toInt = a := Int64.toInt_ofInt_of_le (by have := h.1; omega) (by have := h.2; omega)
theorem q_lt {a b : Int} (ha : qR a) (hb : qR b) : Int32.ofInt a < Int32.ofInt b ↔ a < b := by rw [Int32.lt_iff_toInt_lt, q_to ha, q_to hb]
theorem q_le {a b : Int} (ha : qR a) (hb : qR b) : Int32.ofInt a ≤ Int32.ofInt b ↔ a ≤ b := by rw [Int32.le_iff_toInt_le, q_to ha, q_to hb]
theorem q_eq {a b : Int} (ha : qR a) (hb : qR b) : Int32.ofInt a = Int32.ofInt b ↔ a = b := by rw [← Int32.toInt_inj, q_to ha, q_to hb]
theorem q_R0 : qR 0 := ⟨by decide, by decide⟩
theorem q_cl {n : Nat} {a : Int} (h0 : 0 ≤ a) (h1 : a < n) (hn : n < 2147483648) : vp_in (Int32.ofInt a) n ∧ (Int32.ofInt a).toNatClampNeg = a.toNat := by
  have hr : qR a := ⟨by omega, by omega⟩
  refine ⟨vp_in_iff.mpr ?_, ?_⟩
  · rw [q_to hr]; exact ⟨h0, h1⟩
  · rw [Int32.toNatClampNeg, q_to hr]
theorem q_nb {v : Int} (h : -128 ≤ v ∧ v ≤ 127) : vp_nar .byte (Int32.ofInt v) = Int32.ofInt v := by
  rw [vp_nar_byte, Int32.toInt8_ofInt, Int8.toInt32_ofInt (by rw [Int8.toInt_minValue]; omega) (by rw [Int8.toInt_maxValue]; omega)]
theorem q_nz {v : Int} (h : v = 0 ∨ v = 1) : vp_nar .boolean (Int32.ofInt v) = Int32.ofInt v := by
  rcases h with rfl | rfl <;> decide
theorem qupdL {f : Nat → Int} {i : Int} {v : Int} : (vp_updL (fun j => Int64.ofInt (f j)) i.toNat (Int64.ofInt v)) = (fun j => Int64.ofInt (if j = i.toNat then v else f j)) := by
  funext j
  unfold vp_updL
  split <;> rfl
theorem q_lremE {x y : Int64} : x - x / y * y = x % y := by
  apply Int64.toInt_inj.mp
  have h1 := Int64.le_toInt (x % y)
  have h2 := Int64.toInt_lt (x % y)
  rw [Int64.toInt_sub, Int64.toInt_mul, Int64.toInt_div, Int.bmod_mul_bmod, Int.sub_bmod_bmod, Int.mul_comm (x.toInt.tdiv y.toInt), ← Int.tmod_def, ← Int64.toInt_mod]
  exact Int.bmod_eq_of_le_mul_two (by omega) (by omega)
theorem qsl_len : ∀ t, t < 5 → (qsl t).length < 100 := by decide +kernel
theorem qnat : nativeFrameWords "java/lang/System" "arraycopy" 5 ≤ 40 := by decide +kernel
section QR
variable {X : qX} {d : Nat} {y : MethodName} {bc : ByteArray} {ml : Nat} {rt : Option FieldType} {pc pc' : Nat} {lv lv' : qLv} {st : List qV} {S : qSto} {Q : Option qV → qSto → Prop}
theorem q_pure {st' : List qV} (h : qW X d y bc ml rt pc' lv st' S Q) (f : ∀ {p : Program} {e : Env} {R : Room} {s : State} {m : MethodId} {args : Array Value} {below : List Frame} {meth : Method} {c : Code} {H : Heap} {locs : List Loc} {cells slots : Nat} {Qm : State → Prop} {ls : Array Slot}, p.tables.exec = Jvm.exec → c.code = bc → lv_has ls ml (qlv X lv) → W p X.1 e R s m args below meth c H locs cells slots Qm (F0 m pc' ls (st'.map (qvl X))) → W p X.1 e R s m args below meth c H locs cells slots Qm (F0 m pc ls (st.map (qvl X)))) : qW X d y bc ml rt pc lv st S Q := by
  intro p e s m args below meth c H locs ls C hWd hS hl
  exact f C.1 C.2.1 hl (h p e s m args below meth c H locs ls C hWd hS hl)
theorem q_iconst {n v : Int} (hd : decode bc pc = .ok (.iconst n, 1)) (hv : n = v) (hp : pc + 1 = pc') (k : qW X d y bc ml rt pc' lv (qi v :: st) S Q) : qW X d y bc ml rt pc lv (st) S Q := by
  subst hp
  refine q_pure k (fun hx hb hl k => ?_)
  exact lv_iconst hx hb hd rfl (hv ▸ k)
theorem q_bipush {n : Int} (hd : decode bc pc = .ok (.bipush n, 2)) (hv : -128 ≤ n ∧ n ≤ 127) (hp : pc + 2 = pc') (k : qW X d y bc ml rt pc' lv (qi n :: st) S Q) : qW X d y bc ml rt pc lv (st) S Q := by
  subst hp
  refine q_pure k (fun hx hb hl k => ?_)
  exact lv_bipush hx hb hd (Int8.toInt32_ofInt (by rw [Int8.toInt_minValue]; have := hv.1; omega) (by rw [Int8.toInt_maxValue]; have := hv.2; omega)) k
theorem q_sipush {n : Int} (hd : decode bc pc = .ok (.sipush n, 3)) (hv : -32768 ≤ n ∧ n ≤ 32767) (hp : pc + 3 = pc') (k : qW X d y bc ml rt pc' lv (qi n :: st) S Q) : qW X d y bc ml rt pc lv (st) S Q := by
  subst hp
  refine q_pure k (fun hx hb hl k => ?_)
  exact lv_sipush hx hb hd (Int16.toInt32_ofInt (by rw [Int16.toInt_minValue]; have := hv.1; omega) (by rw [Int16.toInt_maxValue]; have := hv.2; omega)) k
theorem q_lconst {n : Fin 2} {v : Int} (hd : decode bc pc = .ok (.lconst n, 1)) (hv : ((n : Nat) : Int) = v) (hp : pc + 1 = pc') (k : qW X d y bc ml rt pc' lv (ql v :: st) S Q) : qW X d y bc ml rt pc lv (st) S Q := by
  subst hp
  refine q_pure k (fun hx hb hl k => ?_)
  exact lv_lconst hx hb hd (by rw [← Int64.ofInt_eq_ofNat, hv]) k
theorem q_iload_n {n : Fin 4} {v : Int} (hd : decode bc pc = .ok (.iload_n n, 1)) (hl : lv.lookup (n : Nat) = some (qi v)) (hp : pc + 1 = pc') (k : qW X d y bc ml rt pc' lv (qi v :: st) S Q) : qW X d y bc ml rt pc lv st S Q := by
  subst hp
  exact q_pure k (fun hx hb h k => lv_iload_n hx hb hd rfl (qlocal h hl) k)
theorem q_iload {n : Nat} {v : Int} (hd : decode bc pc = .ok (.iload n, 2)) (hl : lv.lookup n = some (qi v)) (hp : pc + 2 = pc') (k : qW X d y bc ml rt pc' lv (qi v :: st) S Q) : qW X d y bc ml rt pc lv st S Q := by
  subst hp
  exact q_pure k (fun hx hb h k => lv_iload hx hb hd (qlocal h hl) k)
theorem q_istore_n {n : Fin 4} {v : Int} (hd : decode bc pc = .ok (.istore_n n, 1)) (hn : (n : Nat) < ml) (hv : qset n (qi v) lv = lv') (hp : pc + 1 = pc') (k : qW X d y bc ml rt pc' lv' st S Q) : qW X d y bc ml rt pc lv (qi v :: st) S Q := by
  subst hp
  subst hv
  intro p e s m args below meth c H locs ls C hWd hS hl
  exact lv_istore_n C.1 C.2.1 hd rfl hl hn (qset_map X n (qi v) lv) (fun ls hl => k p e s m args below meth c H locs ls C hWd hS hl)
theorem q_istore {n : Nat} {v : Int} (hd : decode bc pc = .ok (.istore n, 2)) (hn : n < ml) (hv : qset n (qi v) lv = lv') (hp : pc + 2 = pc') (k : qW X d y bc ml rt pc' lv' st S Q) : qW X d y bc ml rt pc lv (qi v :: st) S Q := by
  subst hp
  subst hv
  intro p e s m args below meth c H locs ls C hWd hS hl
  exact lv_istore C.1 C.2.1 hd hl hn (qset_map X n (qi v) lv) (fun ls hl => k p e s m args below meth c H locs ls C hWd hS hl)
theorem q_lload_n {n : Fin 4} {v : Int} (hd : decode bc pc = .ok (.lload_n n, 1)) (hl : lv.lookup (n : Nat) = some (ql v)) (hp : pc + 1 = pc') (k : qW X d y bc ml rt pc' lv (ql v :: st) S Q) : qW X d y bc ml rt pc lv st S Q := by
  subst hp
  exact q_pure k (fun hx hb h k => lv_lload_n hx hb hd rfl (qlocal h hl) k)
theorem q_lload {n : Nat} {v : Int} (hd : decode bc pc = .ok (.lload n, 2)) (hl : lv.lookup n = some (ql v)) (hp : pc + 2 = pc') (k : qW X d y bc ml rt pc' lv (ql v :: st) S Q) : qW X d y bc ml rt pc lv st S Q := by
  subst hp
  exact q_pure k (fun hx hb h k => lv_lload hx hb hd (qlocal h hl) k)
theorem q_lstore_n {n : Fin 4} {v : Int} (hd : decode bc pc = .ok (.lstore_n n, 1)) (hn : (n : Nat) + 1 < ml) (hv : qset2 n (ql v) lv = lv') (hp : pc + 1 = pc') (k : qW X d y bc ml rt pc' lv' st S Q) : qW X d y bc ml rt pc lv (ql v :: st) S Q := by
  subst hp
  subst hv
  intro p e s m args below meth c H locs ls C hWd hS hl
  exact lv_lstore_n C.1 C.2.1 hd rfl hl hn (qset2_map X n (ql v) lv) (fun ls hl => k p e s m args below meth c H locs ls C hWd hS hl)
theorem q_lstore {n : Nat} {v : Int} (hd : decode bc pc = .ok (.lstore n, 2)) (hn : n + 1 < ml) (hv : qset2 n (ql v) lv = lv') (hp : pc + 2 = pc') (k : qW X d y bc ml rt pc' lv' st S Q) : qW X d y bc ml rt pc lv (ql v :: st) S Q := by
  subst hp
  subst hv
  intro p e s m args below meth c H locs ls C hWd hS hl
  exact lv_lstore C.1 C.2.1 hd hl hn (qset2_map X n (ql v) lv) (fun ls hl => k p e s m args below meth c H locs ls C hWd hS hl)
theorem q_aload_n {n : Fin 4} {v : Nat} (hd : decode bc pc = .ok (.aload_n n, 1)) (hl : lv.lookup (n : Nat) = some (qr v)) (hp : pc + 1 = pc') (k : qW X d y bc ml rt pc' lv (qr v :: st) S Q) : qW X d y bc ml rt pc lv st S Q := by
  subst hp
  exact q_pure k (fun hx hb h k => lv_aload_n hx hb hd rfl (qlocal h hl) k)
theorem q_aload {n : Nat} {v : Nat} (hd : decode bc pc = .ok (.aload n, 2)) (hl : lv.lookup n = some (qr v)) (hp : pc + 2 = pc') (k : qW X d y bc ml rt pc' lv (qr v :: st) S Q) : qW X d y bc ml rt pc lv st S Q := by
  subst hp
  exact q_pure k (fun hx hb h k => lv_aload hx hb hd (qlocal h hl) k)
theorem q_astore_n {n : Fin 4} {v : Nat} (hd : decode bc pc = .ok (.astore_n n, 1)) (hn : (n : Nat) < ml) (hv : qset n (qr v) lv = lv') (hp : pc + 1 = pc') (k : qW X d y bc ml rt pc' lv' st S Q) : qW X d y bc ml rt pc lv (qr v :: st) S Q := by
  subst hp
  subst hv
  intro p e s m args below meth c H locs ls C hWd hS hl
  exact lv_astore_n C.1 C.2.1 hd rfl hl hn (qset_map X n (qr v) lv) (fun ls hl => k p e s m args below meth c H locs ls C hWd hS hl)
theorem q_astore {n : Nat} {v : Nat} (hd : decode bc pc = .ok (.astore n, 2)) (hn : n < ml) (hv : qset n (qr v) lv = lv') (hp : pc + 2 = pc') (k : qW X d y bc ml rt pc' lv' st S Q) : qW X d y bc ml rt pc lv (qr v :: st) S Q := by
  subst hp
  subst hv
  intro p e s m args below meth c H locs ls C hWd hS hl
  exact lv_astore C.1 C.2.1 hd hl hn (qset_map X n (qr v) lv) (fun ls hl => k p e s m args below meth c H locs ls C hWd hS hl)
theorem q_iinc {n : Nat} {z v : Int} (hd : decode bc pc = .ok (.iinc n z, 3)) (hn : n < ml) (hl : lv.lookup n = some (qi v)) (hv : qset n (qi (v + z)) lv = lv') (hp : pc + 3 = pc') (k : qW X d y bc ml rt pc' lv' st S Q) : qW X d y bc ml rt pc lv st S Q := by
  subst hp
  subst hv
  intro p e s m args below meth c H locs ls C hWd hS h
  obtain ⟨j, hj⟩ := List.getElem?_of_mem (List.mem_map.mpr ⟨(n, qi v), qlook hl, rfl⟩ : (n, Value.int (Int32.ofInt v)) ∈ qlv X lv)
  exact lv_iinc (v := Int32.ofInt (v + z)) C.1 C.2.1 hd h hj (Int32.ofInt_add v z).symm hn (qset_map X n (qi (v + z)) lv) (fun ls hl => k p e s m args below meth c H locs ls C hWd hS hl)
theorem q_iadd {a b : Int} (hd : decode bc pc = .ok (.iadd, 1)) (hp : pc + 1 = pc') (k : qW X d y bc ml rt pc' lv (qi (a + b) :: st) S Q) : qW X d y bc ml rt pc lv (qi b :: qi a :: st) S Q := by
  subst hp
  refine q_pure k (fun hx hb hl k => ?_)
  have k : W _ _ _ _ _ _ _ _ _ _ _ _ _ _ _ (F0 _ _ _ (.int (Int32.ofInt (a + b)) :: st.map (qvl X))) := k
  rw [Int32.ofInt_add] at k
  exact lv_iadd hx hb hd k
theorem q_ladd {a b : Int} (hd : decode bc pc = .ok (.ladd, 1)) (hp : pc + 1 = pc') (k : qW X d y bc ml rt pc' lv (ql (a + b) :: st) S Q) : qW X d y bc ml rt pc lv (ql b :: ql a :: st) S Q := by
  subst hp
  refine q_pure k (fun hx hb hl k => ?_)
  have k : W _ _ _ _ _ _ _ _ _ _ _ _ _ _ _ (F0 _ _ _ (.long (Int64.ofInt (a + b)) :: st.map (qvl X))) := k
  rw [Int64.ofInt_add] at k
  exact lv_ladd hx hb hd k
theorem q_isub {a b : Int} (hd : decode bc pc = .ok (.isub, 1)) (hp : pc + 1 = pc') (k : qW X d y bc ml rt pc' lv (qi (a - b) :: st) S Q) : qW X d y bc ml rt pc lv (qi b :: qi a :: st) S Q := by
  subst hp
  refine q_pure k (fun hx hb hl k => ?_)
  have k : W _ _ _ _ _ _ _ _ _ _ _ _ _ _ _ (F0 _ _ _ (.int (Int32.ofInt (a - b)) :: st.map (qvl X))) := k
  rw [Int32.ofInt_sub] at k
  exact lv_isub hx hb hd k
theorem q_lsub {a b : Int} (hd : decode bc pc = .ok (.lsub, 1)) (hp : pc + 1 = pc') (k : qW X d y bc ml rt pc' lv (ql (a - b) :: st) S Q) : qW X d y bc ml rt pc lv (ql b :: ql a :: st) S Q := by
  subst hp
  refine q_pure k (fun hx hb hl k => ?_)
  have k : W _ _ _ _ _ _ _ _ _ _ _ _ _ _ _ (F0 _ _ _ (.long (Int64.ofInt (a - b)) :: st.map (qvl X))) := k
  rw [Int64.ofInt_sub] at k
  exact lv_lsub hx hb hd k
theorem q_imul {a b : Int} (hd : decode bc pc = .ok (.imul, 1)) (hp : pc + 1 = pc') (k : qW X d y bc ml rt pc' lv (qi (a * b) :: st) S Q) : qW X d y bc ml rt pc lv (qi b :: qi a :: st) S Q := by
  subst hp
  refine q_pure k (fun hx hb hl k => ?_)
  have k : W _ _ _ _ _ _ _ _ _ _ _ _ _ _ _ (F0 _ _ _ (.int (Int32.ofInt (a * b)) :: st.map (qvl X))) := k
  rw [Int32.ofInt_mul] at k
  exact lv_imul hx hb hd k
theorem q_lmul {a b : Int} (hd : decode bc pc = .ok (.lmul, 1)) (hp : pc + 1 = pc') (k : qW X d y bc ml rt pc' lv (ql (a * b) :: st) S Q) : qW X d y bc ml rt pc lv (ql b :: ql a :: st) S Q := by
  subst hp
  refine q_pure k (fun hx hb hl k => ?_)
  have k : W _ _ _ _ _ _ _ _ _ _ _ _ _ _ _ (F0 _ _ _ (.long (Int64.ofInt (a * b)) :: st.map (qvl X))) := k
  rw [Int64.ofInt_mul] at k
  exact lv_lmul hx hb hd k
theorem q_ineg {a : Int} (hd : decode bc pc = .ok (.ineg, 1)) (hp : pc + 1 = pc') (k : qW X d y bc ml rt pc' lv (qi (-a) :: st) S Q) : qW X d y bc ml rt pc lv (qi a :: st) S Q := by
  subst hp
  refine q_pure k (fun hx hb hl k => ?_)
  have k : W _ _ _ _ _ _ _ _ _ _ _ _ _ _ _ (F0 _ _ _ (.int (Int32.ofInt (-a)) :: st.map (qvl X))) := k
  rw [Int32.ofInt_neg] at k
  exact lv_ineg hx hb hd k
def qb_iand (a b : Int) : Int := (Int32.ofInt a &&& Int32.ofInt b).toInt
theorem q_iand {a b : Int} (hd : decode bc pc = .ok (.iand, 1)) (hp : pc + 1 = pc') (k : qW X d y bc ml rt pc' lv (qi (qb_iand a b) :: st) S Q) : qW X d y bc ml rt pc lv (qi b :: qi a :: st) S Q := by
  subst hp
  refine q_pure k (fun hx hb hl k => ?_)
  have k : W _ _ _ _ _ _ _ _ _ _ _ _ _ _ _ (F0 _ _ _ (.int (Int32.ofInt ((Int32.ofInt a &&& Int32.ofInt b).toInt)) :: st.map (qvl X))) := k
  rw [Int32.ofInt_toInt] at k
  exact lv_iand hx hb hd k
def qb_ior (a b : Int) : Int := (Int32.ofInt a ||| Int32.ofInt b).toInt
theorem q_ior {a b : Int} (hd : decode bc pc = .ok (.ior, 1)) (hp : pc + 1 = pc') (k : qW X d y bc ml rt pc' lv (qi (qb_ior a b) :: st) S Q) : qW X d y bc ml rt pc lv (qi b :: qi a :: st) S Q := by
  subst hp
  refine q_pure k (fun hx hb hl k => ?_)
  have k : W _ _ _ _ _ _ _ _ _ _ _ _ _ _ _ (F0 _ _ _ (.int (Int32.ofInt ((Int32.ofInt a ||| Int32.ofInt b).toInt)) :: st.map (qvl X))) := k
  rw [Int32.ofInt_toInt] at k
  exact lv_ior hx hb hd k
def qb_ixor (a b : Int) : Int := (Int32.ofInt a ^^^ Int32.ofInt b).toInt
theorem q_ixor {a b : Int} (hd : decode bc pc = .ok (.ixor, 1)) (hp : pc + 1 = pc') (k : qW X d y bc ml rt pc' lv (qi (qb_ixor a b) :: st) S Q) : qW X d y bc ml rt pc lv (qi b :: qi a :: st) S Q := by
  subst hp
  refine q_pure k (fun hx hb hl k => ?_)
  have k : W _ _ _ _ _ _ _ _ _ _ _ _ _ _ _ (F0 _ _ _ (.int (Int32.ofInt ((Int32.ofInt a ^^^ Int32.ofInt b).toInt)) :: st.map (qvl X))) := k
  rw [Int32.ofInt_toInt] at k
  exact lv_ixor hx hb hd k
def qb_ishl (a b : Int) : Int := (Int32.ofInt a <<< (Int32.ofInt b &&& 31)).toInt
theorem q_ishl {a b : Int} (hd : decode bc pc = .ok (.ishl, 1)) (hp : pc + 1 = pc') (k : qW X d y bc ml rt pc' lv (qi (qb_ishl a b) :: st) S Q) : qW X d y bc ml rt pc lv (qi b :: qi a :: st) S Q := by
  subst hp
  refine q_pure k (fun hx hb hl k => ?_)
  have k : W _ _ _ _ _ _ _ _ _ _ _ _ _ _ _ (F0 _ _ _ (.int (Int32.ofInt ((Int32.ofInt a <<< (Int32.ofInt b &&& 31)).toInt)) :: st.map (qvl X))) := k
  rw [Int32.ofInt_toInt] at k
  exact lv_ishl hx hb hd k
def qb_ishr (a b : Int) : Int := (Int32.ofInt a >>> (Int32.ofInt b &&& 31)).toInt
theorem q_ishr {a b : Int} (hd : decode bc pc = .ok (.ishr, 1)) (hp : pc + 1 = pc') (k : qW X d y bc ml rt pc' lv (qi (qb_ishr a b) :: st) S Q) : qW X d y bc ml rt pc lv (qi b :: qi a :: st) S Q := by
  subst hp
  refine q_pure k (fun hx hb hl k => ?_)
  have k : W _ _ _ _ _ _ _ _ _ _ _ _ _ _ _ (F0 _ _ _ (.int (Int32.ofInt ((Int32.ofInt a >>> (Int32.ofInt b &&& 31)).toInt)) :: st.map (qvl X))) := k
  rw [Int32.ofInt_toInt] at k
  exact lv_ishr hx hb hd k
def qb_iushr (a b : Int) : Int := ((Int32.ofInt a).toUInt32 >>> ((Int32.ofInt b).toUInt32 &&& Int32.toUInt32 31)).toInt32.toInt
theorem q_iushr {a b : Int} (hd : decode bc pc = .ok (.iushr, 1)) (hp : pc + 1 = pc') (k : qW X d y bc ml rt pc' lv (qi (qb_iushr a b) :: st) S Q) : qW X d y bc ml rt pc lv (qi b :: qi a :: st) S Q := by
  subst hp
  refine q_pure k (fun hx hb hl k => ?_)
  have k : W _ _ _ _ _ _ _ _ _ _ _ _ _ _ _ (F0 _ _ _ (.int (Int32.ofInt (qb_iushr a b)) :: st.map (qvl X))) := k
  exact lv_iushr hx hb hd (by rw [qb_iushr, Int32.ofInt_toInt]) k
theorem q_idiv {a b : Int} (hd : decode bc pc = .ok (.idiv, 1)) (ha : qR a) (hbb : qR b) (h0 : b ≠ 0) (hp : pc + 1 = pc') (k : qW X d y bc ml rt pc' lv (qi (a.tdiv b) :: st) S Q) : qW X d y bc ml rt pc lv (qi b :: qi a :: st) S Q := by
  subst hp
  refine q_pure k (fun hx hb hl k => ?_)
  have k : W _ _ _ _ _ _ _ _ _ _ _ _ _ _ _ (F0 _ _ _ (.int (Int32.ofInt (a.tdiv b)) :: st.map (qvl X))) := k
  rw [Int32.ofInt_tdiv (by rw [Int32.toInt_minValue]; have := ha.1; omega) (by rw [Int32.toInt_maxValue]; have := ha.2; omega) (by rw [Int32.toInt_minValue]; have := hbb.1; omega) (by rw [Int32.toInt_maxValue]; have := hbb.2; omega)] at k
  exact lv_idiv hx hb hd (fun e => h0 ((q_eq hbb q_R0).mp e)) k
theorem q_irem {a b : Int} (hd : decode bc pc = .ok (.irem, 1)) (ha : qR a) (hbb : qR b) (h0 : b ≠ 0) (hp : pc + 1 = pc') (k : qW X d y bc ml rt pc' lv (qi (a.tmod b) :: st) S Q) : qW X d y bc ml rt pc lv (qi b :: qi a :: st) S Q := by
  subst hp
  refine q_pure k (fun hx hb hl k => ?_)
  have k : W _ _ _ _ _ _ _ _ _ _ _ _ _ _ _ (F0 _ _ _ (.int (Int32.ofInt (a.tmod b)) :: st.map (qvl X))) := k
  rw [Int32.ofInt_tmod (by rw [Int32.toInt_minValue]; have := ha.1; omega) (by rw [Int32.toInt_maxValue]; have := ha.2; omega) (by rw [Int32.toInt_minValue]; have := hbb.1; omega) (by rw [Int32.toInt_maxValue]; have := hbb.2; omega), ← irem_eq_mod] at k
  exact lv_irem hx hb hd (fun e => h0 ((q_eq hbb q_R0).mp e)) k
theorem q_i2l {a : Int} (hd : decode bc pc = .ok (.i2l, 1)) (ha : qR a) (hp : pc + 1 = pc') (k : qW X d y bc ml rt pc' lv (ql a :: st) S Q) : qW X d y bc ml rt pc lv (qi a :: st) S Q := by
  subst hp
  refine q_pure k (fun hx hb hl k => ?_)
  exact lv_i2l hx hb hd (Int32.toInt64_ofInt (by rw [Int32.toInt_minValue]; have := ha.1; omega) (by rw [Int32.toInt_maxValue]; have := ha.2; omega)) k
theorem q_l2i {a : Int} (hd : decode bc pc = .ok (.l2i, 1)) (hp : pc + 1 = pc') (k : qW X d y bc ml rt pc' lv (qi a :: st) S Q) : qW X d y bc ml rt pc lv (ql a :: st) S Q := by
  subst hp
  refine q_pure k (fun hx hb hl k => ?_)
  exact lv_l2i hx hb hd Int64.toInt32_ofInt k
theorem q_i2b {a : Int} (hd : decode bc pc = .ok (.i2b, 1)) (hp : pc + 1 = pc') (k : qW X d y bc ml rt pc' lv (qi (a.bmod 256) :: st) S Q) : qW X d y bc ml rt pc lv (qi a :: st) S Q := by
  subst hp
  refine q_pure k (fun hx hb hl k => ?_)
  exact lv_i2b hx hb hd (by rw [Int32.toInt8_ofInt, ← Int32.ofInt_toInt (Int8.ofInt a).toInt32]; congr 1; simp [Int8.toInt_toInt32, Int8.toInt_ofInt, Int8.size]) k
theorem q_dupI {a : Int} (hd : decode bc pc = .ok (.dup, 1)) (hp : pc + 1 = pc') (k : qW X d y bc ml rt pc' lv (qi a :: qi a :: st) S Q) : qW X d y bc ml rt pc lv (qi a :: st) S Q := by
  subst hp
  refine q_pure k (fun hx hb hl k => ?_)
  exact lv_dup hx hb hd rfl k
theorem q_dupA {a : Nat} (hd : decode bc pc = .ok (.dup, 1)) (hp : pc + 1 = pc') (k : qW X d y bc ml rt pc' lv (qr a :: qr a :: st) S Q) : qW X d y bc ml rt pc lv (qr a :: st) S Q := by
  subst hp
  refine q_pure k (fun hx hb hl k => ?_)
  exact lv_dup hx hb hd rfl k
theorem q_popI {a : Int} (hd : decode bc pc = .ok (.pop, 1)) (hp : pc + 1 = pc') (k : qW X d y bc ml rt pc' lv (st) S Q) : qW X d y bc ml rt pc lv (qi a :: st) S Q := by
  subst hp
  refine q_pure k (fun hx hb hl k => ?_)
  exact lv_pop hx hb hd rfl k
theorem q_dup2 {a : Int} {r : Nat} (hd : decode bc pc = .ok (.dup2, 1)) (hp : pc + 1 = pc') (k : qW X d y bc ml rt pc' lv (qi a :: qr r :: qi a :: qr r :: st) S Q) : qW X d y bc ml rt pc lv (qi a :: qr r :: st) S Q := by
  subst hp
  refine q_pure k (fun hx hb hl k => ?_)
  exact lv_dup2_11 hx hb hd rfl rfl k
theorem q_goto {off : Int} (hd : decode bc pc = .ok (.goto off, 3)) (hp : (pc : Int) + off = (pc' : Int)) (k : qW X d y bc ml rt pc' lv st S Q) : qW X d y bc ml rt pc lv st S Q := q_pure k (fun hx hb hl k => lv_goto hx hb hd hp k)
theorem q_icmp_eq {a b off : Int} {tgt : Nat} (hd : decode bc pc = .ok (.if_icmp .eq off, 3)) (ht : (pc : Int) + off = (tgt : Int)) (hp : pc + 3 = pc') (ha : qR a) (hb : qR b) (kt : a = b → qW X d y bc ml rt tgt lv st S Q) (kf : ¬ a = b → qW X d y bc ml rt pc' lv st S Q) : qW X d y bc ml rt pc lv (qi b :: qi a :: st) S Q := by
  subst hp
  intro p e s m args below meth c H locs ls C hWd hS hl
  exact lv_icmp_eq C.1 C.2.1 hd ht (fun h => kt ((q_eq ha hb).mp h) p e s m args below meth c H locs ls C hWd hS hl) (fun h => kf (fun e => h ((q_eq ha hb).mpr e)) p e s m args below meth c H locs ls C hWd hS hl)
theorem q_if_eq {a off : Int} {tgt : Nat} (hd : decode bc pc = .ok (.ifCond .eq off, 3)) (ht : (pc : Int) + off = (tgt : Int)) (hp : pc + 3 = pc') (ha : qR a) (kt : a = 0 → qW X d y bc ml rt tgt lv st S Q) (kf : ¬ a = 0 → qW X d y bc ml rt pc' lv st S Q) : qW X d y bc ml rt pc lv (qi a :: st) S Q := by
  subst hp
  intro p e s m args below meth c H locs ls C hWd hS hl
  exact lv_if_eq C.1 C.2.1 hd ht (fun h => kt ((q_eq ha q_R0).mp h) p e s m args below meth c H locs ls C hWd hS hl) (fun h => kf (fun e => h ((q_eq ha q_R0).mpr e)) p e s m args below meth c H locs ls C hWd hS hl)
theorem q_icmp_ne {a b off : Int} {tgt : Nat} (hd : decode bc pc = .ok (.if_icmp .ne off, 3)) (ht : (pc : Int) + off = (tgt : Int)) (hp : pc + 3 = pc') (ha : qR a) (hb : qR b) (kt : ¬ a = b → qW X d y bc ml rt tgt lv st S Q) (kf : a = b → qW X d y bc ml rt pc' lv st S Q) : qW X d y bc ml rt pc lv (qi b :: qi a :: st) S Q := by
  subst hp
  intro p e s m args below meth c H locs ls C hWd hS hl
  exact lv_icmp_ne C.1 C.2.1 hd ht (fun h => kt (fun e => h ((q_eq ha hb).mpr e)) p e s m args below meth c H locs ls C hWd hS hl) (fun h => kf ((q_eq ha hb).mp h) p e s m args below meth c H locs ls C hWd hS hl)
theorem q_if_ne {a off : Int} {tgt : Nat} (hd : decode bc pc = .ok (.ifCond .ne off, 3)) (ht : (pc : Int) + off = (tgt : Int)) (hp : pc + 3 = pc') (ha : qR a) (kt : ¬ a = 0 → qW X d y bc ml rt tgt lv st S Q) (kf : a = 0 → qW X d y bc ml rt pc' lv st S Q) : qW X d y bc ml rt pc lv (qi a :: st) S Q := by
  subst hp
  intro p e s m args below meth c H locs ls C hWd hS hl
  exact lv_if_ne C.1 C.2.1 hd ht (fun h => kt (fun e => h ((q_eq ha q_R0).mpr e)) p e s m args below meth c H locs ls C hWd hS hl) (fun h => kf ((q_eq ha q_R0).mp h) p e s m args below meth c H locs ls C hWd hS hl)
theorem q_icmp_lt {a b off : Int} {tgt : Nat} (hd : decode bc pc = .ok (.if_icmp .lt off, 3)) (ht : (pc : Int) + off = (tgt : Int)) (hp : pc + 3 = pc') (ha : qR a) (hb : qR b) (kt : a < b → qW X d y bc ml rt tgt lv st S Q) (kf : ¬ a < b → qW X d y bc ml rt pc' lv st S Q) : qW X d y bc ml rt pc lv (qi b :: qi a :: st) S Q := by
  subst hp
  intro p e s m args below meth c H locs ls C hWd hS hl
  exact lv_icmp_lt C.1 C.2.1 hd ht (fun h => kt ((q_lt ha hb).mp h) p e s m args below meth c H locs ls C hWd hS hl) (fun h => kf (fun e => h ((q_lt ha hb).mpr e)) p e s m args below meth c H locs ls C hWd hS hl)
theorem q_if_lt {a off : Int} {tgt : Nat} (hd : decode bc pc = .ok (.ifCond .lt off, 3)) (ht : (pc : Int) + off = (tgt : Int)) (hp : pc + 3 = pc') (ha : qR a) (kt : a < 0 → qW X d y bc ml rt tgt lv st S Q) (kf : ¬ a < 0 → qW X d y bc ml rt pc' lv st S Q) : qW X d y bc ml rt pc lv (qi a :: st) S Q := by
  subst hp
  intro p e s m args below meth c H locs ls C hWd hS hl
  exact lv_if_lt C.1 C.2.1 hd ht (fun h => kt ((q_lt ha q_R0).mp h) p e s m args below meth c H locs ls C hWd hS hl) (fun h => kf (fun e => h ((q_lt ha q_R0).mpr e)) p e s m args below meth c H locs ls C hWd hS hl)
theorem q_icmp_ge {a b off : Int} {tgt : Nat} (hd : decode bc pc = .ok (.if_icmp .ge off, 3)) (ht : (pc : Int) + off = (tgt : Int)) (hp : pc + 3 = pc') (ha : qR a) (hb : qR b) (kt : b ≤ a → qW X d y bc ml rt tgt lv st S Q) (kf : ¬ b ≤ a → qW X d y bc ml rt pc' lv st S Q) : qW X d y bc ml rt pc lv (qi b :: qi a :: st) S Q := by
  subst hp
  intro p e s m args below meth c H locs ls C hWd hS hl
  exact lv_icmp_ge C.1 C.2.1 hd ht (fun h => kt ((q_le hb ha).mp h) p e s m args below meth c H locs ls C hWd hS hl) (fun h => kf (fun e => h ((q_le hb ha).mpr e)) p e s m args below meth c H locs ls C hWd hS hl)
theorem q_if_ge {a off : Int} {tgt : Nat} (hd : decode bc pc = .ok (.ifCond .ge off, 3)) (ht : (pc : Int) + off = (tgt : Int)) (hp : pc + 3 = pc') (ha : qR a) (kt : 0 ≤ a → qW X d y bc ml rt tgt lv st S Q) (kf : ¬ 0 ≤ a → qW X d y bc ml rt pc' lv st S Q) : qW X d y bc ml rt pc lv (qi a :: st) S Q := by
  subst hp
  intro p e s m args below meth c H locs ls C hWd hS hl
  exact lv_if_ge C.1 C.2.1 hd ht (fun h => kt ((q_le q_R0 ha).mp h) p e s m args below meth c H locs ls C hWd hS hl) (fun h => kf (fun e => h ((q_le q_R0 ha).mpr e)) p e s m args below meth c H locs ls C hWd hS hl)
theorem q_icmp_gt {a b off : Int} {tgt : Nat} (hd : decode bc pc = .ok (.if_icmp .gt off, 3)) (ht : (pc : Int) + off = (tgt : Int)) (hp : pc + 3 = pc') (ha : qR a) (hb : qR b) (kt : b < a → qW X d y bc ml rt tgt lv st S Q) (kf : ¬ b < a → qW X d y bc ml rt pc' lv st S Q) : qW X d y bc ml rt pc lv (qi b :: qi a :: st) S Q := by
  subst hp
  intro p e s m args below meth c H locs ls C hWd hS hl
  exact lv_icmp_gt C.1 C.2.1 hd ht (fun h => kt ((q_lt hb ha).mp h) p e s m args below meth c H locs ls C hWd hS hl) (fun h => kf (fun e => h ((q_lt hb ha).mpr e)) p e s m args below meth c H locs ls C hWd hS hl)
theorem q_if_gt {a off : Int} {tgt : Nat} (hd : decode bc pc = .ok (.ifCond .gt off, 3)) (ht : (pc : Int) + off = (tgt : Int)) (hp : pc + 3 = pc') (ha : qR a) (kt : 0 < a → qW X d y bc ml rt tgt lv st S Q) (kf : ¬ 0 < a → qW X d y bc ml rt pc' lv st S Q) : qW X d y bc ml rt pc lv (qi a :: st) S Q := by
  subst hp
  intro p e s m args below meth c H locs ls C hWd hS hl
  exact lv_if_gt C.1 C.2.1 hd ht (fun h => kt ((q_lt q_R0 ha).mp h) p e s m args below meth c H locs ls C hWd hS hl) (fun h => kf (fun e => h ((q_lt q_R0 ha).mpr e)) p e s m args below meth c H locs ls C hWd hS hl)
theorem q_icmp_le {a b off : Int} {tgt : Nat} (hd : decode bc pc = .ok (.if_icmp .le off, 3)) (ht : (pc : Int) + off = (tgt : Int)) (hp : pc + 3 = pc') (ha : qR a) (hb : qR b) (kt : a ≤ b → qW X d y bc ml rt tgt lv st S Q) (kf : ¬ a ≤ b → qW X d y bc ml rt pc' lv st S Q) : qW X d y bc ml rt pc lv (qi b :: qi a :: st) S Q := by
  subst hp
  intro p e s m args below meth c H locs ls C hWd hS hl
  exact lv_icmp_le C.1 C.2.1 hd ht (fun h => kt ((q_le ha hb).mp h) p e s m args below meth c H locs ls C hWd hS hl) (fun h => kf (fun e => h ((q_le ha hb).mpr e)) p e s m args below meth c H locs ls C hWd hS hl)
theorem q_if_le {a off : Int} {tgt : Nat} (hd : decode bc pc = .ok (.ifCond .le off, 3)) (ht : (pc : Int) + off = (tgt : Int)) (hp : pc + 3 = pc') (ha : qR a) (kt : a ≤ 0 → qW X d y bc ml rt tgt lv st S Q) (kf : ¬ a ≤ 0 → qW X d y bc ml rt pc' lv st S Q) : qW X d y bc ml rt pc lv (qi a :: st) S Q := by
  subst hp
  intro p e s m args below meth c H locs ls C hWd hS hl
  exact lv_if_le C.1 C.2.1 hd ht (fun h => kt ((q_le ha q_R0).mp h) p e s m args below meth c H locs ls C hWd hS hl) (fun h => kf (fun e => h ((q_le ha q_R0).mpr e)) p e s m args below meth c H locs ls C hWd hS hl)
/-- three ways -/
def q3 (a b : Int) : Int := if b < a then 1 else if a = b then 0 else -1
theorem q3_R (a b : Int) : qR (q3 a b) := by
  unfold q3
  split
  · exact ⟨by decide, by decide⟩
  · split <;> exact ⟨by decide, by decide⟩
theorem q3_cmp {a b : Int} (ha : qRL a) (hb : qRL b) : lg_cmp (Int64.ofInt a) (Int64.ofInt b) = Int32.ofInt (q3 a b) := by
  unfold lg_cmp q3
  simp only [gt_iff_lt, Int64.lt_iff_toInt_lt, ← Int64.toInt_inj, q_toL ha, q_toL hb]
  split
  · rfl
  · split <;> rfl
theorem q3_lt (a b : Int) : q3 a b < 0 ↔ a < b := by unfold q3; split <;> (try split) <;> omega
theorem q3_le (a b : Int) : q3 a b ≤ 0 ↔ a ≤ b := by unfold q3; split <;> (try split) <;> omega
theorem q3_gt (a b : Int) : 0 < q3 a b ↔ b < a := by unfold q3; split <;> (try split) <;> omega
theorem q3_ge (a b : Int) : 0 ≤ q3 a b ↔ b ≤ a := by unfold q3; split <;> (try split) <;> omega
theorem q3_eq (a b : Int) : q3 a b = 0 ↔ a = b := by unfold q3; split <;> (try split) <;> omega
theorem q_lcmp {a b : Int} (hd : decode bc pc = .ok (.lcmp, 1)) (ha : qRL a) (hbb : qRL b) (hp : pc + 1 = pc') (k : qW X d y bc ml rt pc' lv (qi (q3 a b) :: st) S Q) : qW X d y bc ml rt pc lv (ql b :: ql a :: st) S Q := by
  subst hp
  refine q_pure k (fun hx hb hl k => ?_)
  have k : W _ _ _ _ _ _ _ _ _ _ _ _ _ _ _ (F0 _ _ _ (.int (Int32.ofInt (q3 a b)) :: st.map (qvl X))) := k
  rw [← q3_cmp ha hbb] at k
  exact W.lcmp hx hb hd k
theorem q_ldiv {a b : Int} (hd : decode bc pc = .ok (.ldiv, 1)) (ha : qRL a) (hbb : qRL b) (h0 : b ≠ 0) (hp : pc + 1 = pc') (k : qW X d y bc ml rt pc' lv (ql (a.tdiv b) :: st) S Q) : qW X d y bc ml rt pc lv (ql b :: ql a :: st) S Q := by
  subst hp
  refine q_pure k (fun hx hb hl k => ?_)
  have k : W _ _ _ _ _ _ _ _ _ _ _ _ _ _ _ (F0 _ _ _ (.long (Int64.ofInt (a.tdiv b)) :: st.map (qvl X))) := k
  rw [Int64.ofInt_tdiv (by rw [Int64.toInt_minValue]; have := ha.1; omega) (by rw [Int64.toInt_maxValue]; have := ha.2; omega) (by rw [Int64.toInt_minValue]; have := hbb.1; omega) (by rw [Int64.toInt_maxValue]; have := hbb.2; omega)] at k
  exact lv_ldiv hx hb hd (fun e => h0 (by have e2 := congrArg Int64.toInt e; rw [q_toL hbb] at e2; exact e2)) k
theorem q_lrem {a b : Int} (hd : decode bc pc = .ok (.lrem, 1)) (ha : qRL a) (hbb : qRL b) (h0 : b ≠ 0) (hp : pc + 1 = pc') (k : qW X d y bc ml rt pc' lv (ql (a.tmod b) :: st) S Q) : qW X d y bc ml rt pc lv (ql b :: ql a :: st) S Q := by
  subst hp
  refine q_pure k (fun hx hb hl k => ?_)
  have k : W _ _ _ _ _ _ _ _ _ _ _ _ _ _ _ (F0 _ _ _ (.long (Int64.ofInt (a.tmod b)) :: st.map (qvl X))) := k
  rw [Int64.ofInt_tmod (by rw [Int64.toInt_minValue]; have := ha.1; omega) (by rw [Int64.toInt_maxValue]; have := ha.2; omega) (by rw [Int64.toInt_minValue]; have := hbb.1; omega) (by rw [Int64.toInt_maxValue]; have := hbb.2; omega), ← q_lremE] at k
  exact lv_lrem hx hb hd (fun e => h0 (by have e2 := congrArg Int64.toInt e; rw [q_toL hbb] at e2; exact e2)) k
/-! the world's cells -/
theorem qws_at {c : Nat} (hc : c ∈ qLs X) : ∃ k : Nat, (qLs X)[k]? = some c ∧ (qws X S)[k]? = some (qad X c, qcell X S c) := by
  obtain ⟨k, hk⟩ := List.getElem?_of_mem hc
  exact ⟨k, hk, by rw [qws, List.getElem?_map, hk]; rfl⟩
theorem qcell_off {S S' : qSto} {c : Nat} (h : S' c = S c) : qcell X S' c = qcell X S c := by
  unfold qcell
  have e : qfv X S' c (qsh c).2.1 = qfv X S c (qsh c).2.1 := by
    funext j
    unfold qfv
    rw [h]
  rw [h, e]
theorem qws_set {S S' : qSto} {c k : Nat} {A : Nat → Prop} (hD : va_D A (qws X S)) (hk : (qLs X)[k]? = some c) (ho : ∀ a, a ≠ c → S' a = S a) : (qws X S).set k (qad X c, qcell X S' c) = qws X S' := by
  have hk' : (qws X S)[k]? = some (qad X c, qcell X S c) := by rw [qws, List.getElem?_map, hk]; rfl
  have hlt : k < (qws X S).length := (List.getElem?_eq_some_iff.mp hk').1
  apply List.ext_getElem?
  intro j
  by_cases e : j = k
  · subst e
    rw [List.getElem?_set_self hlt, qws, List.getElem?_map, hk]
    rfl
  · rw [List.getElem?_set_ne (Ne.symm e), qws, qws, List.getElem?_map, List.getElem?_map]
    cases hj : (qLs X)[j]? with
    | none => rfl
    | some a =>
      have hac : a ≠ c := fun q => e (hD.1 j k (qad X a, qcell X S a) (qad X c, qcell X S c) (by rw [qws, List.getElem?_map, hj]; rfl) hk' (by rw [q]))
      show some (qad X a, qcell X S a) = some (qad X a, qcell X S' a)
      rw [qcell_off (ho a hac)]
theorem qua_off {c : Nat} {f : Nat → Int} : ∀ a, a ≠ c → qua S c f a = S a := fun a h => by funext j; simp [qua, h]
theorem qua_on {c : Nat} {f : Nat → Int} : qua S c f c = f := by funext j; simp [qua]
theorem qD_any {S S' : qSto} {A : Nat → Prop} (hD : va_D A (qws X S)) : va_D A (qws X S') := by
  have key : ∀ (k : Nat) (q : Nat × va_E), (qws X S')[k]? = some q → ∃ q0, (qws X S)[k]? = some q0 ∧ q0.1 = q.1 := by
    intro k q hq
    rw [qws, List.getElem?_map] at hq
    cases hj : (qLs X)[k]? with
    | none => rw [hj] at hq; cases hq
    | some a =>
      rw [hj] at hq
      cases hq
      exact ⟨(qad X a, qcell X S a), by rw [qws, List.getElem?_map, hj]; rfl, rfl⟩
  refine ⟨fun i j x y hi hj hxy => ?_, fun k q hk => ?_⟩
  · obtain ⟨x0, h1, h2⟩ := key i x hi
    obtain ⟨y0, h3, h4⟩ := key j y hj
    exact hD.1 i j x0 y0 h1 h3 (h2.trans (hxy.trans h4.symm))
  · obtain ⟨q0, h1, h2⟩ := key k q hk
    rw [← h2]
    exact hD.2 k q0 h1
theorem qsh_small : ∀ q ∈ qshl, q.2.2 < 2147483648 := by decide +kernel
theorem qsh_len {c k t n : Nat} (h : qsh c = (k, t, n)) : n < 2147483648 := by
  unfold qsh at h
  rw [List.getD_eq_getElem?_getD] at h
  cases hc : qshl[c]? with
  | none =>
    rw [hc] at h
    cases h
    decide
  | some q =>
    rw [hc] at h
    have := qsh_small q (List.mem_of_getElem? hc)
    cases h
    exact this
theorem qcell_I {c t n : Nat} (h : qsh c = (1, t, n)) : qcell X S c = .inl (qca X t, n, .inl (fun j => Int32.ofInt (S c j))) := by simp [qcell, h]
theorem qcell_L {c t n : Nat} (h : qsh c = (2, t, n)) : qcell X S c = .inl (qca X 3, n, .inr (.inl (fun j => Int64.ofInt (S c j)))) := by simp [qcell, h]
theorem qcell_A {c t n : Nat} (h : qsh c = (3, t, n)) : qcell X S c = .inl (qca X 4, n, .inr (.inr (.inr (.inr (fun j => if j < n then some (qad X (qrf c j)) else none))))) := by simp [qcell, h]
theorem qcell_O {c ci n : Nat} (h : qsh c = (0, ci, n)) : qcell X S c = .inr (ci, (List.range n).map (qfv X S c ci)) := by simp [qcell, h]
theorem qupd {f : Nat → Int} {i : Int} {v : Int} : (upd (fun j => Int32.ofInt (f j)) i.toNat (Int32.ofInt v)) = (fun j => Int32.ofInt (if j = i.toNat then v else f j)) := by
  funext j
  unfold upd
  split <;> rfl
theorem q_iaload {c n : Nat} {i : Int} (hd : decode bc pc = .ok (.iaload, 1)) (hc : c ∈ qLs X) (hs : qsh c = (1, 0, n)) (h0 : 0 ≤ i) (h1 : i < n) (hp : pc + 1 = pc') (k : qW X d y bc ml rt pc' lv (qi (S c i.toNat) :: st) S Q) : qW X d y bc ml rt pc lv (qi i :: qr c :: st) S Q := by
  subst hp
  intro p e s m args below meth cd H locs ls C hWd hS hl
  obtain ⟨hP, hD, hK⟩ := id hWd
  obtain ⟨kk, hk1, hk2⟩ := qws_at (S := S) hc
  obtain ⟨g1, g2⟩ := q_cl h0 h1 (qsh_len hs)
  rw [qcell_I hs] at hk2
  refine va_iald C.1 C.2.1 hK hP kk 0 hk2 rfl g1 hd ?_
  rw [g2]
  exact k p e s m args below meth cd H locs ls C hWd hS hl
theorem q_baload {c n : Nat} {i : Int} (hd : decode bc pc = .ok (.baload, 1)) (hc : c ∈ qLs X) (hs : qsh c = (1, 1, n)) (h0 : 0 ≤ i) (h1 : i < n) (hp : pc + 1 = pc') (k : qW X d y bc ml rt pc' lv (qi (S c i.toNat) :: st) S Q) : qW X d y bc ml rt pc lv (qi i :: qr c :: st) S Q := by
  subst hp
  intro p e s m args below meth cd H locs ls C hWd hS hl
  obtain ⟨hP, hD, hK⟩ := id hWd
  obtain ⟨kk, hk1, hk2⟩ := qws_at (S := S) hc
  obtain ⟨g1, g2⟩ := q_cl h0 h1 (qsh_len hs)
  rw [qcell_I hs] at hk2
  refine va_bald C.1 C.2.1 hK hP kk 1 hk2 rfl g1 hd ?_
  rw [g2]
  exact k p e s m args below meth cd H locs ls C hWd hS hl
theorem q_zaload {c n : Nat} {i : Int} (hd : decode bc pc = .ok (.baload, 1)) (hc : c ∈ qLs X) (hs : qsh c = (1, 2, n)) (h0 : 0 ≤ i) (h1 : i < n) (hp : pc + 1 = pc') (k : qW X d y bc ml rt pc' lv (qi (S c i.toNat) :: st) S Q) : qW X d y bc ml rt pc lv (qi i :: qr c :: st) S Q := by
  subst hp
  intro p e s m args below meth cd H locs ls C hWd hS hl
  obtain ⟨hP, hD, hK⟩ := id hWd
  obtain ⟨kk, hk1, hk2⟩ := qws_at (S := S) hc
  obtain ⟨g1, g2⟩ := q_cl h0 h1 (qsh_len hs)
  rw [qcell_I hs] at hk2
  refine va_zald C.1 C.2.1 hK hP kk 2 hk2 rfl g1 hd ?_
  rw [g2]
  exact k p e s m args below meth cd H locs ls C hWd hS hl
theorem q_laload {c n : Nat} {i : Int} (hd : decode bc pc = .ok (.laload, 1)) (hc : c ∈ qLs X) (hs : qsh c = (2, 3, n)) (h0 : 0 ≤ i) (h1 : i < n) (hp : pc + 1 = pc') (k : qW X d y bc ml rt pc' lv (ql (S c i.toNat) :: st) S Q) : qW X d y bc ml rt pc lv (qi i :: qr c :: st) S Q := by
  subst hp
  intro p e s m args below meth cd H locs ls C hWd hS hl
  obtain ⟨hP, hD, hK⟩ := id hWd
  obtain ⟨kk, hk1, hk2⟩ := qws_at (S := S) hc
  obtain ⟨g1, g2⟩ := q_cl h0 h1 (qsh_len hs)
  rw [qcell_L hs] at hk2
  refine va_lald C.1 C.2.1 hK hP kk 3 hk2 rfl g1 hd ?_
  rw [g2]
  exact k p e s m args below meth cd H locs ls C hWd hS hl
theorem q_iastore {c n : Nat} {i v : Int} (hd : decode bc pc = .ok (.iastore, 1)) (hc : c ∈ qLs X) (hs : qsh c = (1, 0, n)) (h0 : 0 ≤ i) (h1 : i < n) (hp : pc + 1 = pc') (k : qW X d y bc ml rt pc' lv st (qup S c i.toNat v) Q) : qW X d y bc ml rt pc lv (qi v :: qi i :: qr c :: st) S Q := by
  subst hp
  intro p e s m args below meth cd H locs ls C hWd hS hl
  obtain ⟨hP, hD, hK⟩ := id hWd
  obtain ⟨kk, hk1, hk2⟩ := qws_at (S := S) hc
  obtain ⟨g1, g2⟩ := q_cl h0 h1 (qsh_len hs)
  rw [qcell_I hs] at hk2
  refine va_iast C.1 C.2.1 hK hP hD hS kk 0 hk2 rfl g1 hd (fun H1 locs1 hP1 hD1 hS1 => ?_)
  have e1 := qws_set (S' := qup S c i.toNat v) hD hk1 (fun a h => qua_off a h)
  rw [qcell_I hs, qup, qua_on] at e1
  rw [g2, qupd] at hP1
  rw [e1] at hP1
  exact k p e s m args below meth cd H1 locs1 ls C ⟨hP1, qD_any hD, hK⟩ hS1 hl
theorem q_bastore {c n : Nat} {i v : Int} (hd : decode bc pc = .ok (.bastore, 1)) (hc : c ∈ qLs X) (hs : qsh c = (1, 1, n)) (h0 : 0 ≤ i) (h1 : i < n) (hv : -128 ≤ v ∧ v ≤ 127) (hp : pc + 1 = pc') (k : qW X d y bc ml rt pc' lv st (qup S c i.toNat v) Q) : qW X d y bc ml rt pc lv (qi v :: qi i :: qr c :: st) S Q := by
  subst hp
  intro p e s m args below meth cd H locs ls C hWd hS hl
  obtain ⟨hP, hD, hK⟩ := id hWd
  obtain ⟨kk, hk1, hk2⟩ := qws_at (S := S) hc
  obtain ⟨g1, g2⟩ := q_cl h0 h1 (qsh_len hs)
  rw [qcell_I hs] at hk2
  refine va_bast C.1 C.2.1 hK hP hD hS kk 1 hk2 rfl g1 hd (fun H1 locs1 hP1 hD1 hS1 => ?_)
  have e1 := qws_set (S' := qup S c i.toNat v) hD hk1 (fun a h => qua_off a h)
  rw [qcell_I hs, qup, qua_on] at e1
  rw [g2, q_nb hv, qupd] at hP1
  rw [e1] at hP1
  exact k p e s m args below meth cd H1 locs1 ls C ⟨hP1, qD_any hD, hK⟩ hS1 hl
theorem q_zastore {c n : Nat} {i v : Int} (hd : decode bc pc = .ok (.bastore, 1)) (hc : c ∈ qLs X) (hs : qsh c = (1, 2, n)) (h0 : 0 ≤ i) (h1 : i < n) (hv : v = 0 ∨ v = 1) (hp : pc + 1 = pc') (k : qW X d y bc ml rt pc' lv st (qup S c i.toNat v) Q) : qW X d y bc ml rt pc lv (qi v :: qi i :: qr c :: st) S Q := by
  subst hp
  intro p e s m args below meth cd H locs ls C hWd hS hl
  obtain ⟨hP, hD, hK⟩ := id hWd
  obtain ⟨kk, hk1, hk2⟩ := qws_at (S := S) hc
  obtain ⟨g1, g2⟩ := q_cl h0 h1 (qsh_len hs)
  rw [qcell_I hs] at hk2
  refine va_zast C.1 C.2.1 hK hP hD hS kk 2 hk2 rfl g1 hd (fun H1 locs1 hP1 hD1 hS1 => ?_)
  have e1 := qws_set (S' := qup S c i.toNat v) hD hk1 (fun a h => qua_off a h)
  rw [qcell_I hs, qup, qua_on] at e1
  rw [g2, q_nz hv, qupd] at hP1
  rw [e1] at hP1
  exact k p e s m args below meth cd H1 locs1 ls C ⟨hP1, qD_any hD, hK⟩ hS1 hl
theorem q_lastore {c n : Nat} {i v : Int} (hd : decode bc pc = .ok (.lastore, 1)) (hc : c ∈ qLs X) (hs : qsh c = (2, 3, n)) (h0 : 0 ≤ i) (h1 : i < n) (hp : pc + 1 = pc') (k : qW X d y bc ml rt pc' lv st (qup S c i.toNat v) Q) : qW X d y bc ml rt pc lv (ql v :: qi i :: qr c :: st) S Q := by
  subst hp
  intro p e s m args below meth cd H locs ls C hWd hS hl
  obtain ⟨hP, hD, hK⟩ := id hWd
  obtain ⟨kk, hk1, hk2⟩ := qws_at (S := S) hc
  obtain ⟨g1, g2⟩ := q_cl h0 h1 (qsh_len hs)
  rw [qcell_L hs] at hk2
  refine va_last C.1 C.2.1 hK hP hD hS kk 3 hk2 rfl g1 hd (fun H1 locs1 hP1 hD1 hS1 => ?_)
  have e1 := qws_set (S' := qup S c i.toNat v) hD hk1 (fun a h => qua_off a h)
  rw [qcell_L hs, qup, qua_on] at e1
  rw [g2, qupdL] at hP1
  rw [e1] at hP1
  exact k p e s m args below meth cd H1 locs1 ls C ⟨hP1, qD_any hD, hK⟩ hS1 hl
theorem q_aaload {c n : Nat} {i : Int} (hd : decode bc pc = .ok (.aaload, 1)) (hc : c ∈ qLs X) (hs : qsh c = (3, 4, n)) (h0 : 0 ≤ i) (h1 : i < n) (hp : pc + 1 = pc') (k : qW X d y bc ml rt pc' lv (qr (qrf c i.toNat) :: st) S Q) : qW X d y bc ml rt pc lv (qi i :: qr c :: st) S Q := by
  subst hp
  intro p e s m args below meth cd H locs ls C hWd hS hl
  obtain ⟨hP, hD, hK⟩ := id hWd
  obtain ⟨kk, hk1, hk2⟩ := qws_at (S := S) hc
  obtain ⟨g1, g2⟩ := q_cl h0 h1 (qsh_len hs)
  rw [qcell_A hs] at hk2
  have hlt : i.toNat < n := by omega
  have hlt2 : (Int32.ofInt i).toNatClampNeg < n := by rw [g2]; exact hlt
  refine W.aald (v := .ref (qad X (qrf c i.toNat))) (ty := .array .int) C.1 C.2.1 (hP kk _ hk2) ((hK.2 4 _ rfl).1 n (fun j => va_rf (if j < n then some (qad X (qrf c j)) else none))) rfl (fun q => by cases q) (by show ¬ (_ < 0 ∨ (arrV _ _ _).slots.size ≤ _); rw [arrV_size]; exact g1) (by show (arrV _ _ _).slots[_]? = _; rw [arrV_read _ _ hlt2, g2]; show some (va_rf (if i.toNat < n then some (qad X (qrf c i.toNat)) else none)) = _; rw [if_pos hlt]; rfl) rfl rfl hd ?_
  exact k p e s m args below meth cd H locs ls C hWd hS hl
theorem q_alen {c n t k0 : Nat} (hd : decode bc pc = .ok (.arraylength, 1)) (hc : c ∈ qLs X) (hs : qsh c = (1, t, n)) (ht : t < 3) (hp : pc + 1 = pc') (k : qW X d y bc ml rt pc' lv (qi n :: st) S Q) : qW X d y bc ml rt pc lv (qr c :: st) S Q := by
  subst hp
  intro p e s m args below meth cd H locs ls C hWd hS hl
  obtain ⟨hP, hD, hK⟩ := id hWd
  obtain ⟨kk, hk1, hk2⟩ := qws_at (S := S) hc
  rw [qcell_I hs] at hk2
  have h9 : (qtys X)[t]? = some (qca X t, qty t) := by
    match t, ht with
    | 0, _ => rfl
    | 1, _ => rfl
    | 2, _ => rfl
  exact va_alen C.1 C.2.1 hK hP kk t hk2 h9 (Int32.ofInt_eq_ofNat).symm hd (k p e s m args below meth cd H locs ls C hWd hS hl)
/-! fields: own's entry index is slot k of class ci -/
def qFL (own : String) (idx ci k : Nat) : Prop := ∃ (Cn : String) (T : u_T) (N : Nat) (ty : Nat → FieldType), vwCl[ci]? = some (Cn, T, N) ∧ k < N ∧ (∀ w ∈ u_ws Cn T N, w ∈ qwords) ∧ Cond.fieldLink own idx (T k).1 (T k).2.1 (T k).2.2.1 ∈ qwords ∧ (∀ k, k < N → parseFieldDescriptor (T k).2.2.1 = some (ty k)) ∧ (∀ a, a < N → ∀ b, b < N → a ≠ b → (T a).2.1 ≠ (T b).2.1) ∧ ((T k).2.2.2 = false → ty k = .int ∨ ty k = .boolean ∨ ty k = .long) ∧ (ty k = .boolean → qst ci k = 3) ∧ (ty k = .int → qst ci k = 0) ∧ (ty k = .long → qst ci k = 1)
theorem qfv_at {c ci n k : Nat} (hk : k < n) : ((List.range n).map (qfv X S c ci))[k]? = some (qfv X S c ci k) := by
  rw [List.getElem?_map, List.getElem?_range hk]
  rfl
theorem q_get {c ci n idx kf : Nat} (hd : decode bc pc = .ok (.getfield idx, 3)) (hf : qFL y.cls idx ci kf) (hc : c ∈ qLs X) (hs : qsh c = (0, ci, n)) (hk : kf < n) {v : qV} (hv : qvl X v = qfv X S c ci kf) (hp : pc + 3 = pc') (k : qW X d y bc ml rt pc' lv (v :: st) S Q) : qW X d y bc ml rt pc lv (qr c :: st) S Q := by
  subst hp
  intro p e s m args below meth cd H locs ls C hWd hS hl
  obtain ⟨hP, hD, hK⟩ := id hWd
  obtain ⟨kk, hk1, hk2⟩ := qws_at (S := S) hc
  obtain ⟨Cn, T, N, ty, f1, f2, f3, f4, -⟩ := hf
  rw [qcell_O hs] at hk2
  obtain ⟨x1, x2, x3, x4, x5, x6, x7, x8⟩ := id C
  have hq : ∀ w ∈ qwords, w.before args s = true := fun w h => x7 w (List.mem_cons_of_mem _ h)
  refine va_get (v := qvl X v) x1 x2 hq f3 x6 hK hP kk hk2 f1 kf f2 (hq _ f4) (fun _ h => h) (by rw [qfv_at hk, hv]) hd ?_
  exact k p e s m args below meth cd H locs ls C hWd hS hl
theorem q_getI {c ci n idx kf : Nat} (hd : decode bc pc = .ok (.getfield idx, 3)) (hf : qFL y.cls idx ci kf) (hc : c ∈ qLs X) (hs : qsh c = (0, ci, n)) (hk : kf < n) (ht : qst ci kf = 0) (hp : pc + 3 = pc') (k : qW X d y bc ml rt pc' lv (qi (S c kf) :: st) S Q) : qW X d y bc ml rt pc lv (qr c :: st) S Q := q_get hd hf hc hs hk (v := qi (S c kf)) (by simp [qfv, ht]; rfl) hp k
theorem q_getZ {c ci n idx kf : Nat} (hd : decode bc pc = .ok (.getfield idx, 3)) (hf : qFL y.cls idx ci kf) (hc : c ∈ qLs X) (hs : qsh c = (0, ci, n)) (hk : kf < n) (ht : qst ci kf = 3) (hp : pc + 3 = pc') (k : qW X d y bc ml rt pc' lv (qi (S c kf) :: st) S Q) : qW X d y bc ml rt pc lv (qr c :: st) S Q := q_get hd hf hc hs hk (v := qi (S c kf)) (by simp [qfv, ht]; rfl) hp k
theorem q_getL {c ci n idx kf : Nat} (hd : decode bc pc = .ok (.getfield idx, 3)) (hf : qFL y.cls idx ci kf) (hc : c ∈ qLs X) (hs : qsh c = (0, ci, n)) (hk : kf < n) (ht : qst ci kf = 1) (hp : pc + 3 = pc') (k : qW X d y bc ml rt pc' lv (ql (S c kf) :: st) S Q) : qW X d y bc ml rt pc lv (qr c :: st) S Q := q_get hd hf hc hs hk (v := ql (S c kf)) (by simp [qfv, ht]; rfl) hp k
theorem q_getA {c ci n idx kf : Nat} (hd : decode bc pc = .ok (.getfield idx, 3)) (hf : qFL y.cls idx ci kf) (hc : c ∈ qLs X) (hs : qsh c = (0, ci, n)) (hk : kf < n) (ht : qst ci kf = 2) (hp : pc + 3 = pc') (k : qW X d y bc ml rt pc' lv (qr (qrf c kf) :: st) S Q) : qW X d y bc ml rt pc lv (qr c :: st) S Q := q_get hd hf hc hs hk (v := qr (qrf c kf)) (by simp [qfv, ht]; rfl) hp k
theorem qfs_set {c ci n k : Nat} {v : Int} (hk : k < n) (hr : ¬ qst ci k = 2) : ((List.range n).map (qfv X S c ci)).set k (if qst ci k = 1 then .long (Int64.ofInt v) else .int (Int32.ofInt v)) = (List.range n).map (qfv X (qup S c k v) c ci) := by
  apply List.ext_getElem?
  intro j
  by_cases e : j = k
  · subst e
    rw [List.getElem?_set_self (by simpa using hk), qfv_at hk, qfv, if_neg hr, qup, qua_on]
    simp
  · rw [List.getElem?_set_ne (Ne.symm e), List.getElem?_map, List.getElem?_map]
    cases hj : (List.range n)[j]? with
    | none => rfl
    | some a =>
      have ha : a = j := by
        obtain ⟨h1, h2⟩ := List.getElem?_eq_some_iff.mp hj
        simpa using h2.symm
      subst ha
      show some _ = some _
      unfold qfv
      rw [qup, qua_on]
      simp [e]
theorem q_putI {c ci n idx kf : Nat} {v : Int} (hd : decode bc pc = .ok (.putfield idx, 3)) (hf : qFL y.cls idx ci kf) (hc : c ∈ qLs X) (hs : qsh c = (0, ci, n)) (hk : kf < n) (hfin : ∀ q, vwCl[ci]? = some q → (q.2.1 kf).2.2.2 = false) (hty : ∀ q, vwCl[ci]? = some q → parseFieldDescriptor (q.2.1 kf).2.2.1 = some .int) (ht : qst ci kf = 0) (hp : pc + 3 = pc') (k : qW X d y bc ml rt pc' lv st (qup S c kf v) Q) : qW X d y bc ml rt pc lv (qi v :: qr c :: st) S Q := by
  subst hp
  intro p e s m args below meth cd H locs ls C hWd hS hl
  obtain ⟨hP, hD, hK⟩ := id hWd
  obtain ⟨kk, hk1, hk2⟩ := qws_at (S := S) hc
  obtain ⟨Cn, T, N, ty, f1, f2, f3, f4, f5, f6, -⟩ := hf
  rw [qcell_O hs] at hk2
  obtain ⟨x1, x2, x3, x4, x5, x6, x7, x8⟩ := id C
  have hq : ∀ w ∈ qwords, w.before args s = true := fun w h => x7 w (List.mem_cons_of_mem _ h)
  refine va_put (v := .int (Int32.ofInt v)) (ty := .int) x1 x2 hq f3 ty f5 f6 x6 hK hP hD hS kk hk2 f1 kf f2 (hq _ f4) (fun _ h => h) (hfin _ f1) (hty _ f1) (rfl) (rfl) (by simpa using hk) hd (fun H1 locs1 hP1 hD1 hS1 => ?_)
  have e1 := qws_set (S' := qup S c kf v) hD hk1 (fun a h => qua_off a h)
  rw [qcell_O hs] at e1
  have e2 := qfs_set (X := X) (S := S) (c := c) (ci := ci) (n := n) (k := kf) (v := v) hk (by rw [ht]; decide)
  rw [ht] at e2
  rw [← e2] at e1
  have hP2 : va_P (qD X) vwCl (qws X (qup S c kf v)) H1 := by rw [← e1]; exact hP1
  exact k p e s m args below meth cd H1 locs1 ls C ⟨hP2, qD_any hD, hK⟩ hS1 hl
theorem q_putZ {c ci n idx kf : Nat} {v : Int} (hd : decode bc pc = .ok (.putfield idx, 3)) (hf : qFL y.cls idx ci kf) (hc : c ∈ qLs X) (hs : qsh c = (0, ci, n)) (hk : kf < n) (hfin : ∀ q, vwCl[ci]? = some q → (q.2.1 kf).2.2.2 = false) (hty : ∀ q, vwCl[ci]? = some q → parseFieldDescriptor (q.2.1 kf).2.2.1 = some .boolean) (ht : qst ci kf = 3) (hv : v = 0 ∨ v = 1) (hp : pc + 3 = pc') (k : qW X d y bc ml rt pc' lv st (qup S c kf v) Q) : qW X d y bc ml rt pc lv (qi v :: qr c :: st) S Q := by
  subst hp
  intro p e s m args below meth cd H locs ls C hWd hS hl
  obtain ⟨hP, hD, hK⟩ := id hWd
  obtain ⟨kk, hk1, hk2⟩ := qws_at (S := S) hc
  obtain ⟨Cn, T, N, ty, f1, f2, f3, f4, f5, f6, -⟩ := hf
  rw [qcell_O hs] at hk2
  obtain ⟨x1, x2, x3, x4, x5, x6, x7, x8⟩ := id C
  have hq : ∀ w ∈ qwords, w.before args s = true := fun w h => x7 w (List.mem_cons_of_mem _ h)
  refine va_put (v := .int (Int32.ofInt v)) (ty := .boolean) x1 x2 hq f3 ty f5 f6 x6 hK hP hD hS kk hk2 f1 kf f2 (hq _ f4) (fun _ h => h) (hfin _ f1) (hty _ f1) (by rcases hv with rfl | rfl <;> decide) (by rcases hv with rfl | rfl <;> decide) (by simpa using hk) hd (fun H1 locs1 hP1 hD1 hS1 => ?_)
  have e1 := qws_set (S' := qup S c kf v) hD hk1 (fun a h => qua_off a h)
  rw [qcell_O hs] at e1
  have e2 := qfs_set (X := X) (S := S) (c := c) (ci := ci) (n := n) (k := kf) (v := v) hk (by rw [ht]; decide)
  rw [ht] at e2
  rw [← e2] at e1
  have hP2 : va_P (qD X) vwCl (qws X (qup S c kf v)) H1 := by rw [← e1]; exact hP1
  exact k p e s m args below meth cd H1 locs1 ls C ⟨hP2, qD_any hD, hK⟩ hS1 hl
theorem q_putL {c ci n idx kf : Nat} {v : Int} (hd : decode bc pc = .ok (.putfield idx, 3)) (hf : qFL y.cls idx ci kf) (hc : c ∈ qLs X) (hs : qsh c = (0, ci, n)) (hk : kf < n) (hfin : ∀ q, vwCl[ci]? = some q → (q.2.1 kf).2.2.2 = false) (hty : ∀ q, vwCl[ci]? = some q → parseFieldDescriptor (q.2.1 kf).2.2.1 = some .long) (ht : qst ci kf = 1) (hp : pc + 3 = pc') (k : qW X d y bc ml rt pc' lv st (qup S c kf v) Q) : qW X d y bc ml rt pc lv (ql v :: qr c :: st) S Q := by
  subst hp
  intro p e s m args below meth cd H locs ls C hWd hS hl
  obtain ⟨hP, hD, hK⟩ := id hWd
  obtain ⟨kk, hk1, hk2⟩ := qws_at (S := S) hc
  obtain ⟨Cn, T, N, ty, f1, f2, f3, f4, f5, f6, -⟩ := hf
  rw [qcell_O hs] at hk2
  obtain ⟨x1, x2, x3, x4, x5, x6, x7, x8⟩ := id C
  have hq : ∀ w ∈ qwords, w.before args s = true := fun w h => x7 w (List.mem_cons_of_mem _ h)
  refine va_put (v := .long (Int64.ofInt v)) (ty := .long) x1 x2 hq f3 ty f5 f6 x6 hK hP hD hS kk hk2 f1 kf f2 (hq _ f4) (fun _ h => h) (hfin _ f1) (hty _ f1) (rfl) (rfl) (by simpa using hk) hd (fun H1 locs1 hP1 hD1 hS1 => ?_)
  have e1 := qws_set (S' := qup S c kf v) hD hk1 (fun a h => qua_off a h)
  rw [qcell_O hs] at e1
  have e2 := qfs_set (X := X) (S := S) (c := c) (ci := ci) (n := n) (k := kf) (v := v) hk (by rw [ht]; decide)
  rw [ht] at e2
  rw [← e2] at e1
  have hP2 : va_P (qD X) vwCl (qws X (qup S c kf v)) H1 := by rw [← e1]; exact hP1
  exact k p e s m args below meth cd H1 locs1 ls C ⟨hP2, qD_any hD, hK⟩ hS1 hl
/-! ends -/
theorem q_ireturn {v : Int} (hd : decode bc pc = .ok (.ireturn, 1)) (hrt : rt = some .int) (hq : Q (some (qi v)) S) : qW X d y bc ml rt pc lv [qi v] S Q := by
  intro p e s m args below meth c H locs ls C hWd hS hl
  obtain ⟨x1, x2, x3, x4, x5, x6, x7, x8⟩ := id C
  exact W.iret (v := Int32.ofInt v) x1 x2 (by rw [x4, hrt]) (fun t ht hW => ⟨⟨some (qi v), S, hq, rfl, by rw [ht]; exact ⟨hWd.1, hWd.2.1, va_K.moved hW.alike hWd.2.2⟩⟩, hS.F ht⟩) hS.2.2 hd (hlocks := x5)
theorem q_zreturn {v : Int} (hd : decode bc pc = .ok (.ireturn, 1)) (hrt : rt = some .boolean) (hv : v = 0 ∨ v = 1) (hq : Q (some (qi v)) S) : qW X d y bc ml rt pc lv [qi v] S Q := by
  intro p e s m args below meth c H locs ls C hWd hS hl
  obtain ⟨x1, x2, x3, x4, x5, x6, x7, x8⟩ := id C
  exact W.zret (v := Int32.ofInt v) (ty := .boolean) x1 x2 (by rw [x4, hrt]) (by rcases hv with rfl | rfl <;> decide) (fun t ht hW => ⟨⟨some (qi v), S, hq, rfl, by rw [ht]; exact ⟨hWd.1, hWd.2.1, va_K.moved hW.alike hWd.2.2⟩⟩, hS.F ht⟩) hS.2.2 hd (hlocks := x5)
theorem q_lreturn {v : Int} (hd : decode bc pc = .ok (.lreturn, 1)) (hrt : rt = some .long) (hq : Q (some (ql v)) S) : qW X d y bc ml rt pc lv [ql v] S Q := by
  intro p e s m args below meth c H locs ls C hWd hS hl
  obtain ⟨x1, x2, x3, x4, x5, x6, x7, x8⟩ := id C
  exact W.lret (v := Int64.ofInt v) x1 x2 (by rw [x4, hrt]) (fun t ht hW => ⟨⟨some (ql v), S, hq, rfl, by rw [ht]; exact ⟨hWd.1, hWd.2.1, va_K.moved hW.alike hWd.2.2⟩⟩, hS.F ht⟩) hS.2.2 hd (hlocks := x5)
theorem q_areturn {v : Nat} {n : String} (hd : decode bc pc = .ok (.areturn, 1)) (hrt : rt = some (.object n)) (hq : Q (some (qr v)) S) : qW X d y bc ml rt pc lv [qr v] S Q := by
  intro p e s m args below meth c H locs ls C hWd hS hl
  obtain ⟨x1, x2, x3, x4, x5, x6, x7, x8⟩ := id C
  exact W.aret (v := .ref (qad X v)) (rt := .object n) x1 x2 (by rw [x4, hrt]) (Or.inl ⟨n, rfl⟩) (Or.inr ⟨_, rfl⟩) (fun t ht hW => ⟨⟨some (qr v), S, hq, rfl, by rw [ht]; exact ⟨hWd.1, hWd.2.1, va_K.moved hW.alike hWd.2.2⟩⟩, hS.F ht⟩) hS.2.2 hd (hlocks := x5)
theorem q_return (hd : decode bc pc = .ok (.return_, 1)) (hrt : rt = none) (hq : Q none S) : qW X d y bc ml rt pc lv [] S Q := by
  intro p e s m args below meth c H locs ls C hWd hS hl
  obtain ⟨x1, x2, x3, x4, x5, x6, x7, x8⟩ := id C
  exact W.vret x1 x2 (by rw [x4, hrt]) (fun t ht hW => ⟨⟨none, S, hq, rfl, by rw [ht]; exact ⟨hWd.1, hWd.2.1, va_K.moved hW.alike hWd.2.2⟩⟩, hS.F ht⟩) hS.2.2 hd (hlocks := x5)
/-! a method's start -/
def qla : Nat → List qV → qLv
  | _, [] => []
  | k, v :: vs => (k, v) :: qla (if qlong v then k + 2 else k + 1) vs
theorem qla_map (X : qX) : ∀ (vs : List qV) (k : Nat), lv_args k (vs.map (qvl X)) = qlv X (qla k vs)
  | [], _ => rfl
  | v :: vs, k => by
    show (k, qvl X v) :: lv_args (if (qvl X v).category = 2 then k + 2 else k + 1) (vs.map (qvl X)) = (k, qvl X v) :: qlv X (qla (if qlong v then k + 2 else k + 1) vs)
    rw [qla_map X vs, qcat]
    cases qlong v <;> rfl
def qsz : List qV → Nat
  | [] => 0
  | v :: vs => (if qlong v then 2 else 1) + qsz vs
theorem qsz_sl (X : qX) : ∀ (vs : List qV), (lg_sl (vs.map (qvl X))).length = qsz vs
  | [] => rfl
  | v :: vs => by
    have ih := qsz_sl X vs
    rcases v with v | v | v | v
    · simp [lg_sl, qvl, Value.category, qsz, qlong] at ih ⊢
      omega
    · simp [lg_sl, qvl, Value.category, qsz, qlong] at ih ⊢
      omega
    · simp [lg_sl, qvl, Value.category, qsz, qlong] at ih ⊢
      omega
    · rcases lv_cat v with h | h
      · simp [lg_sl, qvl, qsz, qlong, h] at ih ⊢
        omega
      · simp [lg_sl, qvl, qsz, qlong, h] at ih ⊢
        omega
theorem q_entry {vs : List qV} (hy : plainName y.cls = true) (hn : qsz vs ≤ ml) (hl : qla 0 vs = lv) (h : qW X d y bc ml rt 0 lv [] S Q) : qC X d y bc ml rt vs S Q := by
  subst hl
  refine Met.ofW (cc := bc) (maxL := ml) (ret := rt) hy rfl ?_
  intro p e s m args below meth c s₁ B hml hv
  obtain ⟨rfl, hWd, hEx⟩ := hv
  have hts := atoms_spec (ws := qwm y bc ml rt) B.pre
  have hown : s.vm.findClass y.cls = some m.cls := findClass_of_methodNamed B.named
  have hle := lv_entry (vs.map (qvl X)) (n := ml) (by rw [qsz_sl]; exact hn)
  rw [lg_entry_eq]
  rw [qla_map] at hle
  exact h p e s m _ below meth c s.heap [] _ ⟨B.exec, B.bytes, hml, B.returns, B.notSynchronized, hown, hts, hEx⟩ hWd va_S.rf hle
/-! calls -/
def qML (own : String) (idx : Nat) (z : MethodName) (bz : ByteArray) (mz : Nat) (rz : Option FieldType) (n : Nat) : Prop :=
  Cond.methodLink own idx z ∈ qwords ∧ Cond.instanceMethod z ∈ qwords ∧ Cond.selects z.cls z z ∈ qwords ∧ Cond.initialized z.cls ∈ qwords ∧ Cond.code z bz mz rz ∈ qwords ∧ (z.cls ≠ "java/lang/invoke/MethodHandle" ∧ z.cls ≠ "java/lang/invoke/VarHandle" ∧ (parseMethodDescriptor z.desc).map (fun d => d.parameters.length) = some n) ∧ mz ≤ 40
def qMS (own : String) (idx : Nat) (z : MethodName) (bz : ByteArray) (mz : Nat) (rz : Option FieldType) (n : Nat) : Prop :=
  Cond.methodLink own idx z ∈ qwords ∧ Cond.static z ∈ qwords ∧ Cond.initialized z.cls ∈ qwords ∧ Cond.code z bz mz rz ∈ qwords ∧ (z.cls ≠ "java/lang/invoke/MethodHandle" ∧ z.cls ≠ "java/lang/invoke/VarHandle" ∧ (parseMethodDescriptor z.desc).map (fun d => d.parameters.length) = some n) ∧ mz ≤ 40
theorem qwords_good {w : Cond} (h : w ∈ qwords) : goodWord w = true := (List.mem_filter.mp h).2
theorem q_good {ws : List Cond} (h : ∀ w ∈ ws, w ∈ qwords) : GoodIn (qwm y bc ml rt) ws := fun w hw => ⟨List.mem_cons_of_mem _ (h w hw), good_of_word (qwords_good (h w hw))⟩
theorem qPc_blind {vs : List qV} : FrameBlind (qPc X vs S) := by
  intro a U g mk q
  obtain ⟨q0, ⟨q1, q2, q3⟩, q4⟩ := q
  exact ⟨q0, ⟨q1, q2, va_K.moved (u := U) (U := U.calling g mk a) (Vm.Alike.refl U.vm) q3⟩, q4.same rfl rfl⟩
def qroom (st : List qV) : Nat := (st.map (fun v => if qlong v then 2 else 1)).sum
theorem qroom_eq (X : qX) (st : List qV) : ((st.map (qvl X)).map fun v => v.category).sum = qroom st := by
  unfold qroom
  rw [List.map_map]
  congr 1
  apply List.map_congr_left
  intro v _
  exact qcat X v
/-- behind a call -/
theorem q_after {d1 : Nat} {st0 : List qV} {Q' : Option qV → qSto → Prop} {a : Array Value} {p : Program} {e : Env} {s : State} {m : MethodId} {args : Array Value} {below : List Frame} {meth : Method} {c : Code} {H : Heap} {locs : List Loc} {ls : Array Slot}
    (C : qCx X d1 y bc ml rt p s m args meth c) (hS : va_S (qA X) s.heap H locs) (hl : lv_has ls ml (qlv X lv))
    (hr : va_Run p X.1 e (qrm d1) s m args below meth c H locs 0 0 0 0 (F0 m pc ls (st0.map (qvl X))) (st.map (qvl X)) (qQc X Q' a) (qA X))
    (k : ∀ r S', Q' r S' → qW X d1 y bc ml rt (pc + 3) lv (r.toList ++ st) S' Q) : W p X.1 e (qrm d1) s m args below meth c H locs 0 0 (MQ below (qQc X Q) args s 0 0 (qA X)) (F0 m pc ls (st0.map (qvl X))) := by
  intro T hT Xs
  obtain ⟨v, st₀, t, T', L, h0, X', hL, e1, e2, ⟨⟨r, S', hq, hv, w1, w2, w3⟩, hz, hk⟩, st9⟩ := hr T hT Xs
  cases hv
  rw [h0] at hz hk
  have hal : s.vm.Alike t.vm := by rw [← e2]; exact X'.warmed.alike
  obtain ⟨t2, a1, b1⟩ := k r S' hq p e s m args below meth c T'.heap (locs ++ L) ls C (by rw [e1]; exact ⟨w1, w2, va_K.moved hal.symm w3⟩)
    ⟨Nat.le_trans hS.1 (by rw [e1]; exact hz), fun q h1 h2 => by rw [e1, hk q (Nat.lt_of_lt_of_le h1 hS.1) h2]; exact hS.2.1 q h1 h2, fun q hq => by
      rcases List.mem_append.mp hq with h | h
      · exact hS.2.2 q h
      · exact hL q h⟩ hl T' rfl X'
  refine ⟨t2, st9 t2 ?_, b1⟩
  have e9 : (r.toList ++ st).map (qvl X) = (r.map (qvl X)).toList ++ st.map (qvl X) := by cases r <;> simp
  rw [e9] at a1
  exact a1
theorem q_callV {z : MethodName} {bz : ByteArray} {mz idx n c ci nf : Nat} {rz : Option FieldType} {as st0 : List qV} {Q' : Option qV → qSto → Prop} {q : vw_C} (hd : decode bc pc = .ok (.invokevirtual idx, 3)) (hm : qML y.cls idx z bz mz rz n) (hst : st0 = as.reverse ++ qr c :: st) (hn : as.length = n) (hc : c ∈ qLs X) (hs : qsh c = (0, ci, nf)) (hcl : vwCl[ci]? = some q) (hcn : q.1 = z.cls) (hr : qroom st ≤ 8)
    (hM : qC X d z bz mz rz (qr c :: as) S Q') (hp : pc + 3 = pc') (k : ∀ r S', Q' r S' → qW X (d + 1) y bc ml rt pc' lv (r.toList ++ st) S' Q) : qW X (d + 1) y bc ml rt pc lv st0 S Q := by
  subst hp
  subst hst
  intro p e s m args below meth cd H locs ls C hWd hS hl
  obtain ⟨x1, x2, x3, x4, x5, x6, x7, x8⟩ := id C
  obtain ⟨hP, hD, hK⟩ := id hWd
  obtain ⟨kk, hk1, hk2⟩ := qws_at (S := S) hc
  rw [qcell_O hs] at hk2
  obtain ⟨m1, m2, m3, m4, m5, m6, m7⟩ := hm
  have hG : GoodIn (qwm y bc ml rt) (wsV y.cls idx z.cls z (qwm z bz mz rz)) := q_good (fun w hw => by
    simp only [wsV, qwm, List.mem_append, List.mem_cons, List.not_mem_nil, or_false] at hw
    rcases hw with (rfl | rfl | rfl | rfl) | rfl | hw
    · exact m1
    · exact m2
    · exact m3
    · exact m4
    · exact m5
    · exact hw)
  refine q_after C hS hl (va_runV (b := qad X c) (As := as.map (qvl X)) (rest := st.map (qvl X)) ⟨x1, x2, x3, x6, x7⟩ hM (cwV n x7 hG rfl rfl rfl ⟨rfl, m6⟩ ⟨Nat.le_refl _, by show 8 + (mz + 11) + 64 * (d + 1) ≤ 64 * (d + 1 + 1); omega⟩) ⟨qPc_blind, ?_, fun U hU hW => ?_⟩ rfl (by rw [List.length_map]; exact hn) (hl.1.trans rfl) (by simp [qvl]) (lv_room (by rw [qroom_eq]; exact hr)) hd ⟨Nat.le_refl _, Nat.le_refl _⟩) k
  · have h9 := va_recv hK hP hcl hk2
    rw [hcn] at h9
    exact h9
  · exact ⟨by simp [qvl], by rw [hU]; exact ⟨hP, hD, va_K.moved hW.alike hK⟩, x8.at hS hW hU⟩
theorem q_callS {z : MethodName} {bz : ByteArray} {mz idx n : Nat} {rz : Option FieldType} {as st0 : List qV} {Q' : Option qV → qSto → Prop} (hd : decode bc pc = .ok (.invokestatic idx, 3)) (hm : qMS y.cls idx z bz mz rz n) (hst : st0 = as.reverse ++ st) (hn : as.length = n) (hr : qroom st ≤ 8)
    (hM : qC X d z bz mz rz as S Q') (hp : pc + 3 = pc') (k : ∀ r S', Q' r S' → qW X (d + 1) y bc ml rt pc' lv (r.toList ++ st) S' Q) : qW X (d + 1) y bc ml rt pc lv st0 S Q := by
  subst hp
  subst hst
  intro p e s m args below meth cd H locs ls C hWd hS hl
  obtain ⟨x1, x2, x3, x4, x5, x6, x7, x8⟩ := id C
  obtain ⟨hP, hD, hK⟩ := id hWd
  obtain ⟨m1, m2, m4, m5, m6, m7⟩ := hm
  have hG : GoodIn (qwm y bc ml rt) (va_wsS y.cls idx z (qwm z bz mz rz)) := q_good (fun w hw => by
    simp only [va_wsS, qwm, List.mem_append, List.mem_cons, List.not_mem_nil, or_false] at hw
    rcases hw with (rfl | rfl | rfl) | rfl | hw
    · exact m1
    · exact m2
    · exact m4
    · exact m5
    · exact hw)
  refine q_after C hS hl (va_runS (As := as.map (qvl X)) (rest := st.map (qvl X)) ⟨x1, x2, x3, x6, x7⟩ hM (va_cwS n x7 hG rfl rfl rfl m6 ⟨Nat.le_refl _, by show 8 + (mz + 11) + 64 * (d + 1) ≤ 64 * (d + 1 + 1); omega⟩) ⟨qPc_blind, fun U hU hW => ?_⟩ rfl (by rw [List.length_map]; exact hn) (hl.1.trans rfl) (by simp) (lv_room (by rw [qroom_eq]; exact hr)) hd ⟨Nat.le_refl _, Nat.le_refl _⟩) k
  exact ⟨rfl, by rw [hU]; exact ⟨hP, hD, va_K.moved hW.alike hK⟩, x8.at hS hW hU⟩
/-! switches -/
theorem q_tsw {a dflt lo hi : Int} {offs : Array Int} {len tgt : Nat} (hd : decode bc pc = .ok (.tableswitch dflt lo hi offs, len)) (ha : qR a) (ht : (pc : Int) + dflt = (tgt : Int)) (kd : (a < lo ∨ hi < a) → qW X d y bc ml rt tgt lv st S Q)
    (kj : lo ≤ a → a ≤ hi → ∃ (off : Int) (t : Nat), offs[(a - lo).toNat]? = some off ∧ (pc : Int) + off = (t : Int) ∧ qW X d y bc ml rt t lv st S Q) : qW X d y bc ml rt pc lv (qi a :: st) S Q := by
  by_cases h : a < lo ∨ hi < a
  · exact q_pure (kd h) (fun hx hb hl k => lv_tableOut hx hb hd (by rw [q_to ha]; exact h) ht k)
  · obtain ⟨off, t, h1, h2, h3⟩ := kj (by omega) (by omega)
    exact q_pure h3 (fun hx hb hl k => lv_tableIn hx hb hd (by rw [q_to ha]; omega) (by rw [q_to ha]; omega) (by rw [q_to ha]; exact h1) h2 k)
theorem q_lsw {a dflt off : Int} {ps : Array (Int × Int)} {len tgt : Nat} (hd : decode bc pc = .ok (.lookupswitch dflt ps, len)) (hs : (ps.toList.zip (ps.toList.drop 1)).all (fun (a, next) => a.1 < next.1) = true) (ha : qR a) (ho : Op.lookupswitch.offset ps.toList dflt a = off) (ht : (pc : Int) + off = (tgt : Int)) (k : qW X d y bc ml rt tgt lv st S Q) : qW X d y bc ml rt pc lv (qi a :: st) S Q :=
  q_pure k (fun hx hb hl k => lv_lookup hx hb hd hs (by rw [q_to ha]; exact ho) ht k)
/-! constants, static arrays -/
theorem q_ldc2 {idx : Nat} {v : Int} (hd : decode bc pc = .ok (.ldc2_w idx, 3)) (hw : Cond.constantLong y.cls idx (Int64.ofInt v) ∈ qwords) (hp : pc + 3 = pc') (k : qW X d y bc ml rt pc' lv (ql v :: st) S Q) : qW X d y bc ml rt pc lv st S Q := by
  subst hp
  intro p e s m args below meth c H locs ls C hWd hS hl
  obtain ⟨x1, x2, x3, x4, x5, x6, x7, x8⟩ := id C
  exact lv_ldc2 x1 x2 x6 (x7 _ (List.mem_cons_of_mem _ hw)) hd (k p e s m args below meth c H locs ls C hWd hS hl)
theorem q_ldcw {idx : Nat} {v : Int} (hd : decode bc pc = .ok (.ldc_w idx, 3)) (hw : Cond.constant y.cls idx (Int32.ofInt v) ∈ qwords) (hp : pc + 3 = pc') (k : qW X d y bc ml rt pc' lv (qi v :: st) S Q) : qW X d y bc ml rt pc lv st S Q := by
  subst hp
  intro p e s m args below meth c H locs ls C hWd hS hl
  obtain ⟨x1, x2, x3, x4, x5, x6, x7, x8⟩ := id C
  exact lv_ldcw x1 x2 x6 (x7 _ (List.mem_cons_of_mem _ hw)) hd (k p e s m args below meth c H locs ls C hWd hS hl)
theorem q_gets {idx i : Nat} (hd : decode bc pc = .ok (.getstatic idx, 3)) (hn : (y.cls, idx, i) ∈ qnl) (hi : i < 5) (hp : pc + 3 = pc') (k : qW X d y bc ml rt pc' lv (qr (100 + i) :: st) S Q) : qW X d y bc ml rt pc lv st S Q := by
  subst hp
  intro p e s m args below meth c H locs ls C hWd hS hl
  obtain ⟨x1, x2, x3, x4, x5, x6, x7, x8⟩ := id C
  exact va_getsN x1 x2 (x8.1 i hi).1 hS x6 (va_Nw.use rfl (x8.2.1 _ hn)) (fun _ h => h) hd (k p e s m args below meth c H locs ls C hWd hS hl)
theorem q_tiaload {i : Int} {t : Nat} (hd : decode bc pc = .ok (.iaload, 1)) (ht : t < 5) (h0 : 0 ≤ i) (h1 : i < (qsl t).length) (hp : pc + 1 = pc') (k : qW X d y bc ml rt pc' lv (qi ((qsl t).getD i.toNat 0) :: st) S Q) : qW X d y bc ml rt pc lv (qi i :: qr (100 + t) :: st) S Q := by
  subst hp
  intro p e s m args below meth c H locs ls C hWd hS hl
  obtain ⟨x1, x2, x3, x4, x5, x6, x7, x8⟩ := id C
  obtain ⟨g0, g1⟩ := x8.1 t ht
  have hlen : (qsl t).length < 2147483648 := Nat.lt_trans (qsl_len t ht) (by omega)
  obtain ⟨f1, f2⟩ := q_cl h0 h1 hlen
  refine va_ti x1 x2 g1 hS f1 rfl hd ?_
  rw [f2]
  exact k p e s m args below meth c H locs ls C hWd hS hl
/-! System.arraycopy -/
def qcpy (S : qSto) (c0 c1 : Nat) (sp dp n : Nat) : Nat → Int := fun j => if dp ≤ j ∧ j < dp + n then S c0 (sp + (j - dp)) else S c1 j
theorem q_tn {a : Int} {n : Nat} (h0 : 0 ≤ a) (h1 : a ≤ n) (hn : n < 2147483648) : ¬ Int32.ofInt a < 0 ∧ (Int32.ofInt a).toNatClampNeg = a.toNat := by
  have hr : qR a := ⟨by omega, by omega⟩
  refine ⟨fun h => ?_, by rw [Int32.toNatClampNeg, q_to hr]⟩
  have := (q_lt hr q_R0).mp h
  omega
def qCW (own : String) (idx : Nat) : Prop := Cond.methodLink own idx arraycopyName ∈ qwords ∧ Cond.native arraycopyName ∈ qwords ∧ Cond.static arraycopyName ∈ qwords ∧ Cond.initialized "java/lang/System" ∈ qwords
theorem q_copy {idx c0 c1 n0 n1 : Nat} {sp dp n : Int} (hd : decode bc pc = .ok (.invokestatic idx, 3)) (hw : qCW y.cls idx) (hc0 : c0 ∈ qLs X) (hc1 : c1 ∈ qLs X) (hs0 : qsh c0 = (1, 0, n0)) (hs1 : qsh c1 = (1, 0, n1)) (g0 : 0 ≤ sp) (g1 : 0 ≤ dp) (g2 : 0 ≤ n) (g3 : sp + n ≤ n0) (g4 : dp + n ≤ n1) (hr : qroom st ≤ 8) (hp : pc + 3 = pc')
    (k : qW X d y bc ml rt pc' lv st (qua S c1 (qcpy S c0 c1 sp.toNat dp.toNat n.toNat)) Q) : qW X d y bc ml rt pc lv (qi n :: qi dp :: qr c1 :: qi sp :: qr c0 :: st) S Q := by
  subst hp
  intro p e s m args below meth cd H locs ls C hWd hS hl
  obtain ⟨x1, x2, x3, x4, x5, x6, x7, x8⟩ := id C
  obtain ⟨hP, hD, hK⟩ := id hWd
  obtain ⟨k0, hk01, hk02⟩ := qws_at (S := S) hc0
  obtain ⟨k1, hk11, hk12⟩ := qws_at (S := S) hc1
  rw [qcell_I hs0] at hk02
  rw [qcell_I hs1] at hk12
  have hq : ∀ w ∈ qwords, w.before args s = true := fun w h => x7 w (List.mem_cons_of_mem _ h)
  obtain ⟨w1, w2, w3, w4⟩ := hw
  have l0 := qsh_len hs0
  have l1 := qsh_len hs1
  obtain ⟨a1, a2⟩ := q_tn (n := n0) g0 (by omega) l0
  obtain ⟨b1, b2⟩ := q_tn (n := n1) g1 (by omega) l1
  obtain ⟨c1', c2⟩ := q_tn (n := n0) g2 (by omega) l0
  refine va_copyi (ty := .int) x1 x2 (x3.trans hl.1.symm) x6 (hq _ w1) (hq _ w2) (hq _ w3) (hq _ w4) hK hP hD hS k0 k1 0 0 hk02 hk12 rfl rfl rfl a1 b1 c1' (by rw [a2, c2]; omega) (by rw [b2, c2]; omega) (fun i _ => rfl) (by show 1 ≤ d + 1; omega) (by rw [qroom_eq]; have e9 := qnat; show qroom st + (nativeFrameWords "java/lang/System" "arraycopy" 5 + 11) ≤ 64 * (d + 1); omega) hd (fun H1 locs1 hP1 hD1 hS1 => ?_)
  have e1 := qws_set (S' := qua S c1 (qcpy S c0 c1 sp.toNat dp.toNat n.toNat)) hD hk11 (fun a h => qua_off a h)
  rw [qcell_I hs1, qua_on] at e1
  rw [a2, b2, c2] at hP1
  have e2 : va_cpy (fun j => Int32.ofInt (S c0 j)) (fun j => Int32.ofInt (S c1 j)) sp.toNat dp.toNat n.toNat = fun j => Int32.ofInt (qcpy S c0 c1 sp.toNat dp.toNat n.toNat j) := by
    funext j
    unfold va_cpy qcpy
    split <;> rfl
  rw [e2, e1] at hP1
  exact k p e s m args below meth cd H1 locs1 ls C ⟨hP1, qD_any hD, hK⟩ hS1 hl
def qcpt (S : qSto) (t c1 : Nat) (sp dp n : Nat) : Nat → Int := fun j => if dp ≤ j ∧ j < dp + n then (qsl t).getD (sp + (j - dp)) 0 else S c1 j
theorem q_copyT {idx t c1 n1 : Nat} {sp dp n : Int} (hd : decode bc pc = .ok (.invokestatic idx, 3)) (hw : qCW y.cls idx) (ht : t < 5) (hc1 : c1 ∈ qLs X) (hs1 : qsh c1 = (1, 0, n1)) (g0 : 0 ≤ sp) (g1 : 0 ≤ dp) (g2 : 0 ≤ n) (g3 : sp + n ≤ (qsl t).length) (g4 : dp + n ≤ n1) (hr : qroom st ≤ 8) (hp : pc + 3 = pc')
    (k : qW X d y bc ml rt pc' lv st (qua S c1 (qcpt S t c1 sp.toNat dp.toNat n.toNat)) Q) : qW X d y bc ml rt pc lv (qi n :: qi dp :: qr c1 :: qi sp :: qr (100 + t) :: st) S Q := by
  subst hp
  intro p e s m args below meth cd H locs ls C hWd hS hl
  obtain ⟨x1, x2, x3, x4, x5, x6, x7, x8⟩ := id C
  obtain ⟨hP, hD, hK⟩ := id hWd
  obtain ⟨k1, hk11, hk12⟩ := qws_at (S := S) hc1
  rw [qcell_I hs1] at hk12
  have hq : ∀ w ∈ qwords, w.before args s = true := fun w h => x7 w (List.mem_cons_of_mem _ h)
  obtain ⟨w1, w2, w3, w4⟩ := hw
  obtain ⟨-, f1⟩ := x8.1 t ht
  have l0 : (qsl t).length < 2147483648 := Nat.lt_trans (qsl_len t ht) (by omega)
  have l1 := qsh_len hs1
  obtain ⟨a1, a2⟩ := q_tn (n := (qsl t).length) g0 (by omega) l0
  obtain ⟨b1, b2⟩ := q_tn (n := n1) g1 (by omega) l1
  obtain ⟨c1', c2⟩ := q_tn (n := (qsl t).length) g2 (by omega) l0
  refine qx_copy (q1 := k1) (t1 := 0) x1 x2 (x3.trans hl.1.symm) x6 (hq _ w1) (hq _ w2) (hq _ w3) (hq _ w4) hK hP hD hS f1 hk12 rfl a1 b1 c1' (by rw [a2, c2]; omega) (by rw [b2, c2]; omega) (by show 1 ≤ d + 1; omega) (by rw [qroom_eq]; have e9 := qnat; show qroom st + (nativeFrameWords "java/lang/System" "arraycopy" 5 + 11) ≤ 64 * (d + 1); omega) hd (fun H1 locs1 hP1 hS1 => ?_)
  have e1 := qws_set (S' := qua S c1 (qcpt S t c1 sp.toNat dp.toNat n.toNat)) hD hk11 (fun a h => qua_off a h)
  rw [qcell_I hs1, qua_on] at e1
  rw [a2, b2, c2] at hP1
  have e2 : va_cpy (fun j => Int32.ofInt ((qsl t).getD j 0)) (fun j => Int32.ofInt (S c1 j)) sp.toNat dp.toNat n.toNat = fun j => Int32.ofInt (qcpt S t c1 sp.toNat dp.toNat n.toNat j) := by
    funext j
    unfold va_cpy qcpt
    split <;> rfl
  rw [e2, e1] at hP1
  exact k p e s m args below meth cd H1 locs1 ls C ⟨hP1, qD_any hD, hK⟩ hS1 hl
theorem q_mono {Q' : Option qV → qSto → Prop} (h : qW X d y bc ml rt pc lv st S Q) (hq : ∀ r S, Q r S → Q' r S) : qW X d y bc ml rt pc lv st S Q' := by
  intro p e s m args below meth c H locs ls C hWd hS hl T hT Xs
  obtain ⟨t, a, o, b1, b2, ⟨⟨r, S1, g1, g2, g3⟩, b3⟩, b4⟩ := h p e s m args below meth c H locs ls C hWd hS hl T hT Xs
  exact ⟨t, a, o, b1, b2, ⟨⟨r, S1, hq r S1 g1, g2, g3⟩, b3⟩, b4⟩
/-! String constants: cell 200 + i, its bytes 300 + i -/
theorem qsbyt_eq : ∀ i, i < 11 → ∀ j, j < 8 → (qsbyt.getD i []).getD j 0 = Int32.ofInt ((qsch.getD i []).getD j 0) := by decide +kernel
theorem qsch_rng : ∀ i, i < 11 → ∀ j, j < 8 → 0 ≤ (qsch.getD i []).getD j 0 ∧ (qsch.getD i []).getD j 0 ≤ 127 := by decide +kernel
theorem qslen_le : ∀ i, i < 11 → qslen.getD i 0 ≤ 7 := by decide +kernel
theorem q_ldcS {idx i : Nat} {tx : String} (hd : decode bc pc = .ok (.ldc idx, 2)) (hy : y.cls = "QuayBerths$Reader") (hi : qskl[i]? = some (idx, tx)) (hp : pc + 2 = pc') (k : qW X d y bc ml rt pc' lv (qr (200 + i) :: st) S Q) : qW X d y bc ml rt pc lv st S Q := by
  subst hp
  intro p e s m args below meth c H locs ls C hWd hS hl
  obtain ⟨x1, x2, x3, x4, x5, x6, x7, x8⟩ := id C
  rw [hy] at x6
  exact va_ldcS x1 x2 x6 (x8.2.2.2.1 i _ hi) hd (k p e s m args below meth c H locs ls C hWd hS hl)
theorem q_getSV {idx i : Nat} (hd : decode bc pc = .ok (.getfield idx, 3)) (hi : i < 11) (hw : Cond.fieldLink y.cls idx "java/lang/String" "value" "[B" ∈ qwords) (hp : pc + 3 = pc') (k : qW X d y bc ml rt pc' lv (qr (300 + i) :: st) S Q) : qW X d y bc ml rt pc lv (qr (200 + i) :: st) S Q := by
  subst hp
  intro p e s m args below meth c H locs ls C hWd hS hl
  obtain ⟨x1, x2, x3, x4, x5, x6, x7, x8⟩ := id C
  exact vk_getf x1 x2 (x8.2.2.1.1 i hi).2.2.1 hS x6 (x7 _ (List.mem_cons_of_mem _ hw)) (fun _ h => h) hd (k p e s m args below meth c H locs ls C hWd hS hl)
theorem q_getSC {idx i : Nat} (hd : decode bc pc = .ok (.getfield idx, 3)) (hi : i < 11) (hw : Cond.fieldLink y.cls idx "java/lang/String" "coder" "B" ∈ qwords) (hp : pc + 3 = pc') (k : qW X d y bc ml rt pc' lv (qi 0 :: st) S Q) : qW X d y bc ml rt pc lv (qr (200 + i) :: st) S Q := by
  subst hp
  intro p e s m args below meth c H locs ls C hWd hS hl
  obtain ⟨x1, x2, x3, x4, x5, x6, x7, x8⟩ := id C
  exact vk_getf x1 x2 (x8.2.2.1.1 i hi).2.1 hS x6 (x7 _ (List.mem_cons_of_mem _ hw)) (fun _ h => h) hd (k p e s m args below meth c H locs ls C hWd hS hl)
theorem q_lenS {i : Nat} (hd : decode bc pc = .ok (.arraylength, 1)) (hi : i < 11) (hp : pc + 1 = pc') (k : qW X d y bc ml rt pc' lv (qi ((qslen.getD i 0 : Nat) : Int) :: st) S Q) : qW X d y bc ml rt pc lv (qr (300 + i) :: st) S Q := by
  subst hp
  intro p e s m args below meth c H locs ls C hWd hS hl
  obtain ⟨x1, x2, x3, x4, x5, x6, x7, x8⟩ := id C
  exact va_tlen x1 x2 (x8.2.2.1.1 i hi).2.2.2 hS (Int32.ofInt_eq_ofNat).symm hd (k p e s m args below meth c H locs ls C hWd hS hl)
theorem q_baS {i : Nat} {j : Int} (hd : decode bc pc = .ok (.baload, 1)) (hi : i < 11) (h0 : 0 ≤ j) (h1 : j < ((qslen.getD i 0 : Nat) : Int)) (hp : pc + 1 = pc') (k : qW X d y bc ml rt pc' lv (qi ((qsch.getD i []).getD j.toNat 0) :: st) S Q) : qW X d y bc ml rt pc lv (qi j :: qr (300 + i) :: st) S Q := by
  subst hp
  intro p e s m args below meth c H locs ls C hWd hS hl
  obtain ⟨x1, x2, x3, x4, x5, x6, x7, x8⟩ := id C
  have hle := qslen_le i hi
  obtain ⟨f1, f2⟩ := q_cl h0 h1 (by omega)
  refine va_tb x1 x2 (x8.2.2.1.1 i hi).2.2.2 hS f1 (v := .int (Int32.ofInt ((qsch.getD i []).getD j.toNat 0))) ?_ hd (k p e s m args below meth c H locs ls C hWd hS hl)
  rw [f2, qsbyt_eq i hi j.toNat (by omega)]
theorem q_getCS {idx : Nat} (hd : decode bc pc = .ok (.getstatic idx, 3)) (hw : Cond.fieldLink y.cls idx "java/lang/String" "COMPACT_STRINGS" "Z" ∈ qwords) (hp : pc + 3 = pc') (k : qW X d y bc ml rt pc' lv (qi 1 :: st) S Q) : qW X d y bc ml rt pc lv st S Q := by
  subst hp
  intro p e s m args below meth c H locs ls C hWd hS hl
  obtain ⟨x1, x2, x3, x4, x5, x6, x7, x8⟩ := id C
  exact va_gets x1 x2 x8.2.2.2.2.1 hS x6 (x7 _ (List.mem_cons_of_mem _ hw)) (fun _ h => h) hd (k p e s m args below meth c H locs ls C hWd hS hl)
theorem q_getFM {idx : Nat} (hd : decode bc pc = .ok (.getstatic idx, 3)) (hw : Cond.fieldLink y.cls idx "jdk/internal/util/Preconditions" "SIOOBE_FORMATTER" "Ljava/util/function/BiFunction;" ∈ qwords) (hp : pc + 3 = pc') (k : ∀ v : Value, v.category = 1 → qW X d y bc ml rt pc' lv (qo v :: st) S Q) : qW X d y bc ml rt pc lv st S Q := by
  subst hp
  intro p e s m args below meth c H locs ls C hWd hS hl
  obtain ⟨x1, x2, x3, x4, x5, x6, x7, x8⟩ := id C
  rcases x8.2.2.2.2.2 with hz | ⟨t, hz⟩
  · exact va_gets x1 x2 hz hS x6 (x7 _ (List.mem_cons_of_mem _ hw)) (fun _ h => h) hd (k .null rfl p e s m args below meth c H locs ls C hWd hS hl)
  · exact va_gets x1 x2 hz hS x6 (x7 _ (List.mem_cons_of_mem _ hw)) (fun _ h => h) hd (k (.ref t) rfl p e s m args below meth c H locs ls C hWd hS hl)
theorem q_i2cE : ∀ n : Fin 128, ((Int32.ofInt ((n.val : Nat) : Int)).toUInt32 % 65536).toInt32 = Int32.ofInt ((n.val : Nat) : Int) := by decide +kernel
theorem q_i2c {a : Int} (hd : decode bc pc = .ok (.i2c, 1)) (h0 : 0 ≤ a) (h1 : a ≤ 127) (hp : pc + 1 = pc') (k : qW X d y bc ml rt pc' lv (qi a :: st) S Q) : qW X d y bc ml rt pc lv (qi a :: st) S Q := by
  subst hp
  refine q_pure k (fun hx hb hl k => lv_i2c hx hb hd ?_ k)
  have h := q_i2cE ⟨a.toNat, by omega⟩
  have e : ((a.toNat : Nat) : Int) = a := by omega
  simp only [e] at h
  exact h
theorem q_narE : ∀ n : Fin 128, narrow .char (.int (Int32.ofInt ((n.val : Nat) : Int))) = .int (Int32.ofInt ((n.val : Nat) : Int)) ∧ narrow .byte (.int (Int32.ofInt ((n.val : Nat) : Int))) = .int (Int32.ofInt ((n.val : Nat) : Int)) := by decide +kernel
theorem q_creturn {v : Int} {ty : FieldType} (hty : ty = .char ∨ ty = .byte) (hd : decode bc pc = .ok (.ireturn, 1)) (hrt : rt = some ty) (h0 : 0 ≤ v) (h1 : v ≤ 127) (hq : Q (some (qi v)) S) : qW X d y bc ml rt pc lv [qi v] S Q := by
  intro p e s m args below meth c H locs ls C hWd hS hl
  obtain ⟨x1, x2, x3, x4, x5, x6, x7, x8⟩ := id C
  have hn : narrow ty (.int (Int32.ofInt v)) = .int (Int32.ofInt v) := by
    have h := q_narE ⟨v.toNat, by omega⟩
    have e : ((v.toNat : Nat) : Int) = v := by omega
    simp only [e] at h
    rcases hty with rfl | rfl
    · exact h.1
    · exact h.2
  exact W.zret (v := Int32.ofInt v) (ty := ty) x1 x2 (by rw [x4, hrt]) hn (fun t ht hW => ⟨⟨some (qi v), S, hq, rfl, by rw [ht]; exact ⟨hWd.1, hWd.2.1, va_K.moved hW.alike hWd.2.2⟩⟩, hS.F ht⟩) hS.2.2 hd (hlocks := x5)
/-- a call on a String constant -/
theorem q_callT {z : MethodName} {bz : ByteArray} {mz idx n i : Nat} {rz : Option FieldType} {as st0 : List qV} {Q' : Option qV → qSto → Prop} (hd : decode bc pc = .ok (.invokevirtual idx, 3)) (hm : qML y.cls idx z bz mz rz n) (hst : st0 = as.reverse ++ qr (200 + i) :: st) (hn : as.length = n) (hi : i < 11) (hcn : z.cls = "java/lang/String") (hr : qroom st ≤ 8)
    (hM : qC X d z bz mz rz (qr (200 + i) :: as) S Q') (hp : pc + 3 = pc') (k : ∀ r S', Q' r S' → qW X (d + 1) y bc ml rt pc' lv (r.toList ++ st) S' Q) : qW X (d + 1) y bc ml rt pc lv st0 S Q := by
  subst hp
  subst hst
  intro p e s m args below meth cd H locs ls C hWd hS hl
  obtain ⟨x1, x2, x3, x4, x5, x6, x7, x8⟩ := id C
  obtain ⟨hP, hD, hK⟩ := id hWd
  obtain ⟨m1, m2, m3, m4, m5, m6, m7⟩ := hm
  have hG : GoodIn (qwm y bc ml rt) (wsV y.cls idx z.cls z (qwm z bz mz rz)) := q_good (fun w hw => by
    simp only [wsV, qwm, List.mem_append, List.mem_cons, List.not_mem_nil, or_false] at hw
    rcases hw with (rfl | rfl | rfl | rfl) | rfl | hw
    · exact m1
    · exact m2
    · exact m3
    · exact m4
    · exact m5
    · exact hw)
  refine q_after C hS hl (va_runV (b := qad X (200 + i)) (As := as.map (qvl X)) (rest := st.map (qvl X)) ⟨x1, x2, x3, x6, x7⟩ hM (cwV n x7 hG rfl rfl rfl ⟨rfl, m6⟩ ⟨Nat.le_refl _, by show 8 + (mz + 11) + 64 * (d + 1) ≤ 64 * (d + 1 + 1); omega⟩) ⟨qPc_blind, ?_, fun U hU hW => ?_⟩ rfl (by rw [List.length_map]; exact hn) (hl.1.trans rfl) (by simp [qvl]) (lv_room (by rw [qroom_eq]; exact hr)) hd ⟨Nat.le_refl _, Nat.le_refl _⟩) k
  · have h9 := vk_recv x8.2.2.1 hi hS
    rw [hcn]
    exact h9
  · exact ⟨by simp [qvl], by rw [hU]; exact ⟨hP, hD, va_K.moved hW.alike hK⟩, x8.at hS hW hU⟩
end QR
