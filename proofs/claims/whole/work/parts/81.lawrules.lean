def R_law : String := "QuayBerthsLaw"
def lw_P (b : Addr) (xs : List Int32) (args : Array Value) (s : State) : Prop := args = #[.ref b] ∧ s.IntsAt b xs ∧ xs.length ≤ 3072 ∧ (Jvm.Cond.and given_1 narrow_1).before args s = true
def lw_Q (_ : Array Value) (s : State) (o : Outcome) (t : State) : Prop := o = .returned (some (.int 1)) ∧ Framed s o t [] 600000 7302250
def lw_Z (below : List Frame) (a : Array Value) (s : State) : State → Prop := fun t => ∃ o, t.status = .running ∧ Ended t below o ∧ lw_Q a s o t
/-- the law's own end, with 1 on the stack, nothing written that was there before, its room as the claim has it -/
theorem lw_ret {p : Program} {l : Launch} {e : Env} {s : State} {m : MethodId} {below : List Frame} {meth : Method} {c : Code} {b : Nat} (hx : p.tables.exec = Jvm.exec) (hb : c.code = code) (hr : meth.sig.returnType = ret) (hlocks : meth.locks = false) {pc : Nat} {H : Heap} {ls : Array Slot} (hdg : decode code pc = .ok (.ireturn, 1)) : W p l e room_1 s m #[Value.ref b] below meth c H [] 600000 7302250 (lw_Z below #[Value.ref b] s) (F0 m pc ls [.int 1]) := by
  intro T hT X
  obtain ⟨fs, hret, hrun, hended, hW, hframe⟩ := X.leave (v := some (.int 1)) (hlocks := hlocks) (fun h => by rw [hr] at h; cases h)
  have hmeth' : T.vm.method? m = some meth := X.method'
  refine ⟨T.setFrames fs, ?_, .returned (some (.int 1)), hrun, hended, rfl, ⟨_, rfl⟩, hW, hframe⟩
  jvm_step X.here [X.here.top, hx, hb, hdg, hmeth', hr, ret, narrow_b1]
  (try refine ⟨rfl, ?_⟩); (try refine ⟨rfl, ?_⟩)
  first | (intro acts; rw [hret _ acts rfl rfl rfl]) | rw [hret _ _ rfl rfl rfl]
  exact Steps.refl _
/-- what holds at the law's entry: the machine, the code, the tables' words (any of lw_tbl by 'hts w (by decide +kernel)'), the script of L ints xs at the cell b, what the Statement gives of the start (any of its parts by flat_of_before) -/
def lw_At (p : Program) (s : State) (m : MethodId) (meth : Method) (c : Code) (b L : Nat) (xs : Nat → Int32) : Prop :=
  p.tables.exec = Jvm.exec ∧ c.code = code ∧ meth.sig.returnType = ret ∧ c.maxLocals = 4 ∧ s.vm.findClass R_law = some m.cls ∧ (∀ w ∈ lw_tbl, w.before #[Value.ref b] s = true) ∧ va_X b L xs s s.heap ∧ b < s.heap.size ∧ meth.locks = false ∧ (Jvm.Cond.and given_1 narrow_1).before #[Value.ref b] s = true
/-! THE LAW: the walk of its body, behind the constructors -/
def aX (X : qX) (b L : Nat) (xs : Nat → Int32) (p : Program) (s : State) (m : MethodId) (meth : Method) (c : Code) : Prop :=
  p.tables.exec = Jvm.exec ∧ c.code = cL_law ∧ meth.sig.returnType = ret ∧ c.maxLocals = 4 ∧ s.vm.findClass RL = some m.cls ∧ (∀ w ∈ lw_tbl, w.before #[Value.ref b] s = true) ∧ va_X b L xs s s.heap ∧ b < s.heap.size ∧ meth.locks = false ∧ nEx X (fun q => s.heap.size ≤ q) s s.heap ∧ (∀ q, qA X q → s.heap.size ≤ q)
def aW (X : qX) (b L : Nat) (xs : Nat → Int32) (pc : Nat) (lv : qLv) (st : List qV) (S : qSto) : Prop :=
  ∀ (p : Program) (e : Env) (s : State) (m : MethodId) (below : List Frame) (meth : Method) (c : Code) (H : Heap) (locs : List Loc) (ls : Array Slot),
    aX X b L xs p s m meth c → qWd X S s H → va_S (fun q => s.heap.size ≤ q) s.heap H locs → lv_has ls 4 (qlv X lv) →
    W p X.1 e room_1 s m #[Value.ref b] below meth c H locs 93 8302 (lw_Z below #[Value.ref b] s) (F0 m pc ls (st.map (qvl X)))
section AL
variable {X : qX} {b L : Nat} {xs : Nat → Int32} {pc pc' : Nat} {lv lv' : qLv} {st : List qV} {S : qSto}
theorem a_pure {st' : List qV} (h : aW X b L xs pc' lv st' S) (f : ∀ {p : Program} {e : Env} {R : Room} {s : State} {m : MethodId} {args : Array Value} {below : List Frame} {meth : Method} {c : Code} {H : Heap} {locs : List Loc} {cells slots : Nat} {Qm : State → Prop} {ls : Array Slot}, p.tables.exec = Jvm.exec → c.code = cL_law → lv_has ls 4 (qlv X lv) → W p X.1 e R s m args below meth c H locs cells slots Qm (F0 m pc' ls (st'.map (qvl X))) → W p X.1 e R s m args below meth c H locs cells slots Qm (F0 m pc ls (st.map (qvl X)))) : aW X b L xs pc lv st S := by
  intro p e s m below meth c H locs ls C hWd hS hl
  exact f C.1 C.2.1 hl (h p e s m below meth c H locs ls C hWd hS hl)
theorem a_aloadR {n : Fin 4} {v : Nat} (hd : decode cL_law pc = .ok (.aload_n n, 1)) (hl : lv.lookup (n : Nat) = some (qr v)) (hp : pc + 1 = pc') (k : aW X b L xs pc' lv (qr v :: st) S) : aW X b L xs pc lv st S := by
  subst hp
  exact a_pure k (fun hx hb h k => lv_aload_n hx hb hd rfl (qlocal h hl) k)
theorem a_aloadO {n : Fin 4} {v : Nat} (hd : decode cL_law pc = .ok (.aload_n n, 1)) (hl : lv.lookup (n : Nat) = some (qo (.ref v))) (hp : pc + 1 = pc') (k : aW X b L xs pc' lv (qo (.ref v) :: st) S) : aW X b L xs pc lv st S := by
  subst hp
  exact a_pure k (fun hx hb h k => lv_aload_n hx hb hd rfl (qlocal h hl) k)
theorem a_iload_n {n : Fin 4} {v : Int} (hd : decode cL_law pc = .ok (.iload_n n, 1)) (hl : lv.lookup (n : Nat) = some (qi v)) (hp : pc + 1 = pc') (k : aW X b L xs pc' lv (qi v :: st) S) : aW X b L xs pc lv st S := by
  subst hp
  exact a_pure k (fun hx hb h k => lv_iload_n hx hb hd rfl (qlocal h hl) k)
theorem a_iconst {n v : Int} (hd : decode cL_law pc = .ok (.iconst n, 1)) (hv : n = v) (hp : pc + 1 = pc') (k : aW X b L xs pc' lv (qi v :: st) S) : aW X b L xs pc lv st S := by
  subst hp
  exact a_pure k (fun hx hb hl k => lv_iconst hx hb hd rfl (hv ▸ k))
theorem a_bipush {n : Int} (hd : decode cL_law pc = .ok (.bipush n, 2)) (hv : -128 ≤ n ∧ n ≤ 127) (hp : pc + 2 = pc') (k : aW X b L xs pc' lv (qi n :: st) S) : aW X b L xs pc lv st S := by
  subst hp
  exact a_pure k (fun hx hb hl k => lv_bipush hx hb hd (Int8.toInt32_ofInt (by rw [Int8.toInt_minValue]; have := hv.1; omega) (by rw [Int8.toInt_maxValue]; have := hv.2; omega)) k)
theorem a_iadd {x y : Int} (hd : decode cL_law pc = .ok (.iadd, 1)) (hp : pc + 1 = pc') (k : aW X b L xs pc' lv (qi (x + y) :: st) S) : aW X b L xs pc lv (qi y :: qi x :: st) S := by
  subst hp
  refine a_pure k (fun hx hb hl k => ?_)
  have k : W _ _ _ _ _ _ _ _ _ _ _ _ _ _ _ (F0 _ _ _ (.int (Int32.ofInt (x + y)) :: st.map (qvl X))) := k
  rw [Int32.ofInt_add] at k
  exact lv_iadd hx hb hd k
theorem a_isub {x y : Int} (hd : decode cL_law pc = .ok (.isub, 1)) (hp : pc + 1 = pc') (k : aW X b L xs pc' lv (qi (x - y) :: st) S) : aW X b L xs pc lv (qi y :: qi x :: st) S := by
  subst hp
  refine a_pure k (fun hx hb hl k => ?_)
  have k : W _ _ _ _ _ _ _ _ _ _ _ _ _ _ _ (F0 _ _ _ (.int (Int32.ofInt (x - y)) :: st.map (qvl X))) := k
  rw [Int32.ofInt_sub] at k
  exact lv_isub hx hb hd k
theorem a_R (z : Int32) : qR z.toInt := ⟨by have := Int32.le_toInt z; omega, by have := Int32.toInt_lt z; omega⟩
theorem a_iand {x y : Int} (hd : decode cL_law pc = .ok (.iand, 1)) (hp : pc + 1 = pc') (k : ∀ w : Int, qR w → aW X b L xs pc' lv (qi w :: st) S) : aW X b L xs pc lv (qi y :: qi x :: st) S := by
  subst hp
  refine a_pure (k ((Int32.ofInt x &&& Int32.ofInt y).toInt) (a_R _)) (fun hx hb hl k => ?_)
  have k : W _ _ _ _ _ _ _ _ _ _ _ _ _ _ _ (F0 _ _ _ (.int (Int32.ofInt ((Int32.ofInt x &&& Int32.ofInt y).toInt)) :: st.map (qvl X))) := k
  rw [Int32.ofInt_toInt] at k
  exact lv_iand hx hb hd k
theorem a_goto {off : Int} (hd : decode cL_law pc = .ok (.goto off, 3)) (hp : (pc : Int) + off = (pc' : Int)) (k : aW X b L xs pc' lv st S) : aW X b L xs pc lv st S := a_pure k (fun hx hb hl k => lv_goto hx hb hd hp k)
theorem a_iinc {n : Nat} {z v : Int} (hd : decode cL_law pc = .ok (.iinc n z, 3)) (hn : n < 4) (hl : lv.lookup n = some (qi v)) (hv : qset n (qi (v + z)) lv = lv') (hp : pc + 3 = pc') (k : aW X b L xs pc' lv' st S) : aW X b L xs pc lv st S := by
  subst hp
  subst hv
  intro p e s m below meth c H locs ls C hWd hS h
  obtain ⟨j, hj⟩ := List.getElem?_of_mem (List.mem_map.mpr ⟨(n, qi v), qlook hl, rfl⟩ : (n, Value.int (Int32.ofInt v)) ∈ qlv X lv)
  exact lv_iinc (v := Int32.ofInt (v + z)) C.1 C.2.1 hd h hj (Int32.ofInt_add v z).symm hn (qset_map X n (qi (v + z)) lv) (fun ls hl => k p e s m below meth c H locs ls C hWd hS hl)
theorem a_icmp_eq {x y off : Int} {tgt : Nat} (hd : decode cL_law pc = .ok (.if_icmp .eq off, 3)) (ht : (pc : Int) + off = (tgt : Int)) (h : x = y) (kt : aW X b L xs tgt lv st S) : aW X b L xs pc lv (qi y :: qi x :: st) S := by
  subst h
  exact a_pure kt (fun hx hb hl k => lv_icmp_eq hx hb hd ht (fun _ => k) (fun h => absurd rfl h))
theorem a_icmp_gt {x y off : Int} {tgt : Nat} (hd : decode cL_law pc = .ok (.if_icmp .gt off, 3)) (ht : (pc : Int) + off = (tgt : Int)) (hp : pc + 3 = pc') (ha : qR x) (hb : qR y) (kt : y < x → aW X b L xs tgt lv st S) (kf : ¬ y < x → aW X b L xs pc' lv st S) : aW X b L xs pc lv (qi y :: qi x :: st) S := by
  subst hp
  intro p e s m below meth c H locs ls C hWd hS hl
  exact lv_icmp_gt C.1 C.2.1 hd ht (fun h => kt ((q_lt hb ha).mp h) p e s m below meth c H locs ls C hWd hS hl) (fun h => kf (fun e => h ((q_lt hb ha).mpr e)) p e s m below meth c H locs ls C hWd hS hl)
theorem a_tsw {x dflt lo hi : Int} {offs : Array Int} {len tgt : Nat} (hd : decode cL_law pc = .ok (.tableswitch dflt lo hi offs, len)) (ha : qR x) (ht : (pc : Int) + dflt = (tgt : Int)) (kd : (x < lo ∨ hi < x) → aW X b L xs tgt lv st S)
    (kj : lo ≤ x → x ≤ hi → ∃ (off : Int) (t : Nat), offs[(x - lo).toNat]? = some off ∧ (pc : Int) + off = (t : Int) ∧ aW X b L xs t lv st S) : aW X b L xs pc lv (qi x :: st) S := by
  by_cases h : x < lo ∨ hi < x
  · exact a_pure (kd h) (fun hx hb hl k => lv_tableOut hx hb hd (by rw [q_to ha]; exact h) ht k)
  · obtain ⟨off, t, h1, h2, h3⟩ := kj (by omega) (by omega)
    exact a_pure h3 (fun hx hb hl k => lv_tableIn hx hb hd (by rw [q_to ha]; omega) (by rw [q_to ha]; omega) (by rw [q_to ha]; exact h1) h2 k)
theorem a_slen (hd : decode cL_law pc = .ok (.arraylength, 1)) (hp : pc + 1 = pc') (k : aW X b L xs pc' lv (qi (L : Int) :: st) S) : aW X b L xs pc lv (qo (.ref b) :: st) S := by
  subst hp
  intro p e s m below meth c H locs ls C hWd hS hl
  have k' := k p e s m below meth c H locs ls C hWd hS hl
  obtain ⟨x1, x2, x3, x4, x5, x6, x7, x8, x9, x10, x11⟩ := C
  refine va_slen x1 x2 x7 x8 (Nat.not_le.mpr x8) hS hd ?_
  have k' : W _ _ _ _ _ _ _ _ _ _ _ _ _ _ _ (F0 _ _ _ (.int (Int32.ofInt (L : Int)) :: st.map (qvl X))) := k'
  rw [Int32.ofInt_eq_ofNat] at k'
  exact k'
theorem a_sld {i : Int} (hL : L ≤ 3072) (hd : decode cL_law pc = .ok (.iaload, 1)) (h0 : 0 ≤ i) (h1 : i < (L : Int)) (hp : pc + 1 = pc') (k : aW X b L xs pc' lv (qi (xs i.toNat).toInt :: st) S) : aW X b L xs pc lv (qi i :: qo (.ref b) :: st) S := by
  subst hp
  intro p e s m below meth c H locs ls C hWd hS hl
  have k' := k p e s m below meth c H locs ls C hWd hS hl
  obtain ⟨x1, x2, x3, x4, x5, x6, x7, x8, x9, x10, x11⟩ := C
  obtain ⟨g1, g2⟩ := q_cl (n := L) h0 h1 (by omega)
  refine va_sld x1 x2 x7 x8 (Nat.not_le.mpr x8) hS g1 hd ?_
  rw [g2]
  have k' : W _ _ _ _ _ _ _ _ _ _ _ _ _ _ _ (F0 _ _ _ (.int (Int32.ofInt (xs i.toNat).toInt) :: st.map (qvl X))) := k'
  rw [Int32.ofInt_toInt] at k'
  exact k'
/-- an int of the script: the i-th call's n-th number -/
theorem a_arg {i n : Int} {p1 p2 p3 p4 : Nat} (hL : L ≤ 3072) (d0 : decode cL_law pc = .ok (.aload_n 0, 1)) (d1 : decode cL_law p1 = .ok (.iload_n 3, 1)) (d2 : decode cL_law p2 = .ok (.iconst n, 1)) (d3 : decode cL_law p3 = .ok (.iadd, 1)) (d4 : decode cL_law p4 = .ok (.iaload, 1)) (e1 : pc + 1 = p1) (e2 : p1 + 1 = p2) (e3 : p2 + 1 = p3) (e4 : p3 + 1 = p4) (e5 : p4 + 1 = pc') (l0 : lv.lookup 0 = some (qo (.ref b))) (l3 : lv.lookup 3 = some (qi i)) (h0 : 0 ≤ i + n) (h1 : i + n < (L : Int)) (k : aW X b L xs pc' lv (qi (xs (i + n).toNat).toInt :: st) S) : aW X b L xs pc lv st S :=
  a_aloadO d0 l0 e1 (a_iload_n d1 l3 e2 (a_iconst d2 rfl e3 (a_iadd d3 e4 (a_sld hL d4 h0 h1 e5 k))))
/-- a call of the class or of the reference -/
theorem a_call {z : MethodName} {bz : ByteArray} {mz idx n c ci nf d : Nat} {rz : Option FieldType} {as st0 : List qV} {o : Int × qSto} {q : vw_C} (hd : decode cL_law pc = .ok (.invokevirtual idx, 3)) (hm : qML RL idx z bz mz rz n) (hst : st0 = as.reverse ++ qr c :: st) (hn : as.length = n) (hc : c ∈ qLs X) (hs : qsh c = (0, ci, nf)) (hcl : vwCl[ci]? = some q) (hcn : q.1 = z.cls) (hr : qroom st ≤ 8) (hdd : d ≤ 100)
    (hM : ∀ Q', Q' (some (qi o.1)) o.2 → qC X d z bz mz rz (qr c :: as) S Q') (hp : pc + 3 = pc') (k : aW X b L xs pc' lv (qi o.1 :: st) o.2) : aW X b L xs pc lv st0 S := by
  subst hp
  subst hst
  intro p e s m below meth cd H locs ls C hWd hS hl
  obtain ⟨x1, x2, x3, x4, x5, x6, x7, x8, x9, x10, x11⟩ := id C
  obtain ⟨hP, hD, hK⟩ := id hWd
  obtain ⟨kk, hk1, hk2⟩ := qws_at (X := X) (S := S) hc
  rw [qcell_O hs] at hk2
  obtain ⟨m1, m2, m3, m4, m5, m6, m7⟩ := hm
  have hG : GoodIn lw_tbl (wsV RL idx z.cls z (qwm z bz mz rz)) := fun w hw => by
    have h9 : w ∈ qwords := by
      simp only [wsV, qwm, List.mem_append, List.mem_cons, List.not_mem_nil, or_false] at hw
      rcases hw with (rfl | rfl | rfl | rfl) | rfl | hw
      · exact m1
      · exact m2
      · exact m3
      · exact m4
      · exact m5
      · exact hw
    exact ⟨q_tbl h9, good_of_word (qwords_good h9)⟩
  have hrun := va_runV (p := p) (l := X.1) (e := e) (R := room_1) (s := s) (m := m) (args := #[Value.ref b]) (below := below) (meth := meth) (c := cd) (H := H) (locs := locs) (cells := 93) (slots := 8302) (g := F0 m pc ls ((as.reverse ++ qr c :: st).map (qvl X))) (b := qad X c) (As := as.map (qvl X)) (rest := st.map (qvl X)) ⟨x1, x2, x4, x5, x6⟩ (hM (fun r S' => r = some (qi o.1) ∧ S' = o.2) ⟨rfl, rfl⟩) (cwV n x6 hG rfl rfl rfl ⟨rfl, m6⟩ ⟨by show d + 1 + 1 ≤ 2048; omega, by show 8 + (mz + 11) + 64 * (d + 1) ≤ 84000; omega⟩) ⟨qPc_blind, (by
      have h9 := va_recv hK hP hcl hk2
      rw [hcn] at h9
      exact h9), fun U hU hW => ⟨by simp [qvl], by rw [hU]; exact ⟨hP, hD, va_K.moved hW.alike hK⟩, nEx_ex (x10.at hS (fun _ h => h) hW hU) (fun _ _ => rfl) x11⟩⟩ rfl (by rw [List.length_map]; exact hn) hl.1 (by simp [qvl]) (lv_room (by rw [qroom_eq]; exact hr)) hd ⟨Nat.le_of_ble_eq_true rfl, Nat.le_of_ble_eq_true rfl⟩
  intro T hT Xs
  obtain ⟨v, st₀, t, T', Lo, h0, X'', hLo, e1, e2, ⟨⟨r, S', ⟨hq1, hq2⟩, hv, w1, w2, w3⟩, hz3, hk⟩, st9⟩ := hrun T hT Xs
  subst hq1
  subst hq2
  cases hv
  rw [h0] at hz3 hk
  have hal : s.vm.Alike t.vm := by rw [← e2]; exact X''.warmed.alike
  obtain ⟨t2, a1, b1⟩ := k p e s m below meth cd T'.heap (locs ++ Lo) ls C (by rw [e1]; exact ⟨w1, w2, va_K.moved hal.symm w3⟩) ⟨Nat.le_trans hS.1 (by rw [e1]; exact hz3), fun q h1 h2 => by rw [e1, hk q (Nat.lt_of_lt_of_le h1 hS.1) (fun h => h2 (x11 _ h))]; exact hS.2.1 q h1 h2, fun q hq => by
      rcases List.mem_append.mp hq with h | h
      · exact hS.2.2 q h
      · exact x11 _ (hLo q h)⟩ hl T' rfl X''
  exact ⟨t2, st9 t2 a1, b1⟩
/-- the law's end -/
theorem a_end (hd : decode cL_law pc = .ok (.iconst 1, 1)) (hd2 : decode cL_law (pc + 1) = .ok (.ireturn, 1)) : aW X b L xs pc lv [] S := by
  intro p e s m below meth c H locs ls C hWd hS hl
  obtain ⟨x1, x2, x3, x4, x5, x6, x7, x8, x9, x10, x11⟩ := C
  refine lv_iconst (v := 1) x1 x2 hd (by decide) ?_
  refine va_forget hS.2.2 ?_
  refine W.widen (k := 600000) (n := 7302250) (Nat.le_of_ble_eq_true rfl) (Nat.le_of_ble_eq_true rfl) ?_
  exact lw_ret x1 x2 x3 x9 hd2
end AL
