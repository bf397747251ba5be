/-! checks, and what the walks use -/
def qF : Nat := 5000
def qk {α : Type} (b : Bool) (x : Option α) : Option α := if b = true then x else none
theorem qk_some {α : Type} {b : Bool} {x : Option α} {r : α} (h : qk b x = some r) : b = true ∧ x = some r := by
  unfold qk at h
  split at h
  next hb => exact ⟨hb, h⟩
  next => cases h
theorem qk_true {α : Type} {x : Option α} : qk true x = x := rfl
theorem qk_of {α : Type} {b : Bool} {x : Option α} (h : b = true) : qk b x = x := by rw [h]; rfl
def qRb (a : Int) : Bool := decide (-2147483648 ≤ a ∧ a ≤ 2147483647)
def qRLb (a : Int) : Bool := decide (-9223372036854775808 ≤ a ∧ a ≤ 9223372036854775807)
def qIx (i : Int) (n : Nat) : Bool := decide (0 ≤ i ∧ i < (n : Int))
def qNz (a : Int) : Bool := decide (a ≠ 0)
def qZb (a : Int) : Bool := decide (a = 0 ∨ a = 1)
def qBb (a : Int) : Bool := decide (-128 ≤ a ∧ a ≤ 127)
def qAr (c n : Nat) : Bool := decide (qsh c = (1, 0, n) ∧ c < 93)
theorem qRb_R {a : Int} (h : qRb a = true) : qR a := of_decide_eq_true (p := -2147483648 ≤ a ∧ a ≤ 2147483647) h
theorem qRLb_R {a : Int} (h : qRLb a = true) : qRL a := of_decide_eq_true (p := -9223372036854775808 ≤ a ∧ a ≤ 9223372036854775807) h
theorem qIx_0 {i : Int} {n : Nat} (h : qIx i n = true) : 0 ≤ i := (of_decide_eq_true h).1
theorem qIx_1 {i : Int} {n : Nat} (h : qIx i n = true) : i < (n : Int) := (of_decide_eq_true h).2
theorem qNz_ne {a : Int} (h : qNz a = true) : a ≠ 0 := of_decide_eq_true h
theorem qZb_Z {a : Int} (h : qZb a = true) : a = 0 ∨ a = 1 := of_decide_eq_true h
theorem qBb_B {a : Int} (h : qBb a = true) : -128 ≤ a ∧ a ≤ 127 := of_decide_eq_true h
theorem qAr_L {c n : Nat} (h : qAr c n = true) : c < 93 := (of_decide_eq_true h).2
theorem qAr_S {c n : Nat} (h : qAr c n = true) : qsh c = (1, 0, n) := (of_decide_eq_true h).1
theorem qRb_of {a : Int} (h1 : -2147483648 ≤ a) (h2 : a ≤ 2147483647) : qRb a = true := decide_eq_true ⟨h1, h2⟩
theorem qRLb_of {a : Int} (h1 : -9223372036854775808 ≤ a) (h2 : a ≤ 9223372036854775807) : qRLb a = true := decide_eq_true ⟨h1, h2⟩
theorem qIx_of {i : Int} {n : Nat} (h1 : 0 ≤ i) (h2 : i < (n : Int)) : qIx i n = true := decide_eq_true ⟨h1, h2⟩
theorem qNz_of {a : Int} (h : a ≠ 0) : qNz a = true := decide_eq_true h
theorem qZb_of {a : Int} (h : a = 0 ∨ a = 1) : qZb a = true := decide_eq_true h
theorem qBb_of {a : Int} (h1 : -128 ≤ a) (h2 : a ≤ 127) : qBb a = true := decide_eq_true ⟨h1, h2⟩
theorem q_jn {τ ρ : Type} {f : τ → Option ρ} {o : ρ} {A : Option τ} {G : τ → Prop} {P : Prop} (h : A.bind f = some o) (key : ∀ t, f t = some o → G t) (main : ∀ t, A = some t → G t → P) : P := by
  obtain ⟨t, h1, h2⟩ := Option.bind_eq_some_iff.mp h
  exact main t h1 (key t h2)
theorem q_mem {i : Nat} {w : Cond} (h : lw_tbl[i]? = some w) (g : goodWord w = true) : w ∈ qwords := List.mem_filter.mpr ⟨List.mem_of_getElem? h, g⟩
section QS
variable {X : qX} {d : Nat} {y : MethodName} {bc : ByteArray} {ml : Nat} {rt : Option FieldType} {pc pc' : Nat} {lv lv' : qLv} {st : List qV} {S : qSto} {Q : Option qV → qSto → Prop}
theorem q_pick (ks : List Nat) (hl : ks.filterMap (fun k => lv[k]?) = lv') (h : qW X d y bc ml rt pc lv' st S Q) : qW X d y bc ml rt pc lv st S Q := by
  intro p e s m args below meth c H locs ls C hWd hS hv
  refine h p e s m args below meth c H locs ls C hWd hS ⟨hv.1, hv.2.1, fun q hq => ?_⟩
  obtain ⟨q0, h0, rfl⟩ := List.mem_map.mp hq
  rw [← hl] at h0
  obtain ⟨k, -, hk⟩ := List.mem_filterMap.mp h0
  exact hv.2.2 _ (List.mem_map.mpr ⟨q0, List.mem_of_getElem? hk, rfl⟩)
theorem q_entryF {vs : List qV} (hy : plainFor y = true) (hn : qsz vs ≤ ml) (hl : qla 0 vs = lv) (h : qW X d y bc ml rt 0 lv [] S Q) : qC X d y bc ml rt vs S Q := by
  subst hl
  refine va_MetF (cc := bc) (maxL := ml) (ret := rt) hy rfl ?_
  intro p e s m args below meth c s₁ B hml hv
  obtain ⟨rfl, hWd, hEx⟩ := hv
  have hts := atoms_spec (ws := qwm y bc ml rt) B.pre
  have hown : s.vm.findClass y.cls = some m.cls := findClass_of_methodNamed B.named
  have hle := lv_entry (vs.map (qvl X)) (n := ml) (by rw [qsz_sl]; exact hn)
  rw [lg_entry_eq]
  rw [qla_map] at hle
  exact h p e s m _ below meth c s.heap [] _ ⟨B.exec, B.bytes, hml, B.returns, B.notSynchronized, hown, hts, hEx⟩ hWd va_S.rf hle
theorem q_callVi {z : MethodName} {bz : ByteArray} {mz idx n c ci nf : Nat} {rz : Option FieldType} {as st0 : List qV} {q : vw_C} {o : Int × qSto} (hd : decode bc pc = .ok (.invokevirtual idx, 3)) (hm : qML y.cls idx z bz mz rz n) (hst : st0 = as.reverse ++ qr c :: st) (hn : as.length = n) (hc : c ∈ qLs X) (hs : qsh c = (0, ci, nf)) (hcl : vwCl[ci]? = some q) (hcn : q.1 = z.cls) (hr : qroom st ≤ 8) (hM : ∀ Q', Q' (some (qi o.1)) o.2 → qC X d z bz mz rz (qr c :: as) S Q') (hp : pc + 3 = pc') (k : qW X (d + 1) y bc ml rt pc' lv (qi o.1 :: st) o.2 Q) : qW X (d + 1) y bc ml rt pc lv st0 S Q := q_callV hd hm hst hn hc hs hcl hcn hr (hM (fun r S' => r = some (qi o.1) ∧ S' = o.2) ⟨rfl, rfl⟩) hp (fun r S' e => by obtain ⟨rfl, rfl⟩ := e; exact k)
theorem q_callSi {z : MethodName} {bz : ByteArray} {mz idx n : Nat} {rz : Option FieldType} {as st0 : List qV} {o : Int × qSto} (hd : decode bc pc = .ok (.invokestatic idx, 3)) (hm : qMS y.cls idx z bz mz rz n) (hst : st0 = as.reverse ++ st) (hn : as.length = n) (hr : qroom st ≤ 8) (hM : ∀ Q', Q' (some (qi o.1)) o.2 → qC X d z bz mz rz as S Q') (hp : pc + 3 = pc') (k : qW X (d + 1) y bc ml rt pc' lv (qi o.1 :: st) o.2 Q) : qW X (d + 1) y bc ml rt pc lv st0 S Q := q_callS hd hm hst hn hr (hM (fun r S' => r = some (qi o.1) ∧ S' = o.2) ⟨rfl, rfl⟩) hp (fun r S' e => by obtain ⟨rfl, rfl⟩ := e; exact k)
theorem q_callVl {z : MethodName} {bz : ByteArray} {mz idx n c ci nf : Nat} {rz : Option FieldType} {as st0 : List qV} {q : vw_C} {o : Int × qSto} (hd : decode bc pc = .ok (.invokevirtual idx, 3)) (hm : qML y.cls idx z bz mz rz n) (hst : st0 = as.reverse ++ qr c :: st) (hn : as.length = n) (hc : c ∈ qLs X) (hs : qsh c = (0, ci, nf)) (hcl : vwCl[ci]? = some q) (hcn : q.1 = z.cls) (hr : qroom st ≤ 8) (hM : ∀ Q', Q' (some (ql o.1)) o.2 → qC X d z bz mz rz (qr c :: as) S Q') (hp : pc + 3 = pc') (k : qW X (d + 1) y bc ml rt pc' lv (ql o.1 :: st) o.2 Q) : qW X (d + 1) y bc ml rt pc lv st0 S Q := q_callV hd hm hst hn hc hs hcl hcn hr (hM (fun r S' => r = some (ql o.1) ∧ S' = o.2) ⟨rfl, rfl⟩) hp (fun r S' e => by obtain ⟨rfl, rfl⟩ := e; exact k)
theorem q_callSl {z : MethodName} {bz : ByteArray} {mz idx n : Nat} {rz : Option FieldType} {as st0 : List qV} {o : Int × qSto} (hd : decode bc pc = .ok (.invokestatic idx, 3)) (hm : qMS y.cls idx z bz mz rz n) (hst : st0 = as.reverse ++ st) (hn : as.length = n) (hr : qroom st ≤ 8) (hM : ∀ Q', Q' (some (ql o.1)) o.2 → qC X d z bz mz rz as S Q') (hp : pc + 3 = pc') (k : qW X (d + 1) y bc ml rt pc' lv (ql o.1 :: st) o.2 Q) : qW X (d + 1) y bc ml rt pc lv st0 S Q := q_callS hd hm hst hn hr (hM (fun r S' => r = some (ql o.1) ∧ S' = o.2) ⟨rfl, rfl⟩) hp (fun r S' e => by obtain ⟨rfl, rfl⟩ := e; exact k)
theorem q_callVr {z : MethodName} {bz : ByteArray} {mz idx n c ci nf : Nat} {rz : Option FieldType} {as st0 : List qV} {q : vw_C} {o : Nat × qSto} (hd : decode bc pc = .ok (.invokevirtual idx, 3)) (hm : qML y.cls idx z bz mz rz n) (hst : st0 = as.reverse ++ qr c :: st) (hn : as.length = n) (hc : c ∈ qLs X) (hs : qsh c = (0, ci, nf)) (hcl : vwCl[ci]? = some q) (hcn : q.1 = z.cls) (hr : qroom st ≤ 8) (hM : ∀ Q', Q' (some (qr o.1)) o.2 → qC X d z bz mz rz (qr c :: as) S Q') (hp : pc + 3 = pc') (k : qW X (d + 1) y bc ml rt pc' lv (qr o.1 :: st) o.2 Q) : qW X (d + 1) y bc ml rt pc lv st0 S Q := q_callV hd hm hst hn hc hs hcl hcn hr (hM (fun r S' => r = some (qr o.1) ∧ S' = o.2) ⟨rfl, rfl⟩) hp (fun r S' e => by obtain ⟨rfl, rfl⟩ := e; exact k)
theorem q_callSr {z : MethodName} {bz : ByteArray} {mz idx n : Nat} {rz : Option FieldType} {as st0 : List qV} {o : Nat × qSto} (hd : decode bc pc = .ok (.invokestatic idx, 3)) (hm : qMS y.cls idx z bz mz rz n) (hst : st0 = as.reverse ++ st) (hn : as.length = n) (hr : qroom st ≤ 8) (hM : ∀ Q', Q' (some (qr o.1)) o.2 → qC X d z bz mz rz as S Q') (hp : pc + 3 = pc') (k : qW X (d + 1) y bc ml rt pc' lv (qr o.1 :: st) o.2 Q) : qW X (d + 1) y bc ml rt pc lv st0 S Q := q_callS hd hm hst hn hr (hM (fun r S' => r = some (qr o.1) ∧ S' = o.2) ⟨rfl, rfl⟩) hp (fun r S' e => by obtain ⟨rfl, rfl⟩ := e; exact k)
theorem q_callVv {z : MethodName} {bz : ByteArray} {mz idx n c ci nf : Nat} {rz : Option FieldType} {as st0 : List qV} {q : vw_C} {o : qSto} (hd : decode bc pc = .ok (.invokevirtual idx, 3)) (hm : qML y.cls idx z bz mz rz n) (hst : st0 = as.reverse ++ qr c :: st) (hn : as.length = n) (hc : c ∈ qLs X) (hs : qsh c = (0, ci, nf)) (hcl : vwCl[ci]? = some q) (hcn : q.1 = z.cls) (hr : qroom st ≤ 8) (hM : ∀ Q', Q' (none) o → qC X d z bz mz rz (qr c :: as) S Q') (hp : pc + 3 = pc') (k : qW X (d + 1) y bc ml rt pc' lv (st) o Q) : qW X (d + 1) y bc ml rt pc lv st0 S Q := q_callV hd hm hst hn hc hs hcl hcn hr (hM (fun r S' => r = none ∧ S' = o) ⟨rfl, rfl⟩) hp (fun r S' e => by obtain ⟨rfl, rfl⟩ := e; exact k)
theorem q_callSv {z : MethodName} {bz : ByteArray} {mz idx n : Nat} {rz : Option FieldType} {as st0 : List qV} {o : qSto} (hd : decode bc pc = .ok (.invokestatic idx, 3)) (hm : qMS y.cls idx z bz mz rz n) (hst : st0 = as.reverse ++ st) (hn : as.length = n) (hr : qroom st ≤ 8) (hM : ∀ Q', Q' (none) o → qC X d z bz mz rz as S Q') (hp : pc + 3 = pc') (k : qW X (d + 1) y bc ml rt pc' lv (st) o Q) : qW X (d + 1) y bc ml rt pc lv st0 S Q := q_callS hd hm hst hn hr (hM (fun r S' => r = none ∧ S' = o) ⟨rfl, rfl⟩) hp (fun r S' e => by obtain ⟨rfl, rfl⟩ := e; exact k)
def qStr (c : Nat) : Bool := decide (200 ≤ c ∧ c < 211)
theorem qStr_of {c : Nat} (h1 : 200 ≤ c) (h2 : c < 211) : qStr c = true := decide_eq_true ⟨h1, h2⟩
theorem q_callTi {z : MethodName} {bz : ByteArray} {mz idx n c : Nat} {rz : Option FieldType} {as st0 : List qV} {o : Int × qSto} (hd : decode bc pc = .ok (.invokevirtual idx, 3)) (hm : qML y.cls idx z bz mz rz n) (hst : st0 = as.reverse ++ qr c :: st) (hn : as.length = n) (hc : qStr c = true) (hcn : z.cls = "java/lang/String") (hr : qroom st ≤ 8) (hM : ∀ Q', Q' (some (qi o.1)) o.2 → qC X d z bz mz rz (qr c :: as) S Q') (hp : pc + 3 = pc') (k : qW X (d + 1) y bc ml rt pc' lv (qi o.1 :: st) o.2 Q) : qW X (d + 1) y bc ml rt pc lv st0 S Q := by
  obtain ⟨i, rfl⟩ : ∃ i, c = 200 + i := ⟨c - 200, by have := of_decide_eq_true (p := 200 ≤ c ∧ c < 211) hc; omega⟩
  exact q_callT hd hm hst hn (by have := of_decide_eq_true (p := 200 ≤ 200 + i ∧ 200 + i < 211) hc; omega) hcn hr (hM (fun r S' => r = some (qi o.1) ∧ S' = o.2) ⟨rfl, rfl⟩) hp (fun r S' e => by obtain ⟨rfl, rfl⟩ := e; exact k)
end QS
theorem sh_0 : qsh 0 = (0, 11, 15) := rfl
theorem sh_1 : qsh 1 = (1, 1, 1200) := rfl
theorem sh_2 : qsh 2 = (0, 8, 15) := rfl
theorem sh_3 : qsh 3 = (0, 8, 15) := rfl
theorem sh_4 : qsh 4 = (0, 5, 7) := rfl
theorem sh_5 : qsh 5 = (0, 9, 2) := rfl
theorem sh_6 : qsh 6 = (0, 7, 14) := rfl
theorem sh_7 : qsh 7 = (0, 0, 3) := rfl
theorem sh_8 : qsh 8 = (0, 3, 6) := rfl
theorem sh_9 : qsh 9 = (0, 6, 9) := rfl
theorem sh_10 : qsh 10 = (0, 4, 1) := rfl
theorem sh_11 : qsh 11 = (0, 1, 11) := rfl
theorem sh_12 : qsh 12 = (0, 2, 5) := rfl
theorem sh_13 : qsh 13 = (0, 10, 2) := rfl
theorem sh_14 : qsh 14 = (1, 0, 42) := rfl
theorem sh_15 : qsh 15 = (1, 0, 6) := rfl
theorem sh_16 : qsh 16 = (1, 0, 8) := rfl
theorem sh_17 : qsh 17 = (1, 0, 8) := rfl
theorem sh_18 : qsh 18 = (1, 0, 8) := rfl
theorem sh_19 : qsh 19 = (1, 0, 8) := rfl
theorem sh_20 : qsh 20 = (1, 0, 30) := rfl
theorem sh_21 : qsh 21 = (1, 0, 30) := rfl
theorem sh_22 : qsh 22 = (1, 0, 21) := rfl
theorem sh_23 : qsh 23 = (1, 0, 126) := rfl
theorem sh_24 : qsh 24 = (1, 0, 112) := rfl
theorem sh_25 : qsh 25 = (1, 0, 6) := rfl
theorem sh_26 : qsh 26 = (1, 0, 8) := rfl
theorem sh_27 : qsh 27 = (1, 0, 8) := rfl
theorem sh_28 : qsh 28 = (1, 0, 8) := rfl
theorem sh_29 : qsh 29 = (1, 0, 8) := rfl
theorem sh_30 : qsh 30 = (1, 0, 30) := rfl
theorem sh_31 : qsh 31 = (1, 0, 30) := rfl
theorem sh_32 : qsh 32 = (1, 0, 21) := rfl
theorem sh_33 : qsh 33 = (1, 0, 126) := rfl
theorem sh_34 : qsh 34 = (1, 0, 112) := rfl
theorem sh_35 : qsh 35 = (1, 0, 9) := rfl
theorem sh_36 : qsh 36 = (1, 0, 336) := rfl
theorem sh_37 : qsh 37 = (1, 0, 14) := rfl
theorem sh_38 : qsh 38 = (1, 0, 14) := rfl
theorem sh_39 : qsh 39 = (1, 0, 14) := rfl
theorem sh_40 : qsh 40 = (1, 0, 14) := rfl
theorem sh_41 : qsh 41 = (1, 0, 14) := rfl
theorem sh_42 : qsh 42 = (1, 0, 14) := rfl
theorem sh_43 : qsh 43 = (1, 0, 336) := rfl
theorem sh_44 : qsh 44 = (1, 0, 14) := rfl
theorem sh_45 : qsh 45 = (1, 0, 8) := rfl
theorem sh_46 : qsh 46 = (1, 0, 100) := rfl
theorem sh_47 : qsh 47 = (1, 0, 4) := rfl
theorem sh_48 : qsh 48 = (1, 0, 4) := rfl
theorem sh_49 : qsh 49 = (1, 0, 4) := rfl
theorem sh_50 : qsh 50 = (1, 2, 4) := rfl
theorem sh_51 : qsh 51 = (3, 4, 12) := rfl
theorem sh_52 : qsh 52 = (1, 0, 42) := rfl
theorem sh_53 : qsh 53 = (1, 0, 42) := rfl
theorem sh_54 : qsh 54 = (1, 0, 42) := rfl
theorem sh_55 : qsh 55 = (1, 0, 42) := rfl
theorem sh_56 : qsh 56 = (1, 0, 42) := rfl
theorem sh_57 : qsh 57 = (1, 0, 42) := rfl
theorem sh_58 : qsh 58 = (1, 0, 42) := rfl
theorem sh_59 : qsh 59 = (1, 0, 42) := rfl
theorem sh_60 : qsh 60 = (1, 0, 42) := rfl
theorem sh_61 : qsh 61 = (1, 0, 42) := rfl
theorem sh_62 : qsh 62 = (1, 0, 42) := rfl
theorem sh_63 : qsh 63 = (1, 0, 42) := rfl
theorem sh_64 : qsh 64 = (3, 4, 4) := rfl
theorem sh_65 : qsh 65 = (1, 0, 42) := rfl
theorem sh_66 : qsh 66 = (1, 0, 42) := rfl
theorem sh_67 : qsh 67 = (1, 0, 42) := rfl
theorem sh_68 : qsh 68 = (1, 0, 42) := rfl
theorem sh_69 : qsh 69 = (1, 1, 266) := rfl
theorem sh_70 : qsh 70 = (0, 12, 42) := rfl
theorem sh_71 : qsh 71 = (1, 0, 250) := rfl
theorem sh_72 : qsh 72 = (1, 0, 250) := rfl
theorem sh_73 : qsh 73 = (2, 3, 14) := rfl
theorem sh_74 : qsh 74 = (2, 3, 14) := rfl
theorem sh_75 : qsh 75 = (1, 0, 1200) := rfl
theorem sh_76 : qsh 76 = (1, 0, 1000) := rfl
theorem sh_77 : qsh 77 = (1, 0, 336) := rfl
theorem sh_78 : qsh 78 = (1, 0, 14) := rfl
theorem sh_79 : qsh 79 = (1, 0, 14) := rfl
theorem sh_80 : qsh 80 = (1, 0, 14) := rfl
theorem sh_81 : qsh 81 = (1, 0, 14) := rfl
theorem sh_82 : qsh 82 = (1, 0, 14) := rfl
theorem sh_83 : qsh 83 = (1, 0, 8) := rfl
theorem sh_84 : qsh 84 = (1, 0, 100) := rfl
theorem sh_85 : qsh 85 = (1, 0, 756) := rfl
theorem sh_86 : qsh 86 = (1, 2, 4) := rfl
theorem sh_87 : qsh 87 = (1, 0, 14) := rfl
theorem sh_88 : qsh 88 = (1, 0, 14) := rfl
theorem sh_89 : qsh 89 = (1, 0, 4) := rfl
theorem sh_90 : qsh 90 = (1, 0, 4) := rfl
theorem sh_91 : qsh 91 = (1, 0, 4) := rfl
theorem sh_92 : qsh 92 = (1, 0, 300) := rfl
theorem pn_X11 : plainName RX11 = true := by decide +kernel
theorem pn_X0 : plainName RX0 = true := by decide +kernel
theorem pn_X1 : plainName RX1 = true := by decide +kernel
theorem pn_X2 : plainName RX2 = true := by decide +kernel
theorem pn_X3 : plainName RX3 = true := by decide +kernel
theorem pn_X4 : plainName RX4 = true := by decide +kernel
theorem pn_X5 : plainName RX5 = true := by decide +kernel
theorem pn_X6 : plainName RX6 = true := by decide +kernel
theorem pn_X7 : plainName RX7 = true := by decide +kernel
theorem pn_X8 : plainName RX8 = true := by decide +kernel
theorem pn_X9 : plainName RX9 = true := by decide +kernel
theorem pn_X10 : plainName RX10 = true := by decide +kernel
theorem pn_X12 : plainName RX12 = true := by decide +kernel
theorem pn_J6 : plainName RJ6 = true := by decide +kernel
theorem pn_J7 : plainName RJ7 = true := by decide +kernel
theorem pn_J9_min_7cf53 : plainFor yJ9_min_7cf53 = true := by decide +kernel
theorem pn_J9_max_7cf53 : plainFor yJ9_max_7cf53 = true := by decide +kernel
theorem pn_J9_floorDiv_7cf53 : plainFor yJ9_floorDiv_7cf53 = true := by decide +kernel
theorem pn_J9_min_f86c9 : plainFor yJ9_min_f86c9 = true := by decide +kernel
theorem pn_J9_max_f86c9 : plainFor yJ9_max_f86c9 = true := by decide +kernel
theorem pf_1_3 : ∀ q, vwCl[1]? = some q → (q.2.1 3).2.2.2 = false := by
  intro q h
  cases h
  rfl
theorem pt_1_3 : ∀ q, vwCl[1]? = some q → parseFieldDescriptor (q.2.1 3).2.2.1 = some .boolean := by
  intro q h
  cases h
  decide +kernel
theorem pf_1_4 : ∀ q, vwCl[1]? = some q → (q.2.1 4).2.2.2 = false := by
  intro q h
  cases h
  rfl
theorem pt_1_4 : ∀ q, vwCl[1]? = some q → parseFieldDescriptor (q.2.1 4).2.2.1 = some .int := by
  intro q h
  cases h
  decide +kernel
theorem pf_1_5 : ∀ q, vwCl[1]? = some q → (q.2.1 5).2.2.2 = false := by
  intro q h
  cases h
  rfl
theorem pt_1_5 : ∀ q, vwCl[1]? = some q → parseFieldDescriptor (q.2.1 5).2.2.1 = some .int := by
  intro q h
  cases h
  decide +kernel
theorem pf_1_6 : ∀ q, vwCl[1]? = some q → (q.2.1 6).2.2.2 = false := by
  intro q h
  cases h
  rfl
theorem pt_1_6 : ∀ q, vwCl[1]? = some q → parseFieldDescriptor (q.2.1 6).2.2.1 = some .int := by
  intro q h
  cases h
  decide +kernel
theorem pf_2_1 : ∀ q, vwCl[2]? = some q → (q.2.1 1).2.2.2 = false := by
  intro q h
  cases h
  rfl
theorem pt_2_1 : ∀ q, vwCl[2]? = some q → parseFieldDescriptor (q.2.1 1).2.2.1 = some .int := by
  intro q h
  cases h
  decide +kernel
theorem pf_2_2 : ∀ q, vwCl[2]? = some q → (q.2.1 2).2.2.2 = false := by
  intro q h
  cases h
  rfl
theorem pt_2_2 : ∀ q, vwCl[2]? = some q → parseFieldDescriptor (q.2.1 2).2.2.1 = some .int := by
  intro q h
  cases h
  decide +kernel
theorem pf_2_4 : ∀ q, vwCl[2]? = some q → (q.2.1 4).2.2.2 = false := by
  intro q h
  cases h
  rfl
theorem pt_2_4 : ∀ q, vwCl[2]? = some q → parseFieldDescriptor (q.2.1 4).2.2.1 = some .int := by
  intro q h
  cases h
  decide +kernel
theorem pf_3_4 : ∀ q, vwCl[3]? = some q → (q.2.1 4).2.2.2 = false := by
  intro q h
  cases h
  rfl
theorem pt_3_4 : ∀ q, vwCl[3]? = some q → parseFieldDescriptor (q.2.1 4).2.2.1 = some .int := by
  intro q h
  cases h
  decide +kernel
theorem pf_3_5 : ∀ q, vwCl[3]? = some q → (q.2.1 5).2.2.2 = false := by
  intro q h
  cases h
  rfl
theorem pt_3_5 : ∀ q, vwCl[3]? = some q → parseFieldDescriptor (q.2.1 5).2.2.1 = some .int := by
  intro q h
  cases h
  decide +kernel
theorem pf_5_3 : ∀ q, vwCl[5]? = some q → (q.2.1 3).2.2.2 = false := by
  intro q h
  cases h
  rfl
theorem pt_5_3 : ∀ q, vwCl[5]? = some q → parseFieldDescriptor (q.2.1 3).2.2.1 = some .int := by
  intro q h
  cases h
  decide +kernel
theorem pf_5_4 : ∀ q, vwCl[5]? = some q → (q.2.1 4).2.2.2 = false := by
  intro q h
  cases h
  rfl
theorem pt_5_4 : ∀ q, vwCl[5]? = some q → parseFieldDescriptor (q.2.1 4).2.2.1 = some .int := by
  intro q h
  cases h
  decide +kernel
theorem pf_5_5 : ∀ q, vwCl[5]? = some q → (q.2.1 5).2.2.2 = false := by
  intro q h
  cases h
  rfl
theorem pt_5_5 : ∀ q, vwCl[5]? = some q → parseFieldDescriptor (q.2.1 5).2.2.1 = some .int := by
  intro q h
  cases h
  decide +kernel
theorem pf_5_6 : ∀ q, vwCl[5]? = some q → (q.2.1 6).2.2.2 = false := by
  intro q h
  cases h
  rfl
theorem pt_5_6 : ∀ q, vwCl[5]? = some q → parseFieldDescriptor (q.2.1 6).2.2.1 = some .int := by
  intro q h
  cases h
  decide +kernel
theorem pf_6_5 : ∀ q, vwCl[6]? = some q → (q.2.1 5).2.2.2 = false := by
  intro q h
  cases h
  rfl
theorem pt_6_5 : ∀ q, vwCl[6]? = some q → parseFieldDescriptor (q.2.1 5).2.2.1 = some .int := by
  intro q h
  cases h
  decide +kernel
theorem pf_6_6 : ∀ q, vwCl[6]? = some q → (q.2.1 6).2.2.2 = false := by
  intro q h
  cases h
  rfl
theorem pt_6_6 : ∀ q, vwCl[6]? = some q → parseFieldDescriptor (q.2.1 6).2.2.1 = some .int := by
  intro q h
  cases h
  decide +kernel
theorem pf_6_7 : ∀ q, vwCl[6]? = some q → (q.2.1 7).2.2.2 = false := by
  intro q h
  cases h
  rfl
theorem pt_6_7 : ∀ q, vwCl[6]? = some q → parseFieldDescriptor (q.2.1 7).2.2.1 = some .int := by
  intro q h
  cases h
  decide +kernel
theorem pf_6_8 : ∀ q, vwCl[6]? = some q → (q.2.1 8).2.2.2 = false := by
  intro q h
  cases h
  rfl
theorem pt_6_8 : ∀ q, vwCl[6]? = some q → parseFieldDescriptor (q.2.1 8).2.2.1 = some .int := by
  intro q h
  cases h
  decide +kernel
theorem pf_7_10 : ∀ q, vwCl[7]? = some q → (q.2.1 10).2.2.2 = false := by
  intro q h
  cases h
  rfl
theorem pt_7_10 : ∀ q, vwCl[7]? = some q → parseFieldDescriptor (q.2.1 10).2.2.1 = some .int := by
  intro q h
  cases h
  decide +kernel
theorem pf_7_11 : ∀ q, vwCl[7]? = some q → (q.2.1 11).2.2.2 = false := by
  intro q h
  cases h
  rfl
theorem pt_7_11 : ∀ q, vwCl[7]? = some q → parseFieldDescriptor (q.2.1 11).2.2.1 = some .int := by
  intro q h
  cases h
  decide +kernel
theorem pf_7_12 : ∀ q, vwCl[7]? = some q → (q.2.1 12).2.2.2 = false := by
  intro q h
  cases h
  rfl
theorem pt_7_12 : ∀ q, vwCl[7]? = some q → parseFieldDescriptor (q.2.1 12).2.2.1 = some .int := by
  intro q h
  cases h
  decide +kernel
theorem pf_7_13 : ∀ q, vwCl[7]? = some q → (q.2.1 13).2.2.2 = false := by
  intro q h
  cases h
  rfl
theorem pt_7_13 : ∀ q, vwCl[7]? = some q → parseFieldDescriptor (q.2.1 13).2.2.1 = some .int := by
  intro q h
  cases h
  decide +kernel
theorem pf_8_1 : ∀ q, vwCl[8]? = some q → (q.2.1 1).2.2.2 = false := by
  intro q h
  cases h
  rfl
theorem pt_8_1 : ∀ q, vwCl[8]? = some q → parseFieldDescriptor (q.2.1 1).2.2.1 = some .int := by
  intro q h
  cases h
  decide +kernel
theorem pf_8_2 : ∀ q, vwCl[8]? = some q → (q.2.1 2).2.2.2 = false := by
  intro q h
  cases h
  rfl
theorem pt_8_2 : ∀ q, vwCl[8]? = some q → parseFieldDescriptor (q.2.1 2).2.2.1 = some .int := by
  intro q h
  cases h
  decide +kernel
theorem pf_8_5 : ∀ q, vwCl[8]? = some q → (q.2.1 5).2.2.2 = false := by
  intro q h
  cases h
  rfl
theorem pt_8_5 : ∀ q, vwCl[8]? = some q → parseFieldDescriptor (q.2.1 5).2.2.1 = some .int := by
  intro q h
  cases h
  decide +kernel
theorem pf_8_8 : ∀ q, vwCl[8]? = some q → (q.2.1 8).2.2.2 = false := by
  intro q h
  cases h
  rfl
theorem pt_8_8 : ∀ q, vwCl[8]? = some q → parseFieldDescriptor (q.2.1 8).2.2.1 = some .int := by
  intro q h
  cases h
  decide +kernel
theorem pf_8_12 : ∀ q, vwCl[8]? = some q → (q.2.1 12).2.2.2 = false := by
  intro q h
  cases h
  rfl
theorem pt_8_12 : ∀ q, vwCl[8]? = some q → parseFieldDescriptor (q.2.1 12).2.2.1 = some .int := by
  intro q h
  cases h
  decide +kernel
theorem pf_10_1 : ∀ q, vwCl[10]? = some q → (q.2.1 1).2.2.2 = false := by
  intro q h
  cases h
  rfl
theorem pt_10_1 : ∀ q, vwCl[10]? = some q → parseFieldDescriptor (q.2.1 1).2.2.1 = some .int := by
  intro q h
  cases h
  decide +kernel
theorem pf_11_1 : ∀ q, vwCl[11]? = some q → (q.2.1 1).2.2.2 = false := by
  intro q h
  cases h
  rfl
theorem pt_11_1 : ∀ q, vwCl[11]? = some q → parseFieldDescriptor (q.2.1 1).2.2.1 = some .int := by
  intro q h
  cases h
  decide +kernel
theorem pf_12_5 : ∀ q, vwCl[12]? = some q → (q.2.1 5).2.2.2 = false := by
  intro q h
  cases h
  rfl
theorem pt_12_5 : ∀ q, vwCl[12]? = some q → parseFieldDescriptor (q.2.1 5).2.2.1 = some .int := by
  intro q h
  cases h
  decide +kernel
theorem pf_12_6 : ∀ q, vwCl[12]? = some q → (q.2.1 6).2.2.2 = false := by
  intro q h
  cases h
  rfl
theorem pt_12_6 : ∀ q, vwCl[12]? = some q → parseFieldDescriptor (q.2.1 6).2.2.1 = some .int := by
  intro q h
  cases h
  decide +kernel
theorem pf_12_7 : ∀ q, vwCl[12]? = some q → (q.2.1 7).2.2.2 = false := by
  intro q h
  cases h
  rfl
theorem pt_12_7 : ∀ q, vwCl[12]? = some q → parseFieldDescriptor (q.2.1 7).2.2.1 = some .int := by
  intro q h
  cases h
  decide +kernel
theorem pf_12_8 : ∀ q, vwCl[12]? = some q → (q.2.1 8).2.2.2 = false := by
  intro q h
  cases h
  rfl
theorem pt_12_8 : ∀ q, vwCl[12]? = some q → parseFieldDescriptor (q.2.1 8).2.2.1 = some .int := by
  intro q h
  cases h
  decide +kernel
theorem pf_12_9 : ∀ q, vwCl[12]? = some q → (q.2.1 9).2.2.2 = false := by
  intro q h
  cases h
  rfl
theorem pt_12_9 : ∀ q, vwCl[12]? = some q → parseFieldDescriptor (q.2.1 9).2.2.1 = some .int := by
  intro q h
  cases h
  decide +kernel
theorem pf_12_10 : ∀ q, vwCl[12]? = some q → (q.2.1 10).2.2.2 = false := by
  intro q h
  cases h
  rfl
theorem pt_12_10 : ∀ q, vwCl[12]? = some q → parseFieldDescriptor (q.2.1 10).2.2.1 = some .int := by
  intro q h
  cases h
  decide +kernel
theorem pf_12_11 : ∀ q, vwCl[12]? = some q → (q.2.1 11).2.2.2 = false := by
  intro q h
  cases h
  rfl
theorem pt_12_11 : ∀ q, vwCl[12]? = some q → parseFieldDescriptor (q.2.1 11).2.2.1 = some .int := by
  intro q h
  cases h
  decide +kernel
theorem pf_12_12 : ∀ q, vwCl[12]? = some q → (q.2.1 12).2.2.2 = false := by
  intro q h
  cases h
  rfl
theorem pt_12_12 : ∀ q, vwCl[12]? = some q → parseFieldDescriptor (q.2.1 12).2.2.1 = some .int := by
  intro q h
  cases h
  decide +kernel
theorem pf_12_13 : ∀ q, vwCl[12]? = some q → (q.2.1 13).2.2.2 = false := by
  intro q h
  cases h
  rfl
theorem pt_12_13 : ∀ q, vwCl[12]? = some q → parseFieldDescriptor (q.2.1 13).2.2.1 = some .int := by
  intro q h
  cases h
  decide +kernel
theorem pf_12_14 : ∀ q, vwCl[12]? = some q → (q.2.1 14).2.2.2 = false := by
  intro q h
  cases h
  rfl
theorem pt_12_14 : ∀ q, vwCl[12]? = some q → parseFieldDescriptor (q.2.1 14).2.2.1 = some .int := by
  intro q h
  cases h
  decide +kernel
theorem pf_12_15 : ∀ q, vwCl[12]? = some q → (q.2.1 15).2.2.2 = false := by
  intro q h
  cases h
  rfl
theorem pt_12_15 : ∀ q, vwCl[12]? = some q → parseFieldDescriptor (q.2.1 15).2.2.1 = some .int := by
  intro q h
  cases h
  decide +kernel
theorem pf_12_16 : ∀ q, vwCl[12]? = some q → (q.2.1 16).2.2.2 = false := by
  intro q h
  cases h
  rfl
theorem pt_12_16 : ∀ q, vwCl[12]? = some q → parseFieldDescriptor (q.2.1 16).2.2.1 = some .int := by
  intro q h
  cases h
  decide +kernel
theorem pf_12_17 : ∀ q, vwCl[12]? = some q → (q.2.1 17).2.2.2 = false := by
  intro q h
  cases h
  rfl
theorem pt_12_17 : ∀ q, vwCl[12]? = some q → parseFieldDescriptor (q.2.1 17).2.2.1 = some .long := by
  intro q h
  cases h
  decide +kernel
theorem pf_12_27 : ∀ q, vwCl[12]? = some q → (q.2.1 27).2.2.2 = false := by
  intro q h
  cases h
  rfl
theorem pt_12_27 : ∀ q, vwCl[12]? = some q → parseFieldDescriptor (q.2.1 27).2.2.1 = some .int := by
  intro q h
  cases h
  decide +kernel
theorem pf_12_28 : ∀ q, vwCl[12]? = some q → (q.2.1 28).2.2.2 = false := by
  intro q h
  cases h
  rfl
theorem pt_12_28 : ∀ q, vwCl[12]? = some q → parseFieldDescriptor (q.2.1 28).2.2.1 = some .int := by
  intro q h
  cases h
  decide +kernel
theorem pf_12_31 : ∀ q, vwCl[12]? = some q → (q.2.1 31).2.2.2 = false := by
  intro q h
  cases h
  rfl
theorem pt_12_31 : ∀ q, vwCl[12]? = some q → parseFieldDescriptor (q.2.1 31).2.2.1 = some .int := by
  intro q h
  cases h
  decide +kernel
theorem pf_12_37 : ∀ q, vwCl[12]? = some q → (q.2.1 37).2.2.2 = false := by
  intro q h
  cases h
  rfl
theorem pt_12_37 : ∀ q, vwCl[12]? = some q → parseFieldDescriptor (q.2.1 37).2.2.1 = some .int := by
  intro q h
  cases h
  decide +kernel
theorem pf_12_38 : ∀ q, vwCl[12]? = some q → (q.2.1 38).2.2.2 = false := by
  intro q h
  cases h
  rfl
theorem pt_12_38 : ∀ q, vwCl[12]? = some q → parseFieldDescriptor (q.2.1 38).2.2.1 = some .int := by
  intro q h
  cases h
  decide +kernel
theorem pf_12_39 : ∀ q, vwCl[12]? = some q → (q.2.1 39).2.2.2 = false := by
  intro q h
  cases h
  rfl
theorem pt_12_39 : ∀ q, vwCl[12]? = some q → parseFieldDescriptor (q.2.1 39).2.2.1 = some .int := by
  intro q h
  cases h
  decide +kernel
theorem pf_12_41 : ∀ q, vwCl[12]? = some q → (q.2.1 41).2.2.2 = false := by
  intro q h
  cases h
  rfl
theorem pt_12_41 : ∀ q, vwCl[12]? = some q → parseFieldDescriptor (q.2.1 41).2.2.1 = some .int := by
  intro q h
  cases h
  decide +kernel
