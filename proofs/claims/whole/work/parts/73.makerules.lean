/-! THE MAKING: arrays; what stands outside the world -/
/-- what the constructors leave in the slots that hold numbers (the reader's and the reference's last place is -1) -/
def nS0 : qSto := fun c j => if c = 4 then (if j = 6 then -1 else 0) else if c = 70 then (if j = 16 then -1 else 0) else 0
def nws (X : qX) (S : qSto) (L : List Nat) : va_W := L.map (fun c => (qad X c, qcell X S c))
section ND
variable {X : qX} {R : Room} {y : MethodName} {bc : ByteArray} {ml : Nat} {A : Nat → Prop} {sz : Nat} {Ex : State → Prop} {wse ws : va_W} {mc ms pc pc' nc ns : Nat} {lv : qLv} {st : List qV} {S : qSto}
theorem nb_nI {c n : Nat} {v : Int} (hd : decode bc pc = .ok (.newarray .int, 2)) (hw : Cond.arrayClass .int ∈ qwords) (hs : qsh c = (1, 0, n)) (hz : ∀ j, S c j = 0) (hv : v = (n : Int)) (hn : n < 100000) (had : qad X c = sz + nc) (hc : nc + 1 ≤ R.cells) (hsl : ns + n ≤ R.slots) (hp : pc + 2 = pc')
    (k : nbW X R y bc ml A sz Ex wse mc ms pc' lv (qr c :: st) (ws ++ [(qad X c, qcell X S c)]) (nc + 1) (ns + n)) : nbW X R y bc ml A sz Ex wse mc ms pc lv (qi v :: st) ws nc ns :=
  nb_newa (t := 0) (atype := .int) hd hw rfl (fun _ _ h => h) hv hn (by show n * 4 ≤ _; omega) (qcell_I hs) (fun cA => by
    rw [vp_cell_i]
    congr 1
    funext j
    rw [hz]
    rfl) had hc hsl hp k
theorem nb_nB {c n : Nat} {v : Int} (hd : decode bc pc = .ok (.newarray .byte, 2)) (hw : Cond.arrayClass .byte ∈ qwords) (hs : qsh c = (1, 1, n)) (hz : ∀ j, S c j = 0) (hv : v = (n : Int)) (hn : n < 100000) (had : qad X c = sz + nc) (hc : nc + 1 ≤ R.cells) (hsl : ns + n ≤ R.slots) (hp : pc + 2 = pc')
    (k : nbW X R y bc ml A sz Ex wse mc ms pc' lv (qr c :: st) (ws ++ [(qad X c, qcell X S c)]) (nc + 1) (ns + n)) : nbW X R y bc ml A sz Ex wse mc ms pc lv (qi v :: st) ws nc ns :=
  nb_newa (t := 1) (atype := .byte) hd hw rfl (fun _ _ h => h) hv hn (by show n * 1 ≤ _; omega) (qcell_I hs) (fun cA => by
    rw [vp_cell_i]
    congr 1
    funext j
    rw [hz]
    rfl) had hc hsl hp k
theorem nb_nZ {c n : Nat} {v : Int} (hd : decode bc pc = .ok (.newarray .boolean, 2)) (hw : Cond.arrayClass .boolean ∈ qwords) (hs : qsh c = (1, 2, n)) (hz : ∀ j, S c j = 0) (hv : v = (n : Int)) (hn : n < 100000) (had : qad X c = sz + nc) (hc : nc + 1 ≤ R.cells) (hsl : ns + n ≤ R.slots) (hp : pc + 2 = pc')
    (k : nbW X R y bc ml A sz Ex wse mc ms pc' lv (qr c :: st) (ws ++ [(qad X c, qcell X S c)]) (nc + 1) (ns + n)) : nbW X R y bc ml A sz Ex wse mc ms pc lv (qi v :: st) ws nc ns :=
  nb_newa (t := 2) (atype := .boolean) hd hw rfl (fun _ _ h => h) hv hn (by show n * 1 ≤ _; omega) (qcell_I hs) (fun cA => by
    rw [vp_cell_i]
    congr 1
    funext j
    rw [hz]
    rfl) had hc hsl hp k
theorem nb_nL {c n : Nat} {v : Int} (hd : decode bc pc = .ok (.newarray .long, 2)) (hw : Cond.arrayClass .long ∈ qwords) (hs : qsh c = (2, 3, n)) (hz : ∀ j, S c j = 0) (hv : v = (n : Int)) (hn : n < 100000) (had : qad X c = sz + nc) (hc : nc + 1 ≤ R.cells) (hsl : ns + n ≤ R.slots) (hp : pc + 2 = pc')
    (k : nbW X R y bc ml A sz Ex wse mc ms pc' lv (qr c :: st) (ws ++ [(qad X c, qcell X S c)]) (nc + 1) (ns + n)) : nbW X R y bc ml A sz Ex wse mc ms pc lv (qi v :: st) ws nc ns :=
  nb_newa (t := 3) (atype := .long) hd hw rfl (fun _ _ h => h) hv hn (by show n * 8 ≤ _; omega) (qcell_L hs) (fun cA => by
    rw [vp_cell_l]
    congr 1
    funext j
    rw [hz]
    rfl) had hc hsl hp k
/-- cells that lie one behind the other from the heap's end on -/
theorem nb_more {D : va_G} {cl : List vw_C} {wn : va_W} {H : Heap} (hP : va_P D cl ws H) (hD : va_D A ws) (hA : ∀ q, H.size ≤ q → A q) (hn : ∀ (i : Nat) (q : Nat × va_E), wn[i]? = some q → q.1 = H.size + i) : va_D A (ws ++ wn) := by
  have rg : ∀ {k : Nat} {q : Nat × va_E}, (ws ++ wn)[k]? = some q → ws[k]? = some q ∨ ∃ j, k = ws.length + j ∧ wn[j]? = some q := fun {k q} h => by
    by_cases hlt : k < ws.length
    · rw [List.getElem?_append_left hlt] at h; exact Or.inl h
    · rw [List.getElem?_append_right (by omega)] at h; exact Or.inr ⟨k - ws.length, by omega, h⟩
  refine ⟨fun i j p q hi hj hpq => ?_, fun k q hq => ?_⟩
  · rcases rg hi with h1 | ⟨i', rfl, h1⟩ <;> rcases rg hj with h2 | ⟨j', rfl, h2⟩
    · exact hD.1 i j p q h1 h2 hpq
    · have a1 := (hP i p h1).lt
      have a2 := hn j' q h2
      omega
    · have a1 := (hP j q h2).lt
      have a2 := hn i' p h1
      omega
    · have a1 := hn i' p h1
      have a2 := hn j' q h2
      omega
  · rcases rg hq with h1 | ⟨j, rfl, h1⟩
    · exact hD.2 k q h1
    · exact hA _ (by rw [hn j q h1]; omega)
/-- rows of rows -/
theorem nb_nM {c N M idx : Nat} {v w : Int} (hd : decode bc pc = .ok (.multianewarray idx 2, 4)) (h1 : Cond.classLink y.cls idx ("[" ++ (FieldType.array .int).toString) ∈ qwords) (h2 : ∀ U, Ex U → nAO U) (h3 : Cond.arrayClass .int ∈ qwords) (hs : qsh c = (3, 4, N)) (hsi : ∀ j, j < N → qsh (qrf c j) = (1, 0, M)) (hz : ∀ j, j < N → ∀ i, S (qrf c j) i = 0) (hv : v = (N : Int)) (hw : w = (M : Int)) (bN : N < 10000) (bM : M < 10000) (had : qad X c = sz + nc) (hadi : ∀ j, j < N → qad X (qrf c j) = sz + nc + 1 + j) (hc : nc + (1 + N) ≤ R.cells) (hsl : ns + (N + N * M) ≤ R.slots) (hp : pc + 4 = pc')
    (k : nbW X R y bc ml A sz Ex wse mc ms pc' lv (qr c :: st) (ws ++ ((qad X c, qcell X S c) :: (List.range N).map (fun j => (qad X (qrf c j), qcell X S (qrf c j))))) (nc + 1 + N) (ns + N + N * M)) : nbW X R y bc ml A sz Ex wse mc ms pc lv (qi w :: qi v :: st) ws nc ns := by
  subst hp
  intro p e s m args below meth cd H locs ls C hz0 hP hD hS hl
  obtain ⟨x1, x2, x3, x4, x5, x6, x7, x8, x9, x10, x11, x12⟩ := id C
  refine nb_size (fun hz2 => ?_)
  have hsz : H.size = sz + nc := by omega
  obtain ⟨n1, n2⟩ := q_tn (a := v) (n := 10000) (by omega) (by omega) (by omega)
  obtain ⟨n3, n4⟩ := q_tn (a := w) (n := 10000) (by omega) (by omega) (by omega)
  rw [show v.toNat = N by omega] at n2
  rw [show w.toNat = M by omega] at n4
  refine nb_multi x1 x2 x6 (x7 _ h1) (h2 s x12) (x7 _ h3) hd n1 n3 n2 n4 bN bM hc hsl (fun H1 L cA cI f1 f2 f3 f4 f5 f6 f7 => ?_)
  have eA : cA = qca X 4 := Option.some.inj (f1.symm.trans (x8.2 4 _ rfl).2)
  have eI : cI = qca X 0 := Option.some.inj (f2.symm.trans (x8.2 0 _ rfl).2)
  have hk : ∀ (k : Nat) (x : Nat × va_E), ws[k]? = some x → H1[x.1]? = H[x.1]? := fun k x hx => f4 x.1 (hP k x hx).lt
  have hwn : ∀ (i : Nat) (q : Nat × va_E), ((qad X c, qcell X S c) :: (List.range N).map (fun j => (qad X (qrf c j), qcell X S (qrf c j))))[i]? = some q → q.1 = H.size + i ∧ va_at (qD X) vwCl q H1 := by
    intro i q hq
    cases i with
    | zero =>
      cases hq
      refine ⟨by rw [had, hsz]; rfl, ?_⟩
      rw [qcell_A hs]
      show H1[qad X c]? = some (vp_cell _ _)
      rw [had, ← hsz, f5, vp_cell_q, nmO, eA]
      congr 2
      funext j
      by_cases hj : j < N
      · rw [if_pos hj, if_pos hj, hadi j hj, hsz]
        rfl
      · rw [if_neg hj, if_neg hj]
        rfl
    | succ i =>
      rw [List.getElem?_cons_succ, List.getElem?_map] at hq
      by_cases hi : i < N
      · rw [List.getElem?_range hi] at hq
        cases hq
        refine ⟨by show qad X (qrf c i) = _; rw [hadi i hi, hsz]; omega, ?_⟩
        show va_at (qD X) vwCl (qad X (qrf c i), qcell X S (qrf c i)) H1
        rw [qcell_I (hsi i hi)]
        show H1[qad X (qrf c i)]? = some (vp_cell _ _)
        rw [hadi i hi, ← hsz, f6 i hi, vp_cell_i, nmI, eI]
        congr 2
        funext j
        rw [hz i hi]
        rfl
      · rw [List.getElem?_eq_none (by simpa using hi)] at hq
        cases hq
  refine W.eq (g2 := F0 m (pc + 4) ls ((qr c :: st).map (qvl X))) (by simp [qvl, had, hsz]) ?_
  exact k p e s m args below meth cd H1 (locs ++ L) ls C (by omega) ((hP.kept hk).app (fun i q hq => (hwn i q hq).2)) (nb_more hP hD (fun q h => x11 q (by omega)) (fun i q hq => (hwn i q hq).1)) ⟨by omega, fun q g1 g2 => (f4 q (by omega)).trans (hS.2.1 q g1 g2), fun q hq => by
    rcases List.mem_append.mp hq with h | h
    · exact hS.2.2 q h
    · rw [f7 q h]; exact x11 _ (by omega)⟩ hl
end ND
/-! what stands outside, for any free cells -/
def nEx (X : qX) (A : Nat → Prop) (U : State) (H : Heap) : Prop :=
  (∀ i, i < 5 → va_Z "QuayBerths" (qsn i) "[I" (.ref (qad X (100 + i))) A U H ∧ va_T .int (qad X (100 + i)) (qsl i).length (fun j => .int (Int32.ofInt ((qsl i).getD j 0))) A U H) ∧
  (∀ q ∈ qnl, va_Nw (.fieldLinkNest q.1 q.2.1 "QuayBerths" (qsn q.2.2) "[I" "QuayBerths") U) ∧
  vk_S 11 qslen qsbyt (fun i => qad X (200 + i)) (fun i => qad X (300 + i)) A U H ∧
  (∀ (i : Nat) (q : Nat × String), qskl[i]? = some q → vk_R "QuayBerths$Reader" q.1 q.2 (qad X (200 + i)) U) ∧
  va_Z "java/lang/String" "COMPACT_STRINGS" "Z" (.int 1) A U H ∧ va_Zq "jdk/internal/util/Preconditions" "SIOOBE_FORMATTER" "Ljava/util/function/BiFunction;" A U H
theorem nEx_ex {X X' : qX} {A : Nat → Prop} {U : State} {H : Heap} (h : nEx X A U H) (hx : ∀ c, 100 ≤ c → qad X' c = qad X c) (hA : ∀ q, qA X' q → A q) : qEx X' U H := by
  refine ⟨fun i hi => ?_, h.2.1, ?_, fun i q hq => ?_, h.2.2.2.2.1.narrow hA, h.2.2.2.2.2.narrow hA⟩
  · rw [hx (100 + i) (by omega)]
    obtain ⟨h1, h2⟩ := h.1 i hi
    exact ⟨h1.narrow hA, h2.narrow hA⟩
  · have e1 : (fun i => qad X' (200 + i)) = fun i => qad X (200 + i) := funext fun i => hx _ (by omega)
    have e2 : (fun i => qad X' (300 + i)) = fun i => qad X (300 + i) := funext fun i => hx _ (by omega)
    rw [e1, e2]
    exact h.2.2.1.narrow hA
  · rw [hx (200 + i) (by omega)]
    exact h.2.2.2.1 i q hq
theorem nEx.at {X : qX} {A B : Nat → Prop} {s U : State} {locs : List Loc} {H : Heap} (h : nEx X A s s.heap) (hS : va_S B s.heap H locs) (hB : ∀ q, B q → A q) (hW : s.WarmedH U.vm) (hU : U.heap = H) : nEx X A U U.heap := by
  have hS' : ∀ q : Nat, q < s.heap.size → ¬ A q → H[q]? = s.heap[q]? := fun q h1 h2 => hS.2.1 q h1 (fun h3 => h2 (hB q h3))
  refine ⟨fun i hi => ?_, fun q hq => va_Nw.warmF hW (h.2.1 q hq), by rw [hU]; exact vk_S.moved hW.alike (h.2.2.1.kept hS'), fun i q hq => vk_R.warm hW (h.2.2.2.1 i q hq), by rw [hU]; exact va_Z.moved hW.alike (h.2.2.2.2.1.kept hS'), by rw [hU]; exact va_Zq.moved hW.alike (h.2.2.2.2.2.kept hS')⟩
  obtain ⟨h1, h2⟩ := h.1 i hi
  rw [hU]
  exact ⟨va_Z.moved hW.alike (h1.kept hS'), va_T.moved hW.alike (h2.kept hS')⟩
theorem nEx.same {X : qX} {A : Nat → Prop} {u U : State} (h : nEx X A u u.heap) (hv : u.vm = U.vm) (hh : U.heap = u.heap) : nEx X A U U.heap := by
  have ha : u.vm.Alike U.vm := by rw [hv]; exact Vm.Alike.refl _
  refine ⟨fun i hi => ?_, fun q hq => va_Nw.same rfl hv (h.2.1 q hq), by rw [hh]; exact vk_S.moved ha h.2.2.1, fun i q hq => vk_R.same hv.symm (h.2.2.2.1 i q hq), by rw [hh]; exact va_Z.moved ha h.2.2.2.2.1, by rw [hh]; exact va_Zq.moved ha h.2.2.2.2.2⟩
  obtain ⟨h1, h2⟩ := h.1 i hi
  rw [hh]
  exact ⟨va_Z.moved ha h1, va_T.moved ha h2⟩
