/-! the world's addresses and classes, chosen at the law's entry -/
theorem qin_0 : Cond.instantiable RX0 3 ∈ lw_tbl := List.mem_of_getElem? (i := 354) (by decide +kernel)
theorem qin_1 : Cond.instantiable RX1 11 ∈ lw_tbl := List.mem_of_getElem? (i := 449) (by decide +kernel)
theorem qin_2 : Cond.instantiable RX2 5 ∈ lw_tbl := List.mem_of_getElem? (i := 495) (by decide +kernel)
theorem qin_3 : Cond.instantiable RX3 6 ∈ lw_tbl := List.mem_of_getElem? (i := 371) (by decide +kernel)
theorem qin_4 : Cond.instantiable RX4 1 ∈ lw_tbl := List.mem_of_getElem? (i := 439) (by decide +kernel)
theorem qin_5 : Cond.instantiable RX5 7 ∈ lw_tbl := List.mem_of_getElem? (i := 240) (by decide +kernel)
theorem qin_6 : Cond.instantiable RX6 9 ∈ lw_tbl := List.mem_of_getElem? (i := 398) (by decide +kernel)
theorem qin_7 : Cond.instantiable RX7 14 ∈ lw_tbl := List.mem_of_getElem? (i := 284) (by decide +kernel)
theorem qin_8 : Cond.instantiable RX8 15 ∈ lw_tbl := List.mem_of_getElem? (i := 155) (by decide +kernel)
theorem qin_9 : Cond.instantiable RX9 2 ∈ lw_tbl := List.mem_of_getElem? (i := 270) (by decide +kernel)
theorem qin_10 : Cond.instantiable RX10 2 ∈ lw_tbl := List.mem_of_getElem? (i := 522) (by decide +kernel)
theorem qin_11 : Cond.instantiable RX11 15 ∈ lw_tbl := List.mem_of_getElem? (i := 147) (by decide +kernel)
theorem qin_12 : Cond.instantiable RX12 42 ∈ lw_tbl := List.mem_of_getElem? (i := 1327) (by decide +kernel)
section NWD
variable {s : State} {b : Nat}
theorem n_statics (hts : ∀ w ∈ lw_tbl, w.before #[Value.ref b] s = true) (hfl : ∀ w ∈ nFl, w.before #[Value.ref b] s = true) : ∃ t : Nat → Nat, ∀ i, i < 5 → va_Z "QuayBerths" (qsn i) "[I" (.ref (t i)) (fun q => s.heap.size ≤ q) s s.heap ∧ va_T .int (t i) (qsl i).length (fun j => .int (Int32.ofInt ((qsl i).getD j 0))) (fun q => s.heap.size ≤ q) s s.heap := by
  have hA : ∀ a : Nat, a < s.heap.size → ¬ (fun q : Nat => s.heap.size ≤ q) a := fun a h h2 => Nat.not_le.mpr h h2
  have key : ∀ i, ∃ t : Nat, i < 5 → va_Z "QuayBerths" (qsn i) "[I" (.ref t) (fun q => s.heap.size ≤ q) s s.heap ∧ va_T .int t (qsl i).length (fun j => .int (Int32.ofInt ((qsl i).getD j 0))) (fun q => s.heap.size ≤ q) s s.heap := by
    intro i
    by_cases hi : i < 5
    · obtain ⟨t, h1, h2⟩ := va_Tof (args := #[Value.ref b]) (s := s) (tm := .static "QuayBerths" (qsn i) "[I") (ty := .int) (N := (qsl i).length) (f := fun j => .int (Int32.ofInt ((qsl i).getD j 0))) (Nat.lt_trans (qsl_len i hi) (by decide)) (hfl _ (List.mem_of_getElem? (ns_a i hi))) (va_eqt (hfl _ (List.mem_of_getElem? (ns_l i hi)))) (fun j hj => va_eqt (hfl _ (List.mem_of_getElem? (ns_e i hi j hj)))) hA
      exact ⟨t, fun _ => ⟨va_Zref (hts _ (List.mem_of_getElem? (ns_w i hi))) (hts _ nl_q) h1 hA, h2⟩⟩
    · exact ⟨0, fun h => absurd h hi⟩
  exact Classical.axiomOfChoice key
theorem n_strings (hts : ∀ w ∈ lw_tbl, w.before #[Value.ref b] s = true) (hfl : ∀ w ∈ nFl, w.before #[Value.ref b] s = true) : ∃ adK adV : Nat → Nat, vk_S 11 qslen qsbyt adK adV (fun q => s.heap.size ≤ q) s s.heap ∧ ∀ (i : Nat) (q : Nat × String), qskl[i]? = some q → vk_R "QuayBerths$Reader" q.1 q.2 (adK i) s := by
  have hA : ∀ a : Nat, a < s.heap.size → ¬ (fun q : Nat => s.heap.size ≤ q) a := fun a h h2 => Nat.not_le.mpr h h2
  obtain ⟨adK, adV, h1, h2⟩ := vk_Sof (args := #[Value.ref b]) (s := s) (N := 11) (tm := nkT) (len := qslen) (byt := qsbyt) (A := fun q => s.heap.size ≤ q) nk_small (fun i hi => hfl _ (List.mem_of_getElem? (nk_x i hi))) (fun i hi => hfl _ (List.mem_of_getElem? (nk_c i hi))) (fun i hi => hfl _ (List.mem_of_getElem? (nk_a i hi))) (fun i hi => hfl _ (List.mem_of_getElem? (nk_l i hi))) (fun i hi j hj => hfl _ (List.mem_of_getElem? (nk_e i hi j hj))) (fun i j hi hj hij => by
    rcases Nat.lt_or_gt_of_ne hij with h | h
    · exact Or.inl (hfl _ (List.mem_of_getElem? (nk_n j hj i h)))
    · exact Or.inr (hfl _ (List.mem_of_getElem? (nk_n i hi j h)))) hA
  refine ⟨adK, adV, h1, fun i q hq => ?_⟩
  have hi : i < 11 := (List.getElem?_eq_some_iff.mp hq).1
  have e1 := nk_r i hi
  have e2 := nk_i i hi
  rw [hq] at e1 e2
  have e3 : q.1 = nkI.getD i 0 := Option.some.inj e2
  refine vk_R.of (A := #[Value.ref b]) (hts _ (List.mem_of_getElem? e1)) ?_
  rw [e3]
  exact h2 i hi
theorem n_outside (hts : ∀ w ∈ lw_tbl, w.before #[Value.ref b] s = true) (hfl : ∀ w ∈ nFl, w.before #[Value.ref b] s = true) : ∃ t adK adV : Nat → Nat, ∀ X : qX, (∀ i, i < 5 → qad X (100 + i) = t i) → (∀ i, i < 11 → qad X (200 + i) = adK i) → (∀ i, i < 11 → qad X (300 + i) = adV i) → nEx X (fun q => s.heap.size ≤ q) s s.heap := by
  have hA : ∀ a : Nat, a < s.heap.size → ¬ (fun q : Nat => s.heap.size ≤ q) a := fun a h h2 => Nat.not_le.mpr h h2
  obtain ⟨t, ht⟩ := n_statics hts hfl
  obtain ⟨adK, adV, h1, h2⟩ := n_strings hts hfl
  refine ⟨t, adK, adV, fun X a1 a2 a3 => ⟨fun i hi => ?_, fun q hq => ?_, ⟨fun i hi => ?_, fun i j hi hj e => h1.2 i j hi hj (by rw [← a2 i hi, ← a2 j hj]; exact e)⟩, fun i q hq => ?_, ?_, ?_⟩⟩
  · rw [a1 i hi]
    exact ht i hi
  · simp only [qnl, List.mem_cons, List.not_mem_nil, or_false] at hq
    rcases hq with rfl | rfl | rfl | rfl | rfl
    · exact va_Nw.of rfl (hts _ nl_f0)
    · exact va_Nw.of rfl (hts _ nl_f1)
    · exact va_Nw.of rfl (hts _ nl_f2)
    · exact va_Nw.of rfl (hts _ nl_f3)
    · exact va_Nw.of rfl (hts _ nl_f4)
  · have h := h1.1 i hi
    rw [← a2 i hi, ← a3 i hi] at h
    exact h
  · have hi : i < 11 := (List.getElem?_eq_some_iff.mp hq).1
    rw [a2 i hi]
    exact h2 i q hq
  · exact va_Zof (hts _ nl_cs) (hts _ nl_s) (va_eqt (hfl _ (List.mem_of_getElem? nz_c))) hA
  · exact va_Zqof (hts _ nl_fm) (hts _ nl_p) (hfl _ (List.mem_of_getElem? nz_f)) hA
theorem n_classes (hts : ∀ w ∈ lw_tbl, w.before #[Value.ref b] s = true) : ∃ (dC : Nat → ClassId) (dI : Nat → Nat → Nat), ∀ (k : Nat) (q : vw_C), vwCl[k]? = some q → u_Kn s q.1 q.2.1 q.2.2 (dC k) (dI k) := by
  have key : ∀ k : Nat, ∃ x : ClassId × (Nat → Nat), ∀ q : vw_C, vwCl[k]? = some q → u_Kn s q.1 q.2.1 q.2.2 x.1 x.2 := by
    intro k
    match k with
    | 0 =>
      obtain ⟨c, i, h⟩ := u_known (C := RX0) (T := TX0) (N := 3) (n := 3) hts (fun w hw => q_tbl (lay_0 w hw)) (hts _ qin_0)
      exact ⟨(c, i), fun q hq => by cases hq; exact h⟩
    | 1 =>
      obtain ⟨c, i, h⟩ := u_known (C := RX1) (T := TX1) (N := 11) (n := 11) hts (fun w hw => q_tbl (lay_1 w hw)) (hts _ qin_1)
      exact ⟨(c, i), fun q hq => by cases hq; exact h⟩
    | 2 =>
      obtain ⟨c, i, h⟩ := u_known (C := RX2) (T := TX2) (N := 5) (n := 5) hts (fun w hw => q_tbl (lay_2 w hw)) (hts _ qin_2)
      exact ⟨(c, i), fun q hq => by cases hq; exact h⟩
    | 3 =>
      obtain ⟨c, i, h⟩ := u_known (C := RX3) (T := TX3) (N := 6) (n := 6) hts (fun w hw => q_tbl (lay_3 w hw)) (hts _ qin_3)
      exact ⟨(c, i), fun q hq => by cases hq; exact h⟩
    | 4 =>
      obtain ⟨c, i, h⟩ := u_known (C := RX4) (T := TX4) (N := 1) (n := 1) hts (fun w hw => q_tbl (lay_4 w hw)) (hts _ qin_4)
      exact ⟨(c, i), fun q hq => by cases hq; exact h⟩
    | 5 =>
      obtain ⟨c, i, h⟩ := u_known (C := RX5) (T := TX5) (N := 7) (n := 7) hts (fun w hw => q_tbl (lay_5 w hw)) (hts _ qin_5)
      exact ⟨(c, i), fun q hq => by cases hq; exact h⟩
    | 6 =>
      obtain ⟨c, i, h⟩ := u_known (C := RX6) (T := TX6) (N := 9) (n := 9) hts (fun w hw => q_tbl (lay_6 w hw)) (hts _ qin_6)
      exact ⟨(c, i), fun q hq => by cases hq; exact h⟩
    | 7 =>
      obtain ⟨c, i, h⟩ := u_known (C := RX7) (T := TX7) (N := 14) (n := 14) hts (fun w hw => q_tbl (lay_7 w hw)) (hts _ qin_7)
      exact ⟨(c, i), fun q hq => by cases hq; exact h⟩
    | 8 =>
      obtain ⟨c, i, h⟩ := u_known (C := RX8) (T := TX8) (N := 15) (n := 15) hts (fun w hw => q_tbl (lay_8 w hw)) (hts _ qin_8)
      exact ⟨(c, i), fun q hq => by cases hq; exact h⟩
    | 9 =>
      obtain ⟨c, i, h⟩ := u_known (C := RX9) (T := TX9) (N := 2) (n := 2) hts (fun w hw => q_tbl (lay_9 w hw)) (hts _ qin_9)
      exact ⟨(c, i), fun q hq => by cases hq; exact h⟩
    | 10 =>
      obtain ⟨c, i, h⟩ := u_known (C := RX10) (T := TX10) (N := 2) (n := 2) hts (fun w hw => q_tbl (lay_10 w hw)) (hts _ qin_10)
      exact ⟨(c, i), fun q hq => by cases hq; exact h⟩
    | 11 =>
      obtain ⟨c, i, h⟩ := u_known (C := RX11) (T := TX11) (N := 15) (n := 15) hts (fun w hw => q_tbl (lay_11 w hw)) (hts _ qin_11)
      exact ⟨(c, i), fun q hq => by cases hq; exact h⟩
    | 12 =>
      obtain ⟨c, i, h⟩ := u_known (C := RX12) (T := TX12) (N := 42) (n := 42) hts (fun w hw => q_tbl (lay_12 w hw)) (hts _ qin_12)
      exact ⟨(c, i), fun q hq => by cases hq; exact h⟩
    | k + 13 => exact ⟨(0, fun _ => 0), fun q hq => by simp [vwCl] at hq⟩
  obtain ⟨f, hf⟩ := Classical.axiomOfChoice key
  exact ⟨fun k => (f k).1, fun k => (f k).2, fun k q hq => hf k q hq⟩
theorem n_arrOf {ty : FieldType} (h : (Cond.arrayClass ty).before #[Value.ref b] s = true) : ∃ cA : ClassId, ArrOfT s cA ty ∧ s.vm.findClass ("[" ++ ty.toString) = some cA := by
  obtain ⟨cA, kA, comp, h1, h2, h3⟩ := Cond.arrayClass_spec h
  exact ⟨cA, fun n z => ⟨fun k h => (by cases h), kA, h2, comp, h3⟩, h1⟩
theorem n_arrays (hts : ∀ w ∈ lw_tbl, w.before #[Value.ref b] s = true) : ∃ ca : Nat → ClassId, ∀ t, t < 5 → ArrOfT s (ca t) (qty t) ∧ va_RA s (ca t) (qty t) := by
  obtain ⟨c0, p0, q0⟩ := n_arrOf (hts _ (q_tbl qn_226))
  obtain ⟨c1, p1, q1⟩ := n_arrOf (hts _ (q_tbl qn_225))
  obtain ⟨c2, p2, q2⟩ := n_arrOf (hts _ (q_tbl qn_493))
  obtain ⟨c3, p3, q3⟩ := n_arrOf (hts _ (q_tbl qn_1475))
  obtain ⟨cI, c4, kA, g1, g2, g3, g4⟩ := nm_over (hts _ nl_ao)
  refine ⟨fun t => [c0, c1, c2, c3, c4].getD t 0, fun t ht => ?_⟩
  have h : t = 0 ∨ t = 1 ∨ t = 2 ∨ t = 3 ∨ t = 4 := by omega
  rcases h with rfl | rfl | rfl | rfl | rfl
  · exact ⟨p0, q0⟩
  · exact ⟨p1, q1⟩
  · exact ⟨p2, q2⟩
  · exact ⟨p3, q3⟩
  · exact ⟨fun n z => ⟨fun k h => (by cases h), kA, g2, cI, g3⟩, g4⟩
def nLs : List Nat := 70 :: (nLQ ++ [71, 72, 73, 74, 75, 76, 77, 78, 79, 80, 81, 82, 83, 84, 85, 86, 87, 88, 89, 90, 91, 92])
theorem nLs_all : ∀ c, c < 93 → c ∈ nLs := by decide +kernel
theorem nLs_lt : ∀ c ∈ nLs, c < 93 := by decide +kernel
def nad (z : Nat) (t adK adV : Nat → Nat) (c : Nat) : Nat := if c < 70 then z + nol.getD c 0 else if c < 93 then z + c else if c < 200 then t (c - 100) else if c < 300 then adK (c - 200) else adV (c - 300)
/-- the world that the law's run builds -/
theorem n_world (l : Launch) (hts : ∀ w ∈ lw_tbl, w.before #[Value.ref b] s = true) (hgv : (Jvm.Cond.and given_1 narrow_1).before #[Value.ref b] s = true) : ∃ X : qX, X.1 = l ∧ (∀ c, c < 70 → qad X c = s.heap.size + nol.getD c 0) ∧ (∀ c, 70 ≤ c → c < 93 → qad X c = s.heap.size + c) ∧ qLs X = nLs ∧ va_K (qD X) vwCl (qtys X) s ∧ nQE X (fun q => s.heap.size ≤ q) s := by
  obtain ⟨t, adK, adV, hE⟩ := n_outside hts (flat_of_before _ hgv)
  obtain ⟨dC, dI, hC⟩ := n_classes hts
  obtain ⟨ca, hca⟩ := n_arrays hts
  refine ⟨(l, dC, dI, nad s.heap.size t adK adV, ca, nLs), rfl, fun c hc => if_pos hc, fun c h1 h2 => ?_, rfl, ⟨hC, fun k q hq => ?_⟩, hE _ (fun i hi => ?_) (fun i hi => ?_) (fun i hi => ?_), va_Nw.of rfl (hts _ nl_m0), va_Nw.of rfl (hts _ nl_m1), va_Nw.of rfl (hts _ nl_m2), nm_over (hts _ nl_ao)⟩
  · show nad _ _ _ _ c = _
    unfold nad
    rw [if_neg (by omega), if_pos h2]
  · match k with
    | 0 => cases hq; exact hca 0 (by omega)
    | 1 => cases hq; exact hca 1 (by omega)
    | 2 => cases hq; exact hca 2 (by omega)
    | 3 => cases hq; exact hca 3 (by omega)
    | 4 => cases hq; exact hca 4 (by omega)
    | k + 5 => simp [qtys] at hq
  · show nad _ _ _ _ (100 + i) = _
    unfold nad
    rw [if_neg (by omega), if_neg (by omega), if_pos (by omega), Nat.add_sub_cancel_left]
  · show nad _ _ _ _ (200 + i) = _
    unfold nad
    rw [if_neg (by omega), if_neg (by omega), if_neg (by omega), if_pos (by omega), Nat.add_sub_cancel_left]
  · show nad _ _ _ _ (300 + i) = _
    unfold nad
    rw [if_neg (by omega), if_neg (by omega), if_neg (by omega), if_neg (by omega), Nat.add_sub_cancel_left]
end NWD
