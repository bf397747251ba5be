set_option maxRecDepth 20000 in
theorem M_isAtWork_ok {X : qX} (hL : ∀ c, c < 93 → c ∈ qLs X) (d : Nat) (a1 : Int) (a2 : Int) (S : qSto) (o : (Int × qSto)) (h : M_isAtWork a1 a2 S = some o) (Q : Option qV → qSto → Prop) (hQ : Q (some (qi o.1)) o.2) : qC X (d + 1) yX12_isAtWork cX12_isAtWork 3 (some .boolean) [qr 70, qi a1, qi a2] S Q := by
  refine q_entry (lv := [(0, qr 70), (1, qi a1), (2, qi a2)]) pn_X12 (Nat.le_of_ble_eq_true rfl) rfl ?_
  unfold M_isAtWork at h
  refine q_aload_n dX12_isAtWork_0 rfl rfl ?_
  refine q_iload_n dX12_isAtWork_1 rfl rfl ?_
  obtain ⟨q2888, h2889, h⟩ := Option.bind_eq_some_iff.mp h
  refine q_callVi (as := [qi a1]) (c := 70) dX12_isAtWork_2 ml_X12_326 rfl rfl (hL 70 (by decide)) sh_70 rfl rfl (Nat.le_of_ble_eq_true rfl) (M_stays_ok hL d a1 _ _ h2889) rfl ?_
  obtain ⟨c2890, h⟩ := qk_some h
  refine q_if_eq (tgt := 39) dX12_isAtWork_5 (by decide) rfl (qRb_R c2890)  (fun g => ?_) (fun g => ?_)
  · rw [if_pos (show q2888.1 = 0 from g)] at h
    refine q_iconst dX12_isAtWork_39 rfl rfl ?_
    cases h
    exact q_zreturn dX12_isAtWork_40 rfl (by decide) hQ
  · rw [if_neg (show ¬ (q2888.1 = 0) from g)] at h
    refine q_iload_n dX12_isAtWork_8 rfl rfl ?_
    refine q_aload_n dX12_isAtWork_9 rfl rfl ?_
    refine q_getA dX12_isAtWork_10 fl_X12_39 (hL 70 (by decide)) sh_70 (by decide) rfl rfl ?_
    refine q_iload_n dX12_isAtWork_13 rfl rfl ?_
    obtain ⟨c2891, h⟩ := qk_some h
    refine q_iaload dX12_isAtWork_14 (hL 79 (by decide)) sh_79 (qIx_0 c2891) (qIx_1 c2891) rfl ?_
    obtain ⟨c2892, h⟩ := qk_some h
    obtain ⟨c2893, h⟩ := qk_some h
    refine q_icmp_lt (tgt := 39) dX12_isAtWork_15 (by decide) rfl (qRb_R c2892) (qRb_R c2893) (fun g => ?_) (fun g => ?_)
    · rw [if_pos (show a2 < (q2888.2 79 (Int.toNat a1)) from g)] at h
      refine q_iconst dX12_isAtWork_39 rfl rfl ?_
      cases h
      exact q_zreturn dX12_isAtWork_40 rfl (by decide) hQ
    · rw [if_neg (show ¬ (a2 < (q2888.2 79 (Int.toNat a1))) from g)] at h
      refine q_iload_n dX12_isAtWork_18 rfl rfl ?_
      refine q_aload_n dX12_isAtWork_19 rfl rfl ?_
      refine q_getA dX12_isAtWork_20 fl_X12_39 (hL 70 (by decide)) sh_70 (by decide) rfl rfl ?_
      refine q_iload_n dX12_isAtWork_23 rfl rfl ?_
      obtain ⟨c2894, h⟩ := qk_some h
      refine q_iaload dX12_isAtWork_24 (hL 79 (by decide)) sh_79 (qIx_0 c2894) (qIx_1 c2894) rfl ?_
      refine q_aload_n dX12_isAtWork_25 rfl rfl ?_
      refine q_getA dX12_isAtWork_26 fl_X12_45 (hL 70 (by decide)) sh_70 (by decide) rfl rfl ?_
      refine q_iload_n dX12_isAtWork_29 rfl rfl ?_
      obtain ⟨c2895, h⟩ := qk_some h
      refine q_iaload dX12_isAtWork_30 (hL 81 (by decide)) sh_81 (qIx_0 c2895) (qIx_1 c2895) rfl ?_
      refine q_iadd dX12_isAtWork_31 rfl ?_
      obtain ⟨c2896, h⟩ := qk_some h
      obtain ⟨c2897, h⟩ := qk_some h
      refine q_icmp_ge (tgt := 39) dX12_isAtWork_32 (by decide) rfl (qRb_R c2896) (qRb_R c2897) (fun g => ?_) (fun g => ?_)
      · rw [if_pos (show ((q2888.2 79 (Int.toNat a1)) + (q2888.2 81 (Int.toNat a1))) ≤ a2 from g)] at h
        refine q_iconst dX12_isAtWork_39 rfl rfl ?_
        cases h
        exact q_zreturn dX12_isAtWork_40 rfl (by decide) hQ
      · rw [if_neg (show ¬ (((q2888.2 79 (Int.toNat a1)) + (q2888.2 81 (Int.toNat a1))) ≤ a2) from g)] at h
        refine q_iconst dX12_isAtWork_35 rfl rfl ?_
        refine q_goto (pc' := 40) dX12_isAtWork_36 (by decide) ?_
        cases h
        exact q_zreturn dX12_isAtWork_40 rfl (by decide) hQ
set_option maxRecDepth 20000 in
theorem M_cranesIn_L4_ok {X : qX} (hL : ∀ c, c < 93 → c ∈ qLs X) (d : Nat) {Q : Option qV → qSto → Prop} : ∀ (n : Nat) (x1 : Int) (x2 : Int) (x3 : Int) (S : qSto) (o : (Int × qSto)), M_cranesIn_L4 n x1 x2 x3 S = some o → (qW X (d + 2) yX12_cranesIn cX12_cranesIn 4 (some .int) 43 [(2, qi o.1)] [] o.2 Q) → qW X (d + 2) yX12_cranesIn cX12_cranesIn 4 (some .int) 4 [(0, qr 70), (1, qi x1), (2, qi x2), (3, qi x3)] [] S Q := by
  intro n
  induction n with
  | zero =>
    intro x1 x2 x3 S o h
    simp [M_cranesIn_L4] at h
  | succ n ih =>
    intro x1 x2 x3 S o h hE
    rw [M_cranesIn_L4] at h
    refine q_iload_n dX12_cranesIn_4 rfl rfl ?_
    refine q_aload_n dX12_cranesIn_5 rfl rfl ?_
    refine q_getA dX12_cranesIn_6 fl_X12_13 (hL 70 (by decide)) sh_70 (by decide) rfl rfl ?_
    refine q_bipush dX12_cranesIn_9 (by decide) rfl ?_
    refine q_iaload dX12_cranesIn_11 (hL 72 (by decide)) sh_72 (by decide) (by decide) rfl ?_
    obtain ⟨c2886, h⟩ := qk_some h
    obtain ⟨c2887, h⟩ := qk_some h
    refine q_icmp_ge (tgt := 43) dX12_cranesIn_12 (by decide) rfl (qRb_R c2886) (qRb_R c2887) (fun g => ?_) (fun g => ?_)
    · rw [if_pos (show (S 72 9) ≤ x3 from g)] at h
      cases h
      exact q_pick [2] rfl (hE)
    · rw [if_neg (show ¬ ((S 72 9) ≤ x3) from g)] at h
      refine q_aload_n dX12_cranesIn_15 rfl rfl ?_
      refine q_iload_n dX12_cranesIn_16 rfl rfl ?_
      refine q_iload_n dX12_cranesIn_17 rfl rfl ?_
      obtain ⟨q2898, h2899, h⟩ := Option.bind_eq_some_iff.mp h
      refine q_callVi (as := [qi x3, qi x1]) (c := 70) dX12_cranesIn_18 ml_X12_337 rfl rfl (hL 70 (by decide)) sh_70 rfl rfl (Nat.le_of_ble_eq_true rfl) (M_isAtWork_ok hL d x3 x1 _ _ h2899) rfl ?_
      refine q_jn (G := fun (t2902 : Int) => qW X (d + 2) yX12_cranesIn cX12_cranesIn 4 (some .int) 36 [(0, qr 70), (1, qi x1), (3, qi x3)] [qi t2902] q2898.2 Q) h (fun t2902 h => ?_) (fun t2902 h hk4239 => ?_)
      · try dsimp only at h
        refine q_istore_n (lv' := [(2, qi t2902), (0, qr 70), (1, qi x1), (3, qi x3)]) dX12_cranesIn_36 (by decide) rfl rfl ?_
        refine q_iinc (lv' := [(3, qi (x3 + 1)), (2, qi t2902), (0, qr 70), (1, qi x1)]) dX12_cranesIn_37 (by decide) rfl rfl rfl ?_
        refine q_goto (pc' := 4) dX12_cranesIn_40 (by decide) ?_
        exact q_pick [2, 3, 1, 0] rfl (ih x1 t2902 (x3 + 1) _ _ h hE)
      · skip
        obtain ⟨c2900, h⟩ := qk_some h
        refine q_if_eq (tgt := 35) dX12_cranesIn_21 (by decide) rfl (qRb_R c2900)  (fun g => ?_) (fun g => ?_)
        · rw [if_pos (show q2898.1 = 0 from g)] at h
          refine q_iload_n dX12_cranesIn_35 rfl rfl ?_
          cases h
          exact q_pick [0, 1, 3] rfl hk4239
        · rw [if_neg (show ¬ (q2898.1 = 0) from g)] at h
          refine q_iload_n dX12_cranesIn_24 rfl rfl ?_
          refine q_aload_n dX12_cranesIn_25 rfl rfl ?_
          refine q_getA dX12_cranesIn_26 fl_X12_42 (hL 70 (by decide)) sh_70 (by decide) rfl rfl ?_
          refine q_iload_n dX12_cranesIn_29 rfl rfl ?_
          obtain ⟨c2901, h⟩ := qk_some h
          refine q_iaload dX12_cranesIn_30 (hL 80 (by decide)) sh_80 (qIx_0 c2901) (qIx_1 c2901) rfl ?_
          refine q_iadd dX12_cranesIn_31 rfl ?_
          refine q_goto (pc' := 36) dX12_cranesIn_32 (by decide) ?_
          cases h
          exact q_pick [0, 1, 3] rfl hk4239
set_option maxRecDepth 20000 in
theorem M_cranesIn_ok {X : qX} (hL : ∀ c, c < 93 → c ∈ qLs X) (d : Nat) (a1 : Int) (S : qSto) (o : (Int × qSto)) (h : M_cranesIn a1 S = some o) (Q : Option qV → qSto → Prop) (hQ : Q (some (qi o.1)) o.2) : qC X (d + 2) yX12_cranesIn cX12_cranesIn 4 (some .int) [qr 70, qi a1] S Q := by
  refine q_entry (lv := [(0, qr 70), (1, qi a1)]) pn_X12 (Nat.le_of_ble_eq_true rfl) rfl ?_
  unfold M_cranesIn at h
  refine q_iconst dX12_cranesIn_0 rfl rfl ?_
  refine q_istore_n (lv' := [(2, qi 0), (0, qr 70), (1, qi a1)]) dX12_cranesIn_1 (by decide) rfl rfl ?_
  refine q_iconst dX12_cranesIn_2 rfl rfl ?_
  refine q_istore_n (lv' := [(3, qi 0), (2, qi 0), (0, qr 70), (1, qi a1)]) dX12_cranesIn_3 (by decide) rfl rfl ?_
  obtain ⟨q2903, h2904, h⟩ := Option.bind_eq_some_iff.mp h
  refine q_pick [2, 3, 1, 0] rfl (M_cranesIn_L4_ok hL d qF a1 0 0 _ _ h2904 ?_)
  refine q_iload_n dX12_cranesIn_43 rfl rfl ?_
  cases h
  exact q_ireturn dX12_cranesIn_44 rfl hQ
set_option maxRecDepth 20000 in
theorem M_hasGangs_L7_ok {X : qX} (hL : ∀ c, c < 93 → c ∈ qLs X) (d : Nat) {Q : Option qV → qSto → Prop} : ∀ (n : Nat) (x1 : Int) (x2 : Int) (S : qSto) (o : (qSto ⊕ (Int × qSto))), M_hasGangs_L7 n x1 x2 S = some o → (∀ t, o = Sum.inl t → qW X (d + 3) yX12_hasGangs cX12_hasGangs 3 (some .boolean) 48 [] [] t Q) → (∀ w, o = Sum.inr w → Q (some (qi w.1)) w.2) → qW X (d + 3) yX12_hasGangs cX12_hasGangs 3 (some .boolean) 7 [(0, qr 70), (1, qi x1), (2, qi x2)] [] S Q := by
  intro n
  induction n with
  | zero =>
    intro x1 x2 S o h
    simp [M_hasGangs_L7] at h
  | succ n ih =>
    intro x1 x2 S o h hE hR
    rw [M_hasGangs_L7] at h
    refine q_iload_n dX12_hasGangs_7 rfl rfl ?_
    refine q_aload_n dX12_hasGangs_8 rfl rfl ?_
    refine q_getA dX12_hasGangs_9 fl_X12_39 (hL 70 (by decide)) sh_70 (by decide) rfl rfl ?_
    refine q_iload_n dX12_hasGangs_12 rfl rfl ?_
    obtain ⟨c2882, h⟩ := qk_some h
    refine q_iaload dX12_hasGangs_13 (hL 79 (by decide)) sh_79 (qIx_0 c2882) (qIx_1 c2882) rfl ?_
    refine q_aload_n dX12_hasGangs_14 rfl rfl ?_
    refine q_getA dX12_hasGangs_15 fl_X12_45 (hL 70 (by decide)) sh_70 (by decide) rfl rfl ?_
    refine q_iload_n dX12_hasGangs_18 rfl rfl ?_
    obtain ⟨c2883, h⟩ := qk_some h
    refine q_iaload dX12_hasGangs_19 (hL 81 (by decide)) sh_81 (qIx_0 c2883) (qIx_1 c2883) rfl ?_
    refine q_iadd dX12_hasGangs_20 rfl ?_
    obtain ⟨c2884, h⟩ := qk_some h
    obtain ⟨c2885, h⟩ := qk_some h
    refine q_icmp_ge (tgt := 48) dX12_hasGangs_21 (by decide) rfl (qRb_R c2884) (qRb_R c2885) (fun g => ?_) (fun g => ?_)
    · rw [if_pos (show ((S 79 (Int.toNat x1)) + (S 81 (Int.toNat x1))) ≤ x2 from g)] at h
      cases h
      exact q_pick [] rfl (hE _ rfl)
    · rw [if_neg (show ¬ (((S 79 (Int.toNat x1)) + (S 81 (Int.toNat x1))) ≤ x2) from g)] at h
      refine q_aload_n dX12_hasGangs_24 rfl rfl ?_
      refine q_iload_n dX12_hasGangs_25 rfl rfl ?_
      obtain ⟨q2905, h2906, h⟩ := Option.bind_eq_some_iff.mp h
      refine q_callVi (as := [qi x2]) (c := 70) dX12_hasGangs_26 ml_X12_358 rfl rfl (hL 70 (by decide)) sh_70 rfl rfl (Nat.le_of_ble_eq_true rfl) (M_cranesIn_ok hL d x2 _ _ h2906) rfl ?_
      refine q_aload_n dX12_hasGangs_29 rfl rfl ?_
      refine q_iload_n dX12_hasGangs_30 rfl rfl ?_
      refine q_bipush dX12_hasGangs_31 (by decide) rfl ?_
      obtain ⟨c2907, h⟩ := qk_some h
      refine q_idiv dX12_hasGangs_33 (qRb_R c2907) ⟨by decide, by decide⟩ (by decide) rfl ?_
      obtain ⟨q2908, h2909, h⟩ := Option.bind_eq_some_iff.mp h
      refine q_callVi (as := [qi (Int.tdiv x2 16)]) (c := 70) dX12_hasGangs_34 ml_X12_289 rfl rfl (hL 70 (by decide)) sh_70 rfl rfl (Nat.le_of_ble_eq_true rfl) (M_gangsBy_ok hL (d + 2) (Int.tdiv x2 16) _ _ h2909) rfl ?_
      obtain ⟨c2910, h⟩ := qk_some h
      obtain ⟨c2911, h⟩ := qk_some h
      refine q_icmp_le (tgt := 42) dX12_hasGangs_37 (by decide) rfl (qRb_R c2910) (qRb_R c2911) (fun g => ?_) (fun g => ?_)
      · rw [if_pos (show q2905.1 ≤ q2908.1 from g)] at h
        refine q_iinc (lv' := [(2, qi (x2 + 1)), (0, qr 70), (1, qi x1)]) dX12_hasGangs_42 (by decide) rfl rfl rfl ?_
        refine q_goto (pc' := 7) dX12_hasGangs_45 (by decide) ?_
        exact q_pick [1, 2, 0] rfl (ih x1 (x2 + 1) _ _ h hE hR)
      · rw [if_neg (show ¬ (q2905.1 ≤ q2908.1) from g)] at h
        refine q_iconst dX12_hasGangs_40 rfl rfl ?_
        cases h
        exact q_zreturn dX12_hasGangs_41 rfl (by decide) (hR _ rfl)
set_option maxRecDepth 20000 in
theorem M_hasGangs_ok {X : qX} (hL : ∀ c, c < 93 → c ∈ qLs X) (d : Nat) (a1 : Int) (S : qSto) (o : (Int × qSto)) (h : M_hasGangs a1 S = some o) (Q : Option qV → qSto → Prop) (hQ : Q (some (qi o.1)) o.2) : qC X (d + 3) yX12_hasGangs cX12_hasGangs 3 (some .boolean) [qr 70, qi a1] S Q := by
  refine q_entry (lv := [(0, qr 70), (1, qi a1)]) pn_X12 (Nat.le_of_ble_eq_true rfl) rfl ?_
  unfold M_hasGangs at h
  refine q_aload_n dX12_hasGangs_0 rfl rfl ?_
  refine q_getA dX12_hasGangs_1 fl_X12_39 (hL 70 (by decide)) sh_70 (by decide) rfl rfl ?_
  refine q_iload_n dX12_hasGangs_4 rfl rfl ?_
  obtain ⟨c2881, h⟩ := qk_some h
  refine q_iaload dX12_hasGangs_5 (hL 79 (by decide)) sh_79 (qIx_0 c2881) (qIx_1 c2881) rfl ?_
  refine q_istore_n (lv' := [(2, qi (S 79 (Int.toNat a1))), (0, qr 70), (1, qi a1)]) dX12_hasGangs_6 (by decide) rfl rfl ?_
  obtain ⟨q2912, h2913, h⟩ := Option.bind_eq_some_iff.mp h
  refine q_pick [1, 2, 0] rfl (M_hasGangs_L7_ok hL d qF a1 (S 79 (Int.toNat a1)) _ _ h2913 (fun t2914 e4240 => ?_) (fun w e4240 => ?_))
  · subst e4240
    simp only [Sum.elim_inl] at h
    refine q_iconst dX12_hasGangs_48 rfl rfl ?_
    cases h
    exact q_zreturn dX12_hasGangs_49 rfl (by decide) hQ
  · subst e4240
    simp only [Sum.elim_inr] at h
    cases h
    exact hQ
set_option maxRecDepth 20000 in
theorem M_nextAtWork_L5_ok {X : qX} (hL : ∀ c, c < 93 → c ∈ qLs X) (d : Nat) {Q : Option qV → qSto → Prop} : ∀ (n : Nat) (x1 : Int) (x2 : Int) (x3 : Int) (x4 : Int) (S : qSto) (o : (Int × qSto)), M_nextAtWork_L5 n x1 x2 x3 x4 S = some o → (qW X (d + 2) yX12_nextAtWork cX12_nextAtWork 5 (some .int) 75 [(3, qi o.1)] [] o.2 Q) → qW X (d + 2) yX12_nextAtWork cX12_nextAtWork 5 (some .int) 5 [(0, qr 70), (1, qi x1), (2, qi x2), (3, qi x3), (4, qi x4)] [] S Q := by
  intro n
  induction n with
  | zero =>
    intro x1 x2 x3 x4 S o h
    simp [M_nextAtWork_L5] at h
  | succ n ih =>
    intro x1 x2 x3 x4 S o h hE
    rw [M_nextAtWork_L5] at h
    refine q_iload dX12_nextAtWork_5 rfl rfl ?_
    refine q_aload_n dX12_nextAtWork_7 rfl rfl ?_
    refine q_getA dX12_nextAtWork_8 fl_X12_13 (hL 70 (by decide)) sh_70 (by decide) rfl rfl ?_
    refine q_bipush dX12_nextAtWork_11 (by decide) rfl ?_
    refine q_iaload dX12_nextAtWork_13 (hL 72 (by decide)) sh_72 (by decide) (by decide) rfl ?_
    obtain ⟨c2927, h⟩ := qk_some h
    obtain ⟨c2928, h⟩ := qk_some h
    refine q_icmp_ge (tgt := 75) dX12_nextAtWork_14 (by decide) rfl (qRb_R c2927) (qRb_R c2928) (fun g => ?_) (fun g => ?_)
    · rw [if_pos (show (S 72 9) ≤ x4 from g)] at h
      cases h
      exact q_pick [3] rfl (hE)
    · rw [if_neg (show ¬ ((S 72 9) ≤ x4) from g)] at h
      refine q_aload_n dX12_nextAtWork_17 rfl rfl ?_
      refine q_iload dX12_nextAtWork_18 rfl rfl ?_
      refine q_iload_n dX12_nextAtWork_20 rfl rfl ?_
      obtain ⟨q2929, h2930, h⟩ := Option.bind_eq_some_iff.mp h
      refine q_callVi (as := [qi x4, qi x1]) (c := 70) dX12_nextAtWork_21 ml_X12_337 rfl rfl (hL 70 (by decide)) sh_70 rfl rfl (Nat.le_of_ble_eq_true rfl) (M_isAtWork_ok hL d x4 x1 _ _ h2930) rfl ?_
      refine q_jn (G := fun (t2941 : Int) => qW X (d + 2) yX12_nextAtWork cX12_nextAtWork 5 (some .int) 69 [(0, qr 70), (1, qi x1), (2, qi x2), (3, qi t2941), (4, qi x4)] [] q2929.2 Q) h (fun t2941 h => ?_) (fun t2941 h hk4241 => ?_)
      · try dsimp only at h
        refine q_iinc (lv' := [(4, qi (x4 + 1)), (0, qr 70), (1, qi x1), (2, qi x2), (3, qi t2941)]) dX12_nextAtWork_69 (by decide) rfl rfl rfl ?_
        refine q_goto (pc' := 5) dX12_nextAtWork_72 (by decide) ?_
        exact q_pick [1, 2, 3, 4, 0] rfl (ih x1 x2 t2941 (x4 + 1) _ _ h hE)
      · skip
        obtain ⟨c2931, h⟩ := qk_some h
        refine q_if_eq (tgt := 69) dX12_nextAtWork_24 (by decide) rfl (qRb_R c2931)  (fun g => ?_) (fun g => ?_)
        · rw [if_pos (show q2929.1 = 0 from g)] at h
          cases h
          exact q_pick [0, 1, 2, 3, 4] rfl hk4241
        · rw [if_neg (show ¬ (q2929.1 = 0) from g)] at h
          refine q_aload_n dX12_nextAtWork_27 rfl rfl ?_
          refine q_getA dX12_nextAtWork_28 fl_X12_36 (hL 70 (by decide)) sh_70 (by decide) rfl rfl ?_
          refine q_iload dX12_nextAtWork_31 rfl rfl ?_
          obtain ⟨c2932, h⟩ := qk_some h
          refine q_iaload dX12_nextAtWork_33 (hL 78 (by decide)) sh_78 (qIx_0 c2932) (qIx_1 c2932) rfl ?_
          refine q_iload_n dX12_nextAtWork_34 rfl rfl ?_
          obtain ⟨c2933, h⟩ := qk_some h
          obtain ⟨c2934, h⟩ := qk_some h
          refine q_icmp_gt (tgt := 41) dX12_nextAtWork_35 (by decide) rfl (qRb_R c2933) (qRb_R c2934) (fun g => ?_) (fun g => ?_)
          · rw [if_pos (show x2 < (q2929.2 78 (Int.toNat x4)) from g)] at h
            refine q_iload_n dX12_nextAtWork_41 rfl rfl ?_
            refine q_iconst dX12_nextAtWork_42 rfl rfl ?_
            refine q_jn (G := fun (t2940 : Int) => qW X (d + 2) yX12_nextAtWork cX12_nextAtWork 5 (some .int) 68 [(0, qr 70), (1, qi x1), (2, qi x2), (4, qi x4)] [qi t2940] q2929.2 Q) h (fun t2940 h => ?_) (fun t2940 h hk4242 => ?_)
            · try dsimp only at h
              refine q_istore_n (lv' := [(3, qi t2940), (0, qr 70), (1, qi x1), (2, qi x2), (4, qi x4)]) dX12_nextAtWork_68 (by decide) rfl rfl ?_
              cases h
              exact q_pick [1, 2, 3, 0, 4] rfl hk4241
            · skip
              obtain ⟨c2935, h⟩ := qk_some h
              refine q_icmp_eq (tgt := 62) dX12_nextAtWork_43 (by decide) rfl (qRb_R c2935) ⟨by decide, by decide⟩ (fun g => ?_) (fun g => ?_)
              · rw [if_pos (show x3 = (-1) from g)] at h
                refine q_iload dX12_nextAtWork_62 rfl rfl ?_
                refine q_goto (pc' := 68) dX12_nextAtWork_64 (by decide) ?_
                cases h
                exact q_pick [0, 1, 2, 4] rfl hk4242
              · rw [if_neg (show ¬ (x3 = (-1)) from g)] at h
                refine q_aload_n dX12_nextAtWork_46 rfl rfl ?_
                refine q_getA dX12_nextAtWork_47 fl_X12_36 (hL 70 (by decide)) sh_70 (by decide) rfl rfl ?_
                refine q_iload dX12_nextAtWork_50 rfl rfl ?_
                obtain ⟨c2936, h⟩ := qk_some h
                refine q_iaload dX12_nextAtWork_52 (hL 78 (by decide)) sh_78 (qIx_0 c2936) (qIx_1 c2936) rfl ?_
                refine q_aload_n dX12_nextAtWork_53 rfl rfl ?_
                refine q_getA dX12_nextAtWork_54 fl_X12_36 (hL 70 (by decide)) sh_70 (by decide) rfl rfl ?_
                refine q_iload_n dX12_nextAtWork_57 rfl rfl ?_
                obtain ⟨c2937, h⟩ := qk_some h
                refine q_iaload dX12_nextAtWork_58 (hL 78 (by decide)) sh_78 (qIx_0 c2937) (qIx_1 c2937) rfl ?_
                obtain ⟨c2938, h⟩ := qk_some h
                obtain ⟨c2939, h⟩ := qk_some h
                refine q_icmp_ge (tgt := 67) dX12_nextAtWork_59 (by decide) rfl (qRb_R c2938) (qRb_R c2939) (fun g => ?_) (fun g => ?_)
                · rw [if_pos (show (q2929.2 78 (Int.toNat x3)) ≤ (q2929.2 78 (Int.toNat x4)) from g)] at h
                  refine q_iload_n dX12_nextAtWork_67 rfl rfl ?_
                  cases h
                  exact q_pick [0, 1, 2, 4] rfl hk4242
                · rw [if_neg (show ¬ ((q2929.2 78 (Int.toNat x3)) ≤ (q2929.2 78 (Int.toNat x4))) from g)] at h
                  refine q_iload dX12_nextAtWork_62 rfl rfl ?_
                  refine q_goto (pc' := 68) dX12_nextAtWork_64 (by decide) ?_
                  cases h
                  exact q_pick [0, 1, 2, 4] rfl hk4242
          · rw [if_neg (show ¬ (x2 < (q2929.2 78 (Int.toNat x4))) from g)] at h
            refine q_goto (pc' := 69) dX12_nextAtWork_38 (by decide) ?_
            cases h
            exact q_pick [0, 1, 2, 3, 4] rfl hk4241
set_option maxRecDepth 20000 in
theorem M_nextAtWork_ok {X : qX} (hL : ∀ c, c < 93 → c ∈ qLs X) (d : Nat) (a1 : Int) (a2 : Int) (S : qSto) (o : (Int × qSto)) (h : M_nextAtWork a1 a2 S = some o) (Q : Option qV → qSto → Prop) (hQ : Q (some (qi o.1)) o.2) : qC X (d + 2) yX12_nextAtWork cX12_nextAtWork 5 (some .int) [qr 70, qi a1, qi a2] S Q := by
  refine q_entry (lv := [(0, qr 70), (1, qi a1), (2, qi a2)]) pn_X12 (Nat.le_of_ble_eq_true rfl) rfl ?_
  unfold M_nextAtWork at h
  refine q_iconst dX12_nextAtWork_0 rfl rfl ?_
  refine q_istore_n (lv' := [(3, qi (-1)), (0, qr 70), (1, qi a1), (2, qi a2)]) dX12_nextAtWork_1 (by decide) rfl rfl ?_
  refine q_iconst dX12_nextAtWork_2 rfl rfl ?_
  refine q_istore (lv' := [(4, qi 0), (3, qi (-1)), (0, qr 70), (1, qi a1), (2, qi a2)]) dX12_nextAtWork_3 (by decide) rfl rfl ?_
  obtain ⟨q2942, h2943, h⟩ := Option.bind_eq_some_iff.mp h
  refine q_pick [2, 3, 4, 1, 0] rfl (M_nextAtWork_L5_ok hL d qF a1 a2 (-1) 0 _ _ h2943 ?_)
  refine q_iload_n dX12_nextAtWork_75 rfl rfl ?_
  cases h
  exact q_ireturn dX12_nextAtWork_76 rfl hQ
set_option maxRecDepth 20000 in
theorem M_reaches_ok {X : qX} (hL : ∀ c, c < 93 → c ∈ qLs X) (d : Nat) (a1 : Int) (a2 : Int) (S : qSto) (o : (Int × qSto)) (h : M_reaches a1 a2 S = some o) (Q : Option qV → qSto → Prop) (hQ : Q (some (qi o.1)) o.2) : qC X (d + 1) yX12_reaches cX12_reaches 3 (some .boolean) [qr 70, qi a1, qi a2] S Q := by
  refine q_entry (lv := [(0, qr 70), (1, qi a1), (2, qi a2)]) pn_X12 (Nat.le_of_ble_eq_true rfl) rfl ?_
  unfold M_reaches at h
  refine q_aload_n dX12_reaches_0 rfl rfl ?_
  refine q_getA dX12_reaches_1 fl_X12_13 (hL 70 (by decide)) sh_70 (by decide) rfl rfl ?_
  refine q_bipush dX12_reaches_4 (by decide) rfl ?_
  refine q_iload_n dX12_reaches_6 rfl rfl ?_
  refine q_iadd dX12_reaches_7 rfl ?_
  obtain ⟨c2952, h⟩ := qk_some h
  refine q_iaload dX12_reaches_8 (hL 72 (by decide)) sh_72 (qIx_0 c2952) (qIx_1 c2952) rfl ?_
  refine q_aload_n dX12_reaches_9 rfl rfl ?_
  refine q_getA dX12_reaches_10 fl_X12_36 (hL 70 (by decide)) sh_70 (by decide) rfl rfl ?_
  refine q_iload_n dX12_reaches_13 rfl rfl ?_
  obtain ⟨c2953, h⟩ := qk_some h
  refine q_iaload dX12_reaches_14 (hL 78 (by decide)) sh_78 (qIx_0 c2953) (qIx_1 c2953) rfl ?_
  refine q_aload_n dX12_reaches_15 rfl rfl ?_
  refine q_iload_n dX12_reaches_16 rfl rfl ?_
  refine q_iconst dX12_reaches_17 rfl rfl ?_
  obtain ⟨q2954, h2955, h⟩ := Option.bind_eq_some_iff.mp h
  refine q_callVi (as := [qi a2, qi 0]) (c := 70) dX12_reaches_18 ml_X12_316 rfl rfl (hL 70 (by decide)) sh_70 rfl rfl (Nat.le_of_ble_eq_true rfl) (M_of_ok hL d a2 0 _ _ h2955) rfl ?_
  refine q_iadd dX12_reaches_21 rfl ?_
  refine q_iconst dX12_reaches_22 rfl rfl ?_
  refine q_isub dX12_reaches_23 rfl ?_
  obtain ⟨c2956, h⟩ := qk_some h
  obtain ⟨c2957, h⟩ := qk_some h
  refine q_icmp_gt (tgt := 49) dX12_reaches_24 (by decide) rfl (qRb_R c2956) (qRb_R c2957) (fun g => ?_) (fun g => ?_)
  · rw [if_pos (show (((S 78 (Int.toNat a2)) + q2954.1) - 1) < (S 72 (Int.toNat (27 + a1))) from g)] at h
    refine q_iconst dX12_reaches_49 rfl rfl ?_
    cases h
    exact q_zreturn dX12_reaches_50 rfl (by decide) hQ
  · rw [if_neg (show ¬ ((((S 78 (Int.toNat a2)) + q2954.1) - 1) < (S 72 (Int.toNat (27 + a1)))) from g)] at h
    refine q_aload_n dX12_reaches_27 rfl rfl ?_
    refine q_getA dX12_reaches_28 fl_X12_13 (hL 70 (by decide)) sh_70 (by decide) rfl rfl ?_
    refine q_bipush dX12_reaches_31 (by decide) rfl ?_
    refine q_iload_n dX12_reaches_33 rfl rfl ?_
    refine q_iadd dX12_reaches_34 rfl ?_
    obtain ⟨c2958, h⟩ := qk_some h
    refine q_iaload dX12_reaches_35 (hL 72 (by decide)) sh_72 (qIx_0 c2958) (qIx_1 c2958) rfl ?_
    refine q_aload_n dX12_reaches_36 rfl rfl ?_
    refine q_getA dX12_reaches_37 fl_X12_36 (hL 70 (by decide)) sh_70 (by decide) rfl rfl ?_
    refine q_iload_n dX12_reaches_40 rfl rfl ?_
    obtain ⟨c2959, h⟩ := qk_some h
    refine q_iaload dX12_reaches_41 (hL 78 (by decide)) sh_78 (qIx_0 c2959) (qIx_1 c2959) rfl ?_
    obtain ⟨c2960, h⟩ := qk_some h
    obtain ⟨c2961, h⟩ := qk_some h
    refine q_icmp_lt (tgt := 49) dX12_reaches_42 (by decide) rfl (qRb_R c2960) (qRb_R c2961) (fun g => ?_) (fun g => ?_)
    · rw [if_pos (show (q2954.2 72 (Int.toNat (35 + a1))) < (q2954.2 78 (Int.toNat a2)) from g)] at h
      refine q_iconst dX12_reaches_49 rfl rfl ?_
      cases h
      exact q_zreturn dX12_reaches_50 rfl (by decide) hQ
    · rw [if_neg (show ¬ ((q2954.2 72 (Int.toNat (35 + a1))) < (q2954.2 78 (Int.toNat a2))) from g)] at h
      refine q_iconst dX12_reaches_45 rfl rfl ?_
      refine q_goto (pc' := 50) dX12_reaches_46 (by decide) ?_
      cases h
      exact q_zreturn dX12_reaches_50 rfl (by decide) hQ
set_option maxRecDepth 20000 in
theorem M_takesCranes_L11_ok {X : qX} (hL : ∀ c, c < 93 → c ∈ qLs X) (d : Nat) {Q : Option qV → qSto → Prop} : ∀ (n : Nat) (x1 : Int) (x3 : Int) (x4 : Int) (x5 : Int) (S : qSto) (o : (qSto ⊕ (Int × qSto))), M_takesCranes_L11 n x1 x3 x4 x5 S = some o → (∀ t, o = Sum.inl t → qW X (d + 2) yX12_takesCranes cX12_takesCranes 6 (some .int) 72 [] [] t Q) → (∀ w, o = Sum.inr w → Q (some (qi w.1)) w.2) → qW X (d + 2) yX12_takesCranes cX12_takesCranes 6 (some .int) 11 [(0, qr 70), (1, qi x1), (3, qi x3), (4, qi x4), (5, qi x5)] [] S Q := by
  intro n
  induction n with
  | zero =>
    intro x1 x3 x4 x5 S o h
    simp [M_takesCranes_L11] at h
  | succ n ih =>
    intro x1 x3 x4 x5 S o h hE hR
    rw [M_takesCranes_L11] at h
    refine q_iload dX12_takesCranes_11 rfl rfl ?_
    refine q_aload_n dX12_takesCranes_13 rfl rfl ?_
    refine q_getA dX12_takesCranes_14 fl_X12_13 (hL 70 (by decide)) sh_70 (by decide) rfl rfl ?_
    refine q_bipush dX12_takesCranes_17 (by decide) rfl ?_
    refine q_iaload dX12_takesCranes_19 (hL 72 (by decide)) sh_72 (by decide) (by decide) rfl ?_
    obtain ⟨c2948, h⟩ := qk_some h
    obtain ⟨c2949, h⟩ := qk_some h
    refine q_icmp_ge (tgt := 72) dX12_takesCranes_20 (by decide) rfl (qRb_R c2948) (qRb_R c2949) (fun g => ?_) (fun g => ?_)
    · rw [if_pos (show (S 72 7) ≤ x5 from g)] at h
      cases h
      exact q_pick [] rfl (hE _ rfl)
    · rw [if_neg (show ¬ ((S 72 7) ≤ x5) from g)] at h
      refine q_iload dX12_takesCranes_23 rfl rfl ?_
      refine q_iload_n dX12_takesCranes_25 rfl rfl ?_
      obtain ⟨c2950, h⟩ := qk_some h
      obtain ⟨c2951, h⟩ := qk_some h
      refine q_icmp_eq (tgt := 66) dX12_takesCranes_26 (by decide) rfl (qRb_R c2950) (qRb_R c2951) (fun g => ?_) (fun g => ?_)
      · rw [if_pos (show x5 = x3 from g)] at h
        refine q_iinc (lv' := [(5, qi (x5 + 1)), (0, qr 70), (1, qi x1), (3, qi x3), (4, qi x4)]) dX12_takesCranes_66 (by decide) rfl rfl rfl ?_
        refine q_goto (pc' := 11) dX12_takesCranes_69 (by decide) ?_
        exact q_pick [1, 2, 3, 4, 0] rfl (ih x1 x3 x4 (x5 + 1) _ _ h hE hR)
      · rw [if_neg (show ¬ (x5 = x3) from g)] at h
        refine q_aload_n dX12_takesCranes_29 rfl rfl ?_
        refine q_iload dX12_takesCranes_30 rfl rfl ?_
        refine q_iload_n dX12_takesCranes_32 rfl rfl ?_
        obtain ⟨q2962, h2963, h⟩ := Option.bind_eq_some_iff.mp h
        refine q_callVi (as := [qi x5, qi x1]) (c := 70) dX12_takesCranes_33 ml_X12_340 rfl rfl (hL 70 (by decide)) sh_70 rfl rfl (Nat.le_of_ble_eq_true rfl) (M_reaches_ok hL d x5 x1 _ _ h2963) rfl ?_
        obtain ⟨c2964, h⟩ := qk_some h
        refine q_if_ne (tgt := 42) dX12_takesCranes_36 (by decide) rfl (qRb_R c2964)  (fun g => ?_) (fun g => ?_)
        · rw [if_neg (show ¬ (q2962.1 = 0) from g)] at h
          refine q_aload_n dX12_takesCranes_42 rfl rfl ?_
          refine q_getA dX12_takesCranes_43 fl_X12_51 (hL 70 (by decide)) sh_70 (by decide) rfl rfl ?_
          refine q_iload dX12_takesCranes_46 rfl rfl ?_
          refine q_iload_n dX12_takesCranes_48 rfl rfl ?_
          obtain ⟨c2965, h⟩ := qk_some h
          refine q_iastore dX12_takesCranes_49 (hL 83 (by decide)) sh_83 (qIx_0 c2965) (qIx_1 c2965) rfl ?_
          refine q_iload dX12_takesCranes_50 rfl rfl ?_
          refine q_iconst dX12_takesCranes_52 rfl rfl ?_
          refine q_isub dX12_takesCranes_53 rfl ?_
          refine q_istore (lv' := [(4, qi (x4 - 1)), (0, qr 70), (1, qi x1), (3, qi x3), (5, qi x5)]) dX12_takesCranes_54 (by decide) rfl rfl ?_
          refine q_iload dX12_takesCranes_56 rfl rfl ?_
          obtain ⟨c2966, h⟩ := qk_some h
          refine q_if_ne (tgt := 66) dX12_takesCranes_58 (by decide) rfl (qRb_R c2966)  (fun g => ?_) (fun g => ?_)
          · rw [if_neg (show ¬ ((x4 - 1) = 0) from g)] at h
            refine q_iinc (lv' := [(5, qi (x5 + 1)), (4, qi (x4 - 1)), (0, qr 70), (1, qi x1), (3, qi x3)]) dX12_takesCranes_66 (by decide) rfl rfl rfl ?_
            refine q_goto (pc' := 11) dX12_takesCranes_69 (by decide) ?_
            exact q_pick [2, 3, 4, 1, 0] rfl (ih x1 x3 (x4 - 1) (x5 + 1) _ _ h hE hR)
          · rw [if_pos (show (x4 - 1) = 0 from g)] at h
            refine q_iload dX12_takesCranes_61 rfl rfl ?_
            refine q_iconst dX12_takesCranes_63 rfl rfl ?_
            refine q_iadd dX12_takesCranes_64 rfl ?_
            cases h
            exact q_ireturn dX12_takesCranes_65 rfl (hR _ rfl)
        · rw [if_pos (show q2962.1 = 0 from g)] at h
          refine q_goto (pc' := 66) dX12_takesCranes_39 (by decide) ?_
          refine q_iinc (lv' := [(5, qi (x5 + 1)), (0, qr 70), (1, qi x1), (3, qi x3), (4, qi x4)]) dX12_takesCranes_66 (by decide) rfl rfl rfl ?_
          refine q_goto (pc' := 11) dX12_takesCranes_69 (by decide) ?_
          exact q_pick [1, 2, 3, 4, 0] rfl (ih x1 x3 x4 (x5 + 1) _ _ h hE hR)
set_option maxRecDepth 20000 in
theorem M_takesCranes_ok {X : qX} (hL : ∀ c, c < 93 → c ∈ qLs X) (d : Nat) (a1 : Int) (a2 : Int) (a3 : Int) (S : qSto) (o : (Int × qSto)) (h : M_takesCranes a1 a2 a3 S = some o) (Q : Option qV → qSto → Prop) (hQ : Q (some (qi o.1)) o.2) : qC X (d + 2) yX12_takesCranes cX12_takesCranes 6 (some .int) [qr 70, qi a1, qi a2, qi a3] S Q := by
  refine q_entry (lv := [(0, qr 70), (1, qi a1), (2, qi a2), (3, qi a3)]) pn_X12 (Nat.le_of_ble_eq_true rfl) rfl ?_
  unfold M_takesCranes at h
  refine q_aload_n dX12_takesCranes_0 rfl rfl ?_
  refine q_getA dX12_takesCranes_1 fl_X12_42 (hL 70 (by decide)) sh_70 (by decide) rfl rfl ?_
  refine q_iload_n dX12_takesCranes_4 rfl rfl ?_
  obtain ⟨c2947, h⟩ := qk_some h
  refine q_iaload dX12_takesCranes_5 (hL 80 (by decide)) sh_80 (qIx_0 c2947) (qIx_1 c2947) rfl ?_
  refine q_istore (lv' := [(4, qi (S 80 (Int.toNat a1))), (0, qr 70), (1, qi a1), (2, qi a2), (3, qi a3)]) dX12_takesCranes_6 (by decide) rfl rfl ?_
  refine q_iload_n dX12_takesCranes_8 rfl rfl ?_
  refine q_istore (lv' := [(5, qi a2), (4, qi (S 80 (Int.toNat a1))), (0, qr 70), (1, qi a1), (2, qi a2), (3, qi a3)]) dX12_takesCranes_9 (by decide) rfl rfl ?_
  obtain ⟨q2967, h2968, h⟩ := Option.bind_eq_some_iff.mp h
  refine q_pick [2, 3, 5, 1, 0] rfl (M_takesCranes_L11_ok hL d qF a1 a3 (S 80 (Int.toNat a1)) a2 _ _ h2968 (fun t2969 e4243 => ?_) (fun w e4243 => ?_))
  · subst e4243
    simp only [Sum.elim_inl] at h
    refine q_iconst dX12_takesCranes_72 rfl rfl ?_
    cases h
    exact q_ireturn dX12_takesCranes_73 rfl hQ
  · subst e4243
    simp only [Sum.elim_inr] at h
    cases h
    exact hQ
set_option maxRecDepth 20000 in
theorem M_deals_L2_ok {X : qX} (hL : ∀ c, c < 93 → c ∈ qLs X) (d : Nat) {Q : Option qV → qSto → Prop} : ∀ (n : Nat) (x1 : Int) (x2 : Int) (x3 : Int) (S : qSto) (o : qSto), M_deals_L2 n x3 S = some o → (qW X (d + 3) yX12_deals cX12_deals 5 (some .boolean) 21 [(0, qr 70), (1, qi x1), (2, qi x2)] [] o Q) → qW X (d + 3) yX12_deals cX12_deals 5 (some .boolean) 2 [(0, qr 70), (1, qi x1), (2, qi x2), (3, qi x3)] [] S Q := by
  intro n
  induction n with
  | zero =>
    intro x1 x2 x3 S o h
    simp [M_deals_L2] at h
  | succ n ih =>
    intro x1 x2 x3 S o h hE
    rw [M_deals_L2] at h
    refine q_iload_n dX12_deals_2 rfl rfl ?_
    refine q_bipush dX12_deals_3 (by decide) rfl ?_
    obtain ⟨c2923, h⟩ := qk_some h
    refine q_icmp_ge (tgt := 21) dX12_deals_5 (by decide) rfl (qRb_R c2923) ⟨by decide, by decide⟩ (fun g => ?_) (fun g => ?_)
    · rw [if_pos (show 8 ≤ x3 from g)] at h
      cases h
      exact q_pick [0, 1, 2] rfl (hE)
    · rw [if_neg (show ¬ (8 ≤ x3) from g)] at h
      refine q_aload_n dX12_deals_8 rfl rfl ?_
      refine q_getA dX12_deals_9 fl_X12_51 (hL 70 (by decide)) sh_70 (by decide) rfl rfl ?_
      refine q_iload_n dX12_deals_12 rfl rfl ?_
      refine q_iconst dX12_deals_13 rfl rfl ?_
      obtain ⟨c2924, h⟩ := qk_some h
      refine q_iastore dX12_deals_14 (hL 83 (by decide)) sh_83 (qIx_0 c2924) (qIx_1 c2924) rfl ?_
      refine q_iinc (lv' := [(3, qi (x3 + 1)), (0, qr 70), (1, qi x1), (2, qi x2)]) dX12_deals_15 (by decide) rfl rfl rfl ?_
      refine q_goto (pc' := 2) dX12_deals_18 (by decide) ?_
      exact q_pick [1, 2, 3, 0] rfl (ih x1 x2 (x3 + 1) _ _ h hE)
set_option maxRecDepth 20000 in
theorem M_deals_L31_ok {X : qX} (hL : ∀ c, c < 93 → c ∈ qLs X) (d : Nat) {Q : Option qV → qSto → Prop} : ∀ (n : Nat) (x1 : Int) (x2 : Int) (x3 : Int) (x4 : Int) (S : qSto) (o : (qSto ⊕ (Int × qSto))), M_deals_L31 n x1 x2 x3 x4 S = some o → (∀ t, o = Sum.inl t → qW X (d + 3) yX12_deals cX12_deals 5 (some .boolean) 70 [] [] t Q) → (∀ w, o = Sum.inr w → Q (some (qi w.1)) w.2) → qW X (d + 3) yX12_deals cX12_deals 5 (some .boolean) 31 [(0, qr 70), (1, qi x1), (2, qi x2), (3, qi x3), (4, qi x4)] [] S Q := by
  intro n
  induction n with
  | zero =>
    intro x1 x2 x3 x4 S o h
    simp [M_deals_L31] at h
  | succ n ih =>
    intro x1 x2 x3 x4 S o h hE hR
    rw [M_deals_L31] at h
    refine q_iload dX12_deals_31 rfl rfl ?_
    refine q_iconst dX12_deals_33 rfl rfl ?_
    obtain ⟨c2946, h⟩ := qk_some h
    refine q_icmp_eq (tgt := 70) dX12_deals_34 (by decide) rfl (qRb_R c2946) ⟨by decide, by decide⟩ (fun g => ?_) (fun g => ?_)
    · rw [if_pos (show x4 = (-1) from g)] at h
      cases h
      exact q_pick [] rfl (hE _ rfl)
    · rw [if_neg (show ¬ (x4 = (-1)) from g)] at h
      refine q_aload_n dX12_deals_37 rfl rfl ?_
      refine q_iload dX12_deals_38 rfl rfl ?_
      refine q_iload_n dX12_deals_40 rfl rfl ?_
      refine q_iload_n dX12_deals_41 rfl rfl ?_
      obtain ⟨q2970, h2971, h⟩ := Option.bind_eq_some_iff.mp h
      refine q_callVi (as := [qi x4, qi x3, qi x2]) (c := 70) dX12_deals_42 ml_X12_346 rfl rfl (hL 70 (by decide)) sh_70 rfl rfl (Nat.le_of_ble_eq_true rfl) (M_takesCranes_ok hL d x4 x3 x2 _ _ h2971) rfl ?_
      refine q_istore_n (lv' := [(3, qi q2970.1), (0, qr 70), (1, qi x1), (2, qi x2), (4, qi x4)]) dX12_deals_45 (by decide) rfl rfl ?_
      refine q_iload_n dX12_deals_46 rfl rfl ?_
      refine q_iconst dX12_deals_47 rfl rfl ?_
      obtain ⟨c2972, h⟩ := qk_some h
      refine q_icmp_ne (tgt := 53) dX12_deals_48 (by decide) rfl (qRb_R c2972) ⟨by decide, by decide⟩ (fun g => ?_) (fun g => ?_)
      · rw [if_neg (show ¬ (q2970.1 = (-1)) from g)] at h
        refine q_aload_n dX12_deals_53 rfl rfl ?_
        refine q_iload_n dX12_deals_54 rfl rfl ?_
        refine q_aload_n dX12_deals_55 rfl rfl ?_
        refine q_getA dX12_deals_56 fl_X12_36 (hL 70 (by decide)) sh_70 (by decide) rfl rfl ?_
        refine q_iload dX12_deals_59 rfl rfl ?_
        obtain ⟨c2973, h⟩ := qk_some h
        refine q_iaload dX12_deals_61 (hL 78 (by decide)) sh_78 (qIx_0 c2973) (qIx_1 c2973) rfl ?_
        obtain ⟨q2974, h2975, h⟩ := Option.bind_eq_some_iff.mp h
        refine q_callVi (as := [qi x1, qi (q2970.2 78 (Int.toNat x4))]) (c := 70) dX12_deals_62 ml_X12_343 rfl rfl (hL 70 (by decide)) sh_70 rfl rfl (Nat.le_of_ble_eq_true rfl) (M_nextAtWork_ok hL d x1 (q2970.2 78 (Int.toNat x4)) _ _ h2975) rfl ?_
        refine q_istore (lv' := [(4, qi q2974.1), (3, qi q2970.1), (0, qr 70), (1, qi x1), (2, qi x2)]) dX12_deals_65 (by decide) rfl rfl ?_
        refine q_goto (pc' := 31) dX12_deals_67 (by decide) ?_
        exact q_pick [2, 3, 4, 1, 0] rfl (ih x1 x2 q2970.1 q2974.1 _ _ h hE hR)
      · rw [if_pos (show q2970.1 = (-1) from g)] at h
        refine q_iconst dX12_deals_51 rfl rfl ?_
        cases h
        exact q_zreturn dX12_deals_52 rfl (by decide) (hR _ rfl)
set_option maxRecDepth 20000 in
theorem M_deals_ok {X : qX} (hL : ∀ c, c < 93 → c ∈ qLs X) (d : Nat) (a1 : Int) (a2 : Int) (S : qSto) (o : (Int × qSto)) (h : M_deals a1 a2 S = some o) (Q : Option qV → qSto → Prop) (hQ : Q (some (qi o.1)) o.2) : qC X (d + 3) yX12_deals cX12_deals 5 (some .boolean) [qr 70, qi a1, qi a2] S Q := by
  refine q_entry (lv := [(0, qr 70), (1, qi a1), (2, qi a2)]) pn_X12 (Nat.le_of_ble_eq_true rfl) rfl ?_
  unfold M_deals at h
  refine q_iconst dX12_deals_0 rfl rfl ?_
  refine q_istore_n (lv' := [(3, qi 0), (0, qr 70), (1, qi a1), (2, qi a2)]) dX12_deals_1 (by decide) rfl rfl ?_
  obtain ⟨q2925, h2926, h⟩ := Option.bind_eq_some_iff.mp h
  refine q_pick [1, 2, 3, 0] rfl (M_deals_L2_ok hL d qF a1 a2 0 _ _ h2926 ?_)
  refine q_iconst dX12_deals_21 rfl rfl ?_
  refine q_istore_n (lv' := [(3, qi 0), (0, qr 70), (1, qi a1), (2, qi a2)]) dX12_deals_22 (by decide) rfl rfl ?_
  refine q_aload_n dX12_deals_23 rfl rfl ?_
  refine q_iload_n dX12_deals_24 rfl rfl ?_
  refine q_iconst dX12_deals_25 rfl rfl ?_
  obtain ⟨q2944, h2945, h⟩ := Option.bind_eq_some_iff.mp h
  refine q_callVi (as := [qi a1, qi (-1)]) (c := 70) dX12_deals_26 ml_X12_343 rfl rfl (hL 70 (by decide)) sh_70 rfl rfl (Nat.le_of_ble_eq_true rfl) (M_nextAtWork_ok hL d a1 (-1) _ _ h2945) rfl ?_
  refine q_istore (lv' := [(4, qi q2944.1), (3, qi 0), (0, qr 70), (1, qi a1), (2, qi a2)]) dX12_deals_29 (by decide) rfl rfl ?_
  obtain ⟨q2976, h2977, h⟩ := Option.bind_eq_some_iff.mp h
  refine q_pick [2, 3, 4, 1, 0] rfl (M_deals_L31_ok hL d qF a1 a2 0 q2944.1 _ _ h2977 (fun t2978 e4244 => ?_) (fun w e4244 => ?_))
  · subst e4244
    simp only [Sum.elim_inl] at h
    refine q_iconst dX12_deals_70 rfl rfl ?_
    cases h
    exact q_zreturn dX12_deals_71 rfl (by decide) hQ
  · subst e4244
    simp only [Sum.elim_inr] at h
    cases h
    exact hQ
set_option maxRecDepth 20000 in
theorem M_hasCranes_L7_ok {X : qX} (hL : ∀ c, c < 93 → c ∈ qLs X) (d : Nat) {Q : Option qV → qSto → Prop} : ∀ (n : Nat) (x1 : Int) (x2 : Int) (S : qSto) (o : (qSto ⊕ (Int × qSto))), M_hasCranes_L7 n x1 x2 S = some o → (∀ t, o = Sum.inl t → qW X (d + 4) yX12_hasCranes cX12_hasCranes 3 (some .boolean) 41 [] [] t Q) → (∀ w, o = Sum.inr w → Q (some (qi w.1)) w.2) → qW X (d + 4) yX12_hasCranes cX12_hasCranes 3 (some .boolean) 7 [(0, qr 70), (1, qi x1), (2, qi x2)] [] S Q := by
  intro n
  induction n with
  | zero =>
    intro x1 x2 S o h
    simp [M_hasCranes_L7] at h
  | succ n ih =>
    intro x1 x2 S o h hE hR
    rw [M_hasCranes_L7] at h
    refine q_iload_n dX12_hasCranes_7 rfl rfl ?_
    refine q_aload_n dX12_hasCranes_8 rfl rfl ?_
    refine q_getA dX12_hasCranes_9 fl_X12_39 (hL 70 (by decide)) sh_70 (by decide) rfl rfl ?_
    refine q_iload_n dX12_hasCranes_12 rfl rfl ?_
    obtain ⟨c2919, h⟩ := qk_some h
    refine q_iaload dX12_hasCranes_13 (hL 79 (by decide)) sh_79 (qIx_0 c2919) (qIx_1 c2919) rfl ?_
    refine q_aload_n dX12_hasCranes_14 rfl rfl ?_
    refine q_getA dX12_hasCranes_15 fl_X12_45 (hL 70 (by decide)) sh_70 (by decide) rfl rfl ?_
    refine q_iload_n dX12_hasCranes_18 rfl rfl ?_
    obtain ⟨c2920, h⟩ := qk_some h
    refine q_iaload dX12_hasCranes_19 (hL 81 (by decide)) sh_81 (qIx_0 c2920) (qIx_1 c2920) rfl ?_
    refine q_iadd dX12_hasCranes_20 rfl ?_
    obtain ⟨c2921, h⟩ := qk_some h
    obtain ⟨c2922, h⟩ := qk_some h
    refine q_icmp_ge (tgt := 41) dX12_hasCranes_21 (by decide) rfl (qRb_R c2921) (qRb_R c2922) (fun g => ?_) (fun g => ?_)
    · rw [if_pos (show ((S 79 (Int.toNat x1)) + (S 81 (Int.toNat x1))) ≤ x2 from g)] at h
      cases h
      exact q_pick [] rfl (hE _ rfl)
    · rw [if_neg (show ¬ (((S 79 (Int.toNat x1)) + (S 81 (Int.toNat x1))) ≤ x2) from g)] at h
      refine q_aload_n dX12_hasCranes_24 rfl rfl ?_
      refine q_iload_n dX12_hasCranes_25 rfl rfl ?_
      refine q_iconst dX12_hasCranes_26 rfl rfl ?_
      obtain ⟨q2979, h2980, h⟩ := Option.bind_eq_some_iff.mp h
      refine q_callVi (as := [qi x2, qi (-1)]) (c := 70) dX12_hasCranes_27 ml_X12_361 rfl rfl (hL 70 (by decide)) sh_70 rfl rfl (Nat.le_of_ble_eq_true rfl) (M_deals_ok hL d x2 (-1) _ _ h2980) rfl ?_
      obtain ⟨c2981, h⟩ := qk_some h
      refine q_if_ne (tgt := 35) dX12_hasCranes_30 (by decide) rfl (qRb_R c2981)  (fun g => ?_) (fun g => ?_)
      · rw [if_neg (show ¬ (q2979.1 = 0) from g)] at h
        refine q_iinc (lv' := [(2, qi (x2 + 1)), (0, qr 70), (1, qi x1)]) dX12_hasCranes_35 (by decide) rfl rfl rfl ?_
        refine q_goto (pc' := 7) dX12_hasCranes_38 (by decide) ?_
        exact q_pick [1, 2, 0] rfl (ih x1 (x2 + 1) _ _ h hE hR)
      · rw [if_pos (show q2979.1 = 0 from g)] at h
        refine q_iconst dX12_hasCranes_33 rfl rfl ?_
        cases h
        exact q_zreturn dX12_hasCranes_34 rfl (by decide) (hR _ rfl)
set_option maxRecDepth 20000 in
theorem M_hasCranes_ok {X : qX} (hL : ∀ c, c < 93 → c ∈ qLs X) (d : Nat) (a1 : Int) (S : qSto) (o : (Int × qSto)) (h : M_hasCranes a1 S = some o) (Q : Option qV → qSto → Prop) (hQ : Q (some (qi o.1)) o.2) : qC X (d + 4) yX12_hasCranes cX12_hasCranes 3 (some .boolean) [qr 70, qi a1] S Q := by
  refine q_entry (lv := [(0, qr 70), (1, qi a1)]) pn_X12 (Nat.le_of_ble_eq_true rfl) rfl ?_
  unfold M_hasCranes at h
  refine q_aload_n dX12_hasCranes_0 rfl rfl ?_
  refine q_getA dX12_hasCranes_1 fl_X12_39 (hL 70 (by decide)) sh_70 (by decide) rfl rfl ?_
  refine q_iload_n dX12_hasCranes_4 rfl rfl ?_
  obtain ⟨c2918, h⟩ := qk_some h
  refine q_iaload dX12_hasCranes_5 (hL 79 (by decide)) sh_79 (qIx_0 c2918) (qIx_1 c2918) rfl ?_
  refine q_istore_n (lv' := [(2, qi (S 79 (Int.toNat a1))), (0, qr 70), (1, qi a1)]) dX12_hasCranes_6 (by decide) rfl rfl ?_
  obtain ⟨q2982, h2983, h⟩ := Option.bind_eq_some_iff.mp h
  refine q_pick [1, 2, 0] rfl (M_hasCranes_L7_ok hL d qF a1 (S 79 (Int.toNat a1)) _ _ h2983 (fun t2984 e4245 => ?_) (fun w e4245 => ?_))
  · subst e4245
    simp only [Sum.elim_inl] at h
    refine q_iconst dX12_hasCranes_41 rfl rfl ?_
    cases h
    exact q_zreturn dX12_hasCranes_42 rfl (by decide) hQ
  · subst e4245
    simp only [Sum.elim_inr] at h
    cases h
    exact hQ
set_option maxRecDepth 20000 in
theorem M_lateLaw_ok {X : qX} (hL : ∀ c, c < 93 → c ∈ qLs X) (d : Nat) (a1 : Int) (S : qSto) (o : (Int × qSto)) (h : M_lateLaw a1 S = some o) (Q : Option qV → qSto → Prop) (hQ : Q (some (qi o.1)) o.2) : qC X (d + 5) yX12_lateLaw cX12_lateLaw 2 (some .int) [qr 70, qi a1] S Q := by
  refine q_entry (lv := [(0, qr 70), (1, qi a1)]) pn_X12 (Nat.le_of_ble_eq_true rfl) rfl ?_
  unfold M_lateLaw at h
  refine q_aload_n dX12_lateLaw_0 rfl rfl ?_
  refine q_aload_n dX12_lateLaw_1 rfl rfl ?_
  refine q_getA dX12_lateLaw_2 fl_X12_36 (hL 70 (by decide)) sh_70 (by decide) rfl rfl ?_
  refine q_iload_n dX12_lateLaw_5 rfl rfl ?_
  obtain ⟨c2806, h⟩ := qk_some h
  refine q_iaload dX12_lateLaw_6 (hL 78 (by decide)) sh_78 (qIx_0 c2806) (qIx_1 c2806) rfl ?_
  refine q_aload_n dX12_lateLaw_7 rfl rfl ?_
  refine q_iload_n dX12_lateLaw_8 rfl rfl ?_
  obtain ⟨q2810, h2811, h⟩ := Option.bind_eq_some_iff.mp h
  refine q_callVi (as := [qi a1]) (c := 70) dX12_lateLaw_9 ml_X12_349 rfl rfl (hL 70 (by decide)) sh_70 rfl rfl (Nat.le_of_ble_eq_true rfl) (M_lastMetre_ok hL (d + 3) a1 _ _ h2811) rfl ?_
  obtain ⟨q2812, h2813, h⟩ := Option.bind_eq_some_iff.mp h
  refine q_callVi (as := [qi (S 78 (Int.toNat a1)), qi q2810.1]) (c := 70) dX12_lateLaw_12 ml_X12_280 rfl rfl (hL 70 (by decide)) sh_70 rfl rfl (Nat.le_of_ble_eq_true rfl) (M_leastDepth_ok hL (d + 4) (S 78 (Int.toNat a1)) q2810.1 _ _ h2813) rfl ?_
  refine q_aload_n dX12_lateLaw_15 rfl rfl ?_
  refine q_iload_n dX12_lateLaw_16 rfl rfl ?_
  obtain ⟨q2827, h2828, h⟩ := Option.bind_eq_some_iff.mp h
  refine q_callVi (as := [qi a1]) (c := 70) dX12_lateLaw_17 ml_X12_364 rfl rfl (hL 70 (by decide)) sh_70 rfl rfl (Nat.le_of_ble_eq_true rfl) (M_lowestIn_ok hL (d + 4) a1 _ _ h2828) rfl ?_
  refine q_iadd dX12_lateLaw_20 rfl ?_
  refine q_aload_n dX12_lateLaw_21 rfl rfl ?_
  refine q_iload_n dX12_lateLaw_22 rfl rfl ?_
  obtain ⟨q2840, h2841, h⟩ := Option.bind_eq_some_iff.mp h
  refine q_callVi (as := [qi a1]) (c := 70) dX12_lateLaw_23 ml_X12_367 rfl rfl (hL 70 (by decide)) sh_70 rfl rfl (Nat.le_of_ble_eq_true rfl) (M_needOf_ok hL (d + 3) a1 _ _ h2841) rfl ?_
  obtain ⟨c2842, h⟩ := qk_some h
  obtain ⟨c2843, h⟩ := qk_some h
  refine q_icmp_ge (tgt := 32) dX12_lateLaw_26 (by decide) rfl (qRb_R c2842) (qRb_R c2843) (fun g => ?_) (fun g => ?_)
  · rw [if_pos (show q2840.1 ≤ (q2812.1 + q2827.1) from g)] at h
    refine q_aload_n dX12_lateLaw_32 rfl rfl ?_
    refine q_iload_n dX12_lateLaw_33 rfl rfl ?_
    obtain ⟨q2878, h2879, h⟩ := Option.bind_eq_some_iff.mp h
    refine q_callVi (as := [qi a1]) (c := 70) dX12_lateLaw_34 ml_X12_370 rfl rfl (hL 70 (by decide)) sh_70 rfl rfl (Nat.le_of_ble_eq_true rfl) (M_waysOf_ok hL (d + 1) a1 _ _ h2879) rfl ?_
    obtain ⟨c2880, h⟩ := qk_some h
    refine q_if_eq (tgt := 43) dX12_lateLaw_37 (by decide) rfl (qRb_R c2880)  (fun g => ?_) (fun g => ?_)
    · rw [if_pos (show q2878.1 = 0 from g)] at h
      refine q_aload_n dX12_lateLaw_43 rfl rfl ?_
      refine q_iload_n dX12_lateLaw_44 rfl rfl ?_
      obtain ⟨q2915, h2916, h⟩ := Option.bind_eq_some_iff.mp h
      refine q_callVi (as := [qi a1]) (c := 70) dX12_lateLaw_45 ml_X12_373 rfl rfl (hL 70 (by decide)) sh_70 rfl rfl (Nat.le_of_ble_eq_true rfl) (M_hasGangs_ok hL (d + 1) a1 _ _ h2916) rfl ?_
      obtain ⟨c2917, h⟩ := qk_some h
      refine q_if_ne (tgt := 54) dX12_lateLaw_48 (by decide) rfl (qRb_R c2917)  (fun g => ?_) (fun g => ?_)
      · rw [if_neg (show ¬ (q2915.1 = 0) from g)] at h
        refine q_aload_n dX12_lateLaw_54 rfl rfl ?_
        refine q_iload_n dX12_lateLaw_55 rfl rfl ?_
        obtain ⟨q2985, h2986, h⟩ := Option.bind_eq_some_iff.mp h
        refine q_callVi (as := [qi a1]) (c := 70) dX12_lateLaw_56 ml_X12_376 rfl rfl (hL 70 (by decide)) sh_70 rfl rfl (Nat.le_of_ble_eq_true rfl) (M_hasCranes_ok hL d a1 _ _ h2986) rfl ?_
        obtain ⟨c2987, h⟩ := qk_some h
        refine q_if_eq (tgt := 66) dX12_lateLaw_59 (by decide) rfl (qRb_R c2987)  (fun g => ?_) (fun g => ?_)
        · rw [if_pos (show q2985.1 = 0 from g)] at h
          refine q_bipush dX12_lateLaw_66 (by decide) rfl ?_
          cases h
          exact q_ireturn dX12_lateLaw_68 rfl hQ
        · rw [if_neg (show ¬ (q2985.1 = 0) from g)] at h
          refine q_iconst dX12_lateLaw_62 rfl rfl ?_
          refine q_goto (pc' := 68) dX12_lateLaw_63 (by decide) ?_
          cases h
          exact q_ireturn dX12_lateLaw_68 rfl hQ
      · rw [if_pos (show q2915.1 = 0 from g)] at h
        refine q_bipush dX12_lateLaw_51 (by decide) rfl ?_
        cases h
        exact q_ireturn dX12_lateLaw_53 rfl hQ
    · rw [if_neg (show ¬ (q2878.1 = 0) from g)] at h
      refine q_bipush dX12_lateLaw_40 (by decide) rfl ?_
      cases h
      exact q_ireturn dX12_lateLaw_42 rfl hQ
  · rw [if_neg (show ¬ (q2840.1 ≤ (q2812.1 + q2827.1)) from g)] at h
    refine q_bipush dX12_lateLaw_29 (by decide) rfl ?_
    cases h
    exact q_ireturn dX12_lateLaw_31 rfl hQ
set_option maxRecDepth 20000 in
theorem M_lawOf_ok {X : qX} (hL : ∀ c, c < 93 → c ∈ qLs X) (d : Nat) (a1 : Int) (a2 : Int) (a4 : Int) (a6 : Int) (S : qSto) (o : (Int × qSto)) (h : M_lawOf a1 a2 a4 a6 S = some o) (Q : Option qV → qSto → Prop) (hQ : Q (some (qi o.1)) o.2) : qC X (d + 6) yX12_lawOf cX12_lawOf 11 (some .int) [qr 70, qi a1, ql a2, ql a4, qi a6] S Q := by
  refine q_entry (lv := [(0, qr 70), (1, qi a1), (2, ql a2), (4, ql a4), (6, qi a6)]) pn_X12 (Nat.le_of_ble_eq_true rfl) rfl ?_
  unfold M_lawOf at h
  refine q_aload_n dX12_lawOf_0 rfl rfl ?_
  refine q_iload_n dX12_lawOf_1 rfl rfl ?_
  refine q_lload_n dX12_lawOf_2 rfl rfl ?_
  refine q_lload dX12_lawOf_3 rfl rfl ?_
  refine q_iload dX12_lawOf_5 rfl rfl ?_
  obtain ⟨q2785, h2786, h⟩ := Option.bind_eq_some_iff.mp h
  refine q_callVi (as := [qi a1, ql a2, ql a4, qi a6]) (c := 70) dX12_lawOf_7 ml_X12_379 rfl rfl (hL 70 (by decide)) sh_70 rfl rfl (Nat.le_of_ble_eq_true rfl) (M_earlyLaw_ok hL (d + 2) a1 a2 a4 a6 _ _ h2786) rfl ?_
  refine q_istore (lv' := [(7, qi q2785.1), (0, qr 70), (1, qi a1), (2, ql a2), (4, ql a4), (6, qi a6)]) dX12_lawOf_10 (by decide) rfl rfl ?_
  refine q_iload dX12_lawOf_12 rfl rfl ?_
  obtain ⟨c2787, h⟩ := qk_some h
  refine q_if_le (tgt := 20) dX12_lawOf_14 (by decide) rfl (qRb_R c2787)  (fun g => ?_) (fun g => ?_)
  · rw [if_pos (show q2785.1 ≤ 0 from g)] at h
    refine q_aload_n dX12_lawOf_20 rfl rfl ?_
    refine q_getA dX12_lawOf_21 fl_X12_36 (hL 70 (by decide)) sh_70 (by decide) rfl rfl ?_
    refine q_iload_n dX12_lawOf_24 rfl rfl ?_
    obtain ⟨c2788, h⟩ := qk_some h
    refine q_iaload dX12_lawOf_25 (hL 78 (by decide)) sh_78 (qIx_0 c2788) (qIx_1 c2788) rfl ?_
    refine q_istore (lv' := [(8, qi (q2785.2 78 (Int.toNat a1))), (7, qi q2785.1), (0, qr 70), (1, qi a1), (2, ql a2), (4, ql a4), (6, qi a6)]) dX12_lawOf_26 (by decide) rfl rfl ?_
    refine q_aload_n dX12_lawOf_28 rfl rfl ?_
    refine q_getA dX12_lawOf_29 fl_X12_39 (hL 70 (by decide)) sh_70 (by decide) rfl rfl ?_
    refine q_iload_n dX12_lawOf_32 rfl rfl ?_
    obtain ⟨c2789, h⟩ := qk_some h
    refine q_iaload dX12_lawOf_33 (hL 79 (by decide)) sh_79 (qIx_0 c2789) (qIx_1 c2789) rfl ?_
    refine q_istore (lv' := [(9, qi (q2785.2 79 (Int.toNat a1))), (8, qi (q2785.2 78 (Int.toNat a1))), (7, qi q2785.1), (0, qr 70), (1, qi a1), (2, ql a2), (4, ql a4), (6, qi a6)]) dX12_lawOf_34 (by decide) rfl rfl ?_
    refine q_aload_n dX12_lawOf_36 rfl rfl ?_
    refine q_getA dX12_lawOf_37 fl_X12_42 (hL 70 (by decide)) sh_70 (by decide) rfl rfl ?_
    refine q_iload_n dX12_lawOf_40 rfl rfl ?_
    obtain ⟨c2790, h⟩ := qk_some h
    refine q_iaload dX12_lawOf_41 (hL 80 (by decide)) sh_80 (qIx_0 c2790) (qIx_1 c2790) rfl ?_
    refine q_istore (lv' := [(10, qi (q2785.2 80 (Int.toNat a1))), (9, qi (q2785.2 79 (Int.toNat a1))), (8, qi (q2785.2 78 (Int.toNat a1))), (7, qi q2785.1), (0, qr 70), (1, qi a1), (2, ql a2), (4, ql a4), (6, qi a6)]) dX12_lawOf_42 (by decide) rfl rfl ?_
    refine q_aload_n dX12_lawOf_44 rfl rfl ?_
    refine q_iload_n dX12_lawOf_45 rfl rfl ?_
    refine q_lload_n dX12_lawOf_46 rfl rfl ?_
    refine q_l2i dX12_lawOf_47 rfl ?_
    refine q_lload dX12_lawOf_48 rfl rfl ?_
    refine q_l2i dX12_lawOf_50 rfl ?_
    refine q_iload dX12_lawOf_51 rfl rfl ?_
    obtain ⟨q2804, h2805, h⟩ := Option.bind_eq_some_iff.mp h
    refine q_callVv (as := [qi a1, qi a2, qi a4, qi a6]) (c := 70) dX12_lawOf_53 ml_X12_383 rfl rfl (hL 70 (by decide)) sh_70 rfl rfl (Nat.le_of_ble_eq_true rfl) (M_lay_ok hL (d + 2) a1 a2 a4 a6 _ _ h2805) rfl ?_
    refine q_aload_n dX12_lawOf_56 rfl rfl ?_
    refine q_iload_n dX12_lawOf_57 rfl rfl ?_
    obtain ⟨q2988, h2989, h⟩ := Option.bind_eq_some_iff.mp h
    refine q_callVi (as := [qi a1]) (c := 70) dX12_lawOf_58 ml_X12_387 rfl rfl (hL 70 (by decide)) sh_70 rfl rfl (Nat.le_of_ble_eq_true rfl) (M_lateLaw_ok hL d a1 _ _ h2989) rfl ?_
    refine q_istore (lv' := [(7, qi q2988.1), (10, qi (q2785.2 80 (Int.toNat a1))), (9, qi (q2785.2 79 (Int.toNat a1))), (8, qi (q2785.2 78 (Int.toNat a1))), (0, qr 70), (1, qi a1), (2, ql a2), (4, ql a4), (6, qi a6)]) dX12_lawOf_61 (by decide) rfl rfl ?_
    refine q_aload_n dX12_lawOf_63 rfl rfl ?_
    refine q_iload_n dX12_lawOf_64 rfl rfl ?_
    refine q_iload dX12_lawOf_65 rfl rfl ?_
    refine q_iload dX12_lawOf_67 rfl rfl ?_
    refine q_iload dX12_lawOf_69 rfl rfl ?_
    obtain ⟨q2990, h2991, h⟩ := Option.bind_eq_some_iff.mp h
    refine q_callVv (as := [qi a1, qi (q2785.2 78 (Int.toNat a1)), qi (q2785.2 79 (Int.toNat a1)), qi (q2785.2 80 (Int.toNat a1))]) (c := 70) dX12_lawOf_71 ml_X12_383 rfl rfl (hL 70 (by decide)) sh_70 rfl rfl (Nat.le_of_ble_eq_true rfl) (M_lay_ok hL (d + 2) a1 (q2785.2 78 (Int.toNat a1)) (q2785.2 79 (Int.toNat a1)) (q2785.2 80 (Int.toNat a1)) _ _ h2991) rfl ?_
    refine q_iload dX12_lawOf_74 rfl rfl ?_
    cases h
    exact q_ireturn dX12_lawOf_76 rfl hQ
  · rw [if_neg (show ¬ (q2785.1 ≤ 0) from g)] at h
    refine q_iload dX12_lawOf_17 rfl rfl ?_
    cases h
    exact q_ireturn dX12_lawOf_19 rfl hQ
set_option maxRecDepth 20000 in
theorem M_breaks_ok {X : qX} (hL : ∀ c, c < 93 → c ∈ qLs X) (d : Nat) (a1 : Int) (a2 : Int) (a3 : Int) (a4 : Int) (S : qSto) (o : (Int × qSto)) (h : M_breaks a1 a2 a3 a4 S = some o) (Q : Option qV → qSto → Prop) (hQ : Q (some (qi o.1)) o.2) : qC X (d + 7) yX12_breaks cX12_breaks 5 (some .int) [qr 70, qi a1, qi a2, qi a3, qi a4] S Q := by
  refine q_entry (lv := [(0, qr 70), (1, qi a1), (2, qi a2), (3, qi a3), (4, qi a4)]) pn_X12 (Nat.le_of_ble_eq_true rfl) rfl ?_
  unfold M_breaks at h
  refine q_aload_n dX12_breaks_0 rfl rfl ?_
  refine q_iload_n dX12_breaks_1 rfl rfl ?_
  obtain ⟨q2737, h2738, h⟩ := Option.bind_eq_some_iff.mp h
  refine q_callVi (as := [qi a1]) (c := 70) dX12_breaks_2 ml_X12_297 rfl rfl (hL 70 (by decide)) sh_70 rfl rfl (Nat.le_of_ble_eq_true rfl) (M_isShip_ok hL (d + 5) a1 _ _ h2738) rfl ?_
  obtain ⟨c2739, h⟩ := qk_some h
  refine q_if_eq (tgt := 22) dX12_breaks_5 (by decide) rfl (qRb_R c2739)  (fun g => ?_) (fun g => ?_)
  · rw [if_pos (show q2737.1 = 0 from g)] at h
    refine q_iconst dX12_breaks_22 rfl rfl ?_
    cases h
    exact q_ireturn dX12_breaks_23 rfl hQ
  · rw [if_neg (show ¬ (q2737.1 = 0) from g)] at h
    refine q_aload_n dX12_breaks_8 rfl rfl ?_
    refine q_iload_n dX12_breaks_9 rfl rfl ?_
    refine q_iload_n dX12_breaks_10 rfl rfl ?_
    obtain ⟨c2740, h⟩ := qk_some h
    refine q_i2l dX12_breaks_11 (qRb_R c2740) rfl ?_
    refine q_iload_n dX12_breaks_12 rfl rfl ?_
    obtain ⟨c2741, h⟩ := qk_some h
    refine q_i2l dX12_breaks_13 (qRb_R c2741) rfl ?_
    refine q_iload dX12_breaks_14 rfl rfl ?_
    obtain ⟨q2992, h2993, h⟩ := Option.bind_eq_some_iff.mp h
    refine q_callVi (as := [qi a1, ql a2, ql a3, qi a4]) (c := 70) dX12_breaks_16 ml_X12_390 rfl rfl (hL 70 (by decide)) sh_70 rfl rfl (Nat.le_of_ble_eq_true rfl) (M_lawOf_ok hL d a1 a2 a3 a4 _ _ h2993) rfl ?_
    refine q_goto (pc' := 23) dX12_breaks_19 (by decide) ?_
    cases h
    exact q_ireturn dX12_breaks_23 rfl hQ
set_option maxRecDepth 20000 in
theorem M_inWay_ok {X : qX} (hL : ∀ c, c < 93 → c ∈ qLs X) (d : Nat) (a1 : Int) (a2 : Int) (a3 : Int) (a4 : Int) (S : qSto) (o : (Int × qSto)) (h : M_inWay a1 a2 a3 a4 S = some o) (Q : Option qV → qSto → Prop) (hQ : Q (some (qi o.1)) o.2) : qC X (d + 4) yX12_inWay cX12_inWay 9 (some .int) [qr 70, qi a1, qi a2, qi a3, qi a4] S Q := by
  refine q_entry (lv := [(0, qr 70), (1, qi a1), (2, qi a2), (3, qi a3), (4, qi a4)]) pn_X12 (Nat.le_of_ble_eq_true rfl) rfl ?_
  unfold M_inWay at h
  refine q_aload_n dX12_inWay_0 rfl rfl ?_
  refine q_iload_n dX12_inWay_1 rfl rfl ?_
  obtain ⟨q2994, h2995, h⟩ := Option.bind_eq_some_iff.mp h
  refine q_callVi (as := [qi a1]) (c := 70) dX12_inWay_2 ml_X12_297 rfl rfl (hL 70 (by decide)) sh_70 rfl rfl (Nat.le_of_ble_eq_true rfl) (M_isShip_ok hL (d + 2) a1 _ _ h2995) rfl ?_
  obtain ⟨c2996, h⟩ := qk_some h
  refine q_if_ne (tgt := 10) dX12_inWay_5 (by decide) rfl (qRb_R c2996)  (fun g => ?_) (fun g => ?_)
  · rw [if_neg (show ¬ (q2994.1 = 0) from g)] at h
    refine q_aload_n dX12_inWay_10 rfl rfl ?_
    refine q_iload_n dX12_inWay_11 rfl rfl ?_
    refine q_iload_n dX12_inWay_12 rfl rfl ?_
    obtain ⟨c2997, h⟩ := qk_some h
    refine q_i2l dX12_inWay_13 (qRb_R c2997) rfl ?_
    refine q_iload_n dX12_inWay_14 rfl rfl ?_
    obtain ⟨c2998, h⟩ := qk_some h
    refine q_i2l dX12_inWay_15 (qRb_R c2998) rfl ?_
    refine q_iload dX12_inWay_16 rfl rfl ?_
    obtain ⟨q2999, h3000, h⟩ := Option.bind_eq_some_iff.mp h
    refine q_callVi (as := [qi a1, ql a2, ql a3, qi a4]) (c := 70) dX12_inWay_18 ml_X12_379 rfl rfl (hL 70 (by decide)) sh_70 rfl rfl (Nat.le_of_ble_eq_true rfl) (M_earlyLaw_ok hL d a1 a2 a3 a4 _ _ h3000) rfl ?_
    obtain ⟨c3001, h⟩ := qk_some h
    refine q_if_le (tgt := 26) dX12_inWay_21 (by decide) rfl (qRb_R c3001)  (fun g => ?_) (fun g => ?_)
    · rw [if_pos (show q2999.1 ≤ 0 from g)] at h
      refine q_aload_n dX12_inWay_26 rfl rfl ?_
      refine q_getA dX12_inWay_27 fl_X12_36 (hL 70 (by decide)) sh_70 (by decide) rfl rfl ?_
      refine q_iload_n dX12_inWay_30 rfl rfl ?_
      obtain ⟨c3002, h⟩ := qk_some h
      refine q_iaload dX12_inWay_31 (hL 78 (by decide)) sh_78 (qIx_0 c3002) (qIx_1 c3002) rfl ?_
      refine q_istore (lv' := [(5, qi (q2999.2 78 (Int.toNat a1))), (0, qr 70), (1, qi a1), (2, qi a2), (3, qi a3), (4, qi a4)]) dX12_inWay_32 (by decide) rfl rfl ?_
      refine q_aload_n dX12_inWay_34 rfl rfl ?_
      refine q_getA dX12_inWay_35 fl_X12_39 (hL 70 (by decide)) sh_70 (by decide) rfl rfl ?_
      refine q_iload_n dX12_inWay_38 rfl rfl ?_
      obtain ⟨c3003, h⟩ := qk_some h
      refine q_iaload dX12_inWay_39 (hL 79 (by decide)) sh_79 (qIx_0 c3003) (qIx_1 c3003) rfl ?_
      refine q_istore (lv' := [(6, qi (q2999.2 79 (Int.toNat a1))), (5, qi (q2999.2 78 (Int.toNat a1))), (0, qr 70), (1, qi a1), (2, qi a2), (3, qi a3), (4, qi a4)]) dX12_inWay_40 (by decide) rfl rfl ?_
      refine q_aload_n dX12_inWay_42 rfl rfl ?_
      refine q_getA dX12_inWay_43 fl_X12_42 (hL 70 (by decide)) sh_70 (by decide) rfl rfl ?_
      refine q_iload_n dX12_inWay_46 rfl rfl ?_
      obtain ⟨c3004, h⟩ := qk_some h
      refine q_iaload dX12_inWay_47 (hL 80 (by decide)) sh_80 (qIx_0 c3004) (qIx_1 c3004) rfl ?_
      refine q_istore (lv' := [(7, qi (q2999.2 80 (Int.toNat a1))), (6, qi (q2999.2 79 (Int.toNat a1))), (5, qi (q2999.2 78 (Int.toNat a1))), (0, qr 70), (1, qi a1), (2, qi a2), (3, qi a3), (4, qi a4)]) dX12_inWay_48 (by decide) rfl rfl ?_
      refine q_aload_n dX12_inWay_50 rfl rfl ?_
      refine q_iload_n dX12_inWay_51 rfl rfl ?_
      refine q_iload_n dX12_inWay_52 rfl rfl ?_
      refine q_iload_n dX12_inWay_53 rfl rfl ?_
      refine q_iload dX12_inWay_54 rfl rfl ?_
      obtain ⟨q3005, h3006, h⟩ := Option.bind_eq_some_iff.mp h
      refine q_callVv (as := [qi a1, qi a2, qi a3, qi a4]) (c := 70) dX12_inWay_56 ml_X12_383 rfl rfl (hL 70 (by decide)) sh_70 rfl rfl (Nat.le_of_ble_eq_true rfl) (M_lay_ok hL d a1 a2 a3 a4 _ _ h3006) rfl ?_
      refine q_aload_n dX12_inWay_59 rfl rfl ?_
      refine q_iload_n dX12_inWay_60 rfl rfl ?_
      obtain ⟨q3007, h3008, h⟩ := Option.bind_eq_some_iff.mp h
      refine q_callVi (as := [qi a1]) (c := 70) dX12_inWay_61 ml_X12_370 rfl rfl (hL 70 (by decide)) sh_70 rfl rfl (Nat.le_of_ble_eq_true rfl) (M_waysOf_ok hL d a1 _ _ h3008) rfl ?_
      refine q_istore (lv' := [(8, qi q3007.1), (7, qi (q2999.2 80 (Int.toNat a1))), (6, qi (q2999.2 79 (Int.toNat a1))), (5, qi (q2999.2 78 (Int.toNat a1))), (0, qr 70), (1, qi a1), (2, qi a2), (3, qi a3), (4, qi a4)]) dX12_inWay_64 (by decide) rfl rfl ?_
      refine q_aload_n dX12_inWay_66 rfl rfl ?_
      refine q_iload_n dX12_inWay_67 rfl rfl ?_
      refine q_iload dX12_inWay_68 rfl rfl ?_
      refine q_iload dX12_inWay_70 rfl rfl ?_
      refine q_iload dX12_inWay_72 rfl rfl ?_
      obtain ⟨q3009, h3010, h⟩ := Option.bind_eq_some_iff.mp h
      refine q_callVv (as := [qi a1, qi (q2999.2 78 (Int.toNat a1)), qi (q2999.2 79 (Int.toNat a1)), qi (q2999.2 80 (Int.toNat a1))]) (c := 70) dX12_inWay_74 ml_X12_383 rfl rfl (hL 70 (by decide)) sh_70 rfl rfl (Nat.le_of_ble_eq_true rfl) (M_lay_ok hL d a1 (q2999.2 78 (Int.toNat a1)) (q2999.2 79 (Int.toNat a1)) (q2999.2 80 (Int.toNat a1)) _ _ h3010) rfl ?_
      refine q_iload dX12_inWay_77 rfl rfl ?_
      cases h
      exact q_ireturn dX12_inWay_79 rfl hQ
    · rw [if_neg (show ¬ (q2999.1 ≤ 0) from g)] at h
      refine q_iconst dX12_inWay_24 rfl rfl ?_
      cases h
      exact q_ireturn dX12_inWay_25 rfl hQ
  · rw [if_pos (show q2994.1 = 0 from g)] at h
    refine q_iconst dX12_inWay_8 rfl rfl ?_
    cases h
    exact q_ireturn dX12_inWay_9 rfl hQ
set_option maxRecDepth 20000 in
theorem M_layTens_L2_ok {X : qX} (hL : ∀ c, c < 93 → c ∈ qLs X) (d : Nat) {Q : Option qV → qSto → Prop} : ∀ (n : Nat) (x1 : Int) (x2 : Int) (S : qSto) (o : qSto), M_layTens_L2 n x1 x2 S = some o → (qW X (d + 1) yX12_layTens cX12_layTens 3 none 55 [] [] o Q) → qW X (d + 1) yX12_layTens cX12_layTens 3 none 2 [(0, qr 70), (1, qi x1), (2, qi x2)] [] S Q := by
  intro n
  induction n with
  | zero =>
    intro x1 x2 S o h
    simp [M_layTens_L2] at h
  | succ n ih =>
    intro x1 x2 S o h hE
    rw [M_layTens_L2] at h
    refine q_bipush dX12_layTens_2 (by decide) rfl ?_
    refine q_iload_n dX12_layTens_4 rfl rfl ?_
    refine q_imul dX12_layTens_5 rfl ?_
    refine q_aload_n dX12_layTens_6 rfl rfl ?_
    refine q_iload_n dX12_layTens_7 rfl rfl ?_
    refine q_iconst dX12_layTens_8 rfl rfl ?_
    obtain ⟨q3033, h3034, h⟩ := Option.bind_eq_some_iff.mp h
    refine q_callVi (as := [qi x1, qi 0]) (c := 70) dX12_layTens_9 ml_X12_316 rfl rfl (hL 70 (by decide)) sh_70 rfl rfl (Nat.le_of_ble_eq_true rfl) (M_of_ok hL d x1 0 _ _ h3034) rfl ?_
    refine q_iadd dX12_layTens_12 rfl ?_
    refine q_aload_n dX12_layTens_13 rfl rfl ?_
    refine q_getA dX12_layTens_14 fl_X12_13 (hL 70 (by decide)) sh_70 (by decide) rfl rfl ?_
    refine q_iconst dX12_layTens_17 rfl rfl ?_
    refine q_iaload dX12_layTens_18 (hL 72 (by decide)) sh_72 (by decide) (by decide) rfl ?_
    obtain ⟨c3035, h⟩ := qk_some h
    obtain ⟨c3036, h⟩ := qk_some h
    refine q_icmp_gt (tgt := 55) dX12_layTens_19 (by decide) rfl (qRb_R c3035) (qRb_R c3036) (fun g => ?_) (fun g => ?_)
    · rw [if_pos (show (q3033.2 72 0) < ((10 * x2) + q3033.1) from g)] at h
      cases h
      exact q_pick [] rfl (hE)
    · rw [if_neg (show ¬ ((q3033.2 72 0) < ((10 * x2) + q3033.1)) from g)] at h
      refine q_aload_n dX12_layTens_22 rfl rfl ?_
      refine q_getA dX12_layTens_23 fl_X12_54 (hL 70 (by decide)) sh_70 (by decide) rfl rfl ?_
      refine q_iload_n dX12_layTens_26 rfl rfl ?_
      refine q_aload_n dX12_layTens_27 rfl rfl ?_
      refine q_bipush dX12_layTens_28 (by decide) rfl ?_
      refine q_iload_n dX12_layTens_30 rfl rfl ?_
      refine q_imul dX12_layTens_31 rfl ?_
      refine q_bipush dX12_layTens_32 (by decide) rfl ?_
      refine q_iload_n dX12_layTens_34 rfl rfl ?_
      refine q_imul dX12_layTens_35 rfl ?_
      refine q_aload_n dX12_layTens_36 rfl rfl ?_
      refine q_iload_n dX12_layTens_37 rfl rfl ?_
      refine q_iconst dX12_layTens_38 rfl rfl ?_
      obtain ⟨q3037, h3038, h⟩ := Option.bind_eq_some_iff.mp h
      refine q_callVi (as := [qi x1, qi 0]) (c := 70) dX12_layTens_39 ml_X12_316 rfl rfl (hL 70 (by decide)) sh_70 rfl rfl (Nat.le_of_ble_eq_true rfl) (M_of_ok hL d x1 0 _ _ h3038) rfl ?_
      refine q_iadd dX12_layTens_42 rfl ?_
      refine q_iconst dX12_layTens_43 rfl rfl ?_
      refine q_isub dX12_layTens_44 rfl ?_
      obtain ⟨q3039, h3040, h⟩ := Option.bind_eq_some_iff.mp h
      refine q_callVi (as := [qi (10 * x2), qi (((10 * x2) + q3037.1) - 1)]) (c := 70) dX12_layTens_45 ml_X12_280 rfl rfl (hL 70 (by decide)) sh_70 rfl rfl (Nat.le_of_ble_eq_true rfl) (M_leastDepth_ok hL d (10 * x2) (((10 * x2) + q3037.1) - 1) _ _ h3040) rfl ?_
      obtain ⟨c3041, h⟩ := qk_some h
      refine q_iastore dX12_layTens_48 (hL 84 (by decide)) sh_84 (qIx_0 c3041) (qIx_1 c3041) rfl ?_
      refine q_iinc (lv' := [(2, qi (x2 + 1)), (0, qr 70), (1, qi x1)]) dX12_layTens_49 (by decide) rfl rfl rfl ?_
      refine q_goto (pc' := 2) dX12_layTens_52 (by decide) ?_
      exact q_pick [1, 2, 0] rfl (ih x1 (x2 + 1) _ _ h hE)
set_option maxRecDepth 20000 in
theorem M_layTens_ok {X : qX} (hL : ∀ c, c < 93 → c ∈ qLs X) (d : Nat) (a1 : Int) (S : qSto) (o : qSto) (h : M_layTens a1 S = some o) (Q : Option qV → qSto → Prop) (hQ : Q none o) : qC X (d + 1) yX12_layTens cX12_layTens 3 none [qr 70, qi a1] S Q := by
  refine q_entry (lv := [(0, qr 70), (1, qi a1)]) pn_X12 (Nat.le_of_ble_eq_true rfl) rfl ?_
  unfold M_layTens at h
  refine q_iconst dX12_layTens_0 rfl rfl ?_
  refine q_istore_n (lv' := [(2, qi 0), (0, qr 70), (1, qi a1)]) dX12_layTens_1 (by decide) rfl rfl ?_
  obtain ⟨q3042, h3043, h⟩ := Option.bind_eq_some_iff.mp h
  refine q_pick [1, 2, 0] rfl (M_layTens_L2_ok hL d qF a1 0 _ _ h3043 ?_)
  cases h
  exact q_return dX12_layTens_55 rfl hQ
set_option maxRecDepth 20000 in
theorem M_fitsAt_L18_ok {X : qX} (hL : ∀ c, c < 93 → c ∈ qLs X) (d : Nat) {Q : Option qV → qSto → Prop} : ∀ (n : Nat) (x1 : Int) (x2 : Int) (x3 : Int) (S : qSto) (o : (qSto ⊕ (Int × qSto))), M_fitsAt_L18 n x1 x2 x3 S = some o → (∀ t, o = Sum.inl t → qW X (d + 5) yX12_fitsAt cX12_fitsAt 4 (some .boolean) 102 [] [] t Q) → (∀ w, o = Sum.inr w → Q (some (qi w.1)) w.2) → qW X (d + 5) yX12_fitsAt cX12_fitsAt 4 (some .boolean) 18 [(0, qr 70), (1, qi x1), (2, qi x2), (3, qi x3)] [] S Q := by
  intro n
  induction n with
  | zero =>
    intro x1 x2 x3 S o h
    simp [M_fitsAt_L18] at h
  | succ n ih =>
    intro x1 x2 x3 S o h hE hR
    rw [M_fitsAt_L18] at h
    refine q_bipush dX12_fitsAt_18 (by decide) rfl ?_
    refine q_iload_n dX12_fitsAt_20 rfl rfl ?_
    refine q_imul dX12_fitsAt_21 rfl ?_
    refine q_aload_n dX12_fitsAt_22 rfl rfl ?_
    refine q_iload_n dX12_fitsAt_23 rfl rfl ?_
    refine q_iconst dX12_fitsAt_24 rfl rfl ?_
    obtain ⟨q3065, h3066, h⟩ := Option.bind_eq_some_iff.mp h
    refine q_callVi (as := [qi x1, qi 0]) (c := 70) dX12_fitsAt_25 ml_X12_316 rfl rfl (hL 70 (by decide)) sh_70 rfl rfl (Nat.le_of_ble_eq_true rfl) (M_of_ok hL (d + 4) x1 0 _ _ h3066) rfl ?_
    refine q_iadd dX12_fitsAt_28 rfl ?_
    refine q_aload_n dX12_fitsAt_29 rfl rfl ?_
    refine q_getA dX12_fitsAt_30 fl_X12_13 (hL 70 (by decide)) sh_70 (by decide) rfl rfl ?_
    refine q_iconst dX12_fitsAt_33 rfl rfl ?_
    refine q_iaload dX12_fitsAt_34 (hL 72 (by decide)) sh_72 (by decide) (by decide) rfl ?_
    obtain ⟨c3067, h⟩ := qk_some h
    obtain ⟨c3068, h⟩ := qk_some h
    refine q_icmp_gt (tgt := 102) dX12_fitsAt_35 (by decide) rfl (qRb_R c3067) (qRb_R c3068) (fun g => ?_) (fun g => ?_)
    · rw [if_pos (show (q3065.2 72 0) < ((10 * x3) + q3065.1) from g)] at h
      cases h
      exact q_pick [] rfl (hE _ rfl)
    · rw [if_neg (show ¬ ((q3065.2 72 0) < ((10 * x3) + q3065.1)) from g)] at h
      refine q_aload_n dX12_fitsAt_38 rfl rfl ?_
      refine q_getA dX12_fitsAt_39 fl_X12_54 (hL 70 (by decide)) sh_70 (by decide) rfl rfl ?_
      refine q_iload_n dX12_fitsAt_42 rfl rfl ?_
      obtain ⟨c3069, h⟩ := qk_some h
      refine q_iaload dX12_fitsAt_43 (hL 84 (by decide)) sh_84 (qIx_0 c3069) (qIx_1 c3069) rfl ?_
      refine q_iload_n dX12_fitsAt_44 rfl rfl ?_
      refine q_iadd dX12_fitsAt_45 rfl ?_
      refine q_aload_n dX12_fitsAt_46 rfl rfl ?_
      refine q_iload_n dX12_fitsAt_47 rfl rfl ?_
      obtain ⟨q3070, h3071, h⟩ := Option.bind_eq_some_iff.mp h
      refine q_callVi (as := [qi x1]) (c := 70) dX12_fitsAt_48 ml_X12_367 rfl rfl (hL 70 (by decide)) sh_70 rfl rfl (Nat.le_of_ble_eq_true rfl) (M_needOf_ok hL (d + 3) x1 _ _ h3071) rfl ?_
      obtain ⟨c3072, h⟩ := qk_some h
      obtain ⟨c3073, h⟩ := qk_some h
      refine q_icmp_ge (tgt := 57) dX12_fitsAt_51 (by decide) rfl (qRb_R c3072) (qRb_R c3073) (fun g => ?_) (fun g => ?_)
      · rw [if_pos (show q3070.1 ≤ ((q3065.2 84 (Int.toNat x3)) + x2) from g)] at h
        refine q_aload_n dX12_fitsAt_57 rfl rfl ?_
        refine q_getA dX12_fitsAt_58 fl_X12_36 (hL 70 (by decide)) sh_70 (by decide) rfl rfl ?_
        refine q_iload_n dX12_fitsAt_61 rfl rfl ?_
        refine q_bipush dX12_fitsAt_62 (by decide) rfl ?_
        refine q_iload_n dX12_fitsAt_64 rfl rfl ?_
        refine q_imul dX12_fitsAt_65 rfl ?_
        obtain ⟨c3074, h⟩ := qk_some h
        refine q_iastore dX12_fitsAt_66 (hL 78 (by decide)) sh_78 (qIx_0 c3074) (qIx_1 c3074) rfl ?_
        refine q_aload_n dX12_fitsAt_67 rfl rfl ?_
        refine q_iload_n dX12_fitsAt_68 rfl rfl ?_
        obtain ⟨q3075, h3076, h⟩ := Option.bind_eq_some_iff.mp h
        refine q_callVi (as := [qi x1]) (c := 70) dX12_fitsAt_69 ml_X12_370 rfl rfl (hL 70 (by decide)) sh_70 rfl rfl (Nat.le_of_ble_eq_true rfl) (M_waysOf_ok hL (d + 1) x1 _ _ h3076) rfl ?_
        obtain ⟨c3077, h⟩ := qk_some h
        refine q_if_ne (tgt := 96) dX12_fitsAt_72 (by decide) rfl (qRb_R c3077)  (fun g => ?_) (fun g => ?_)
        · rw [if_neg (show ¬ (q3075.1 = 0) from g)] at h
          refine q_iinc (lv' := [(3, qi (x3 + 1)), (0, qr 70), (1, qi x1), (2, qi x2)]) dX12_fitsAt_96 (by decide) rfl rfl rfl ?_
          refine q_goto (pc' := 18) dX12_fitsAt_99 (by decide) ?_
          exact q_pick [1, 2, 3, 0] rfl (ih x1 x2 (x3 + 1) _ _ h hE hR)
        · rw [if_pos (show q3075.1 = 0 from g)] at h
          refine q_aload_n dX12_fitsAt_75 rfl rfl ?_
          refine q_iload_n dX12_fitsAt_76 rfl rfl ?_
          obtain ⟨q3078, h3079, h⟩ := Option.bind_eq_some_iff.mp h
          refine q_callVi (as := [qi x1]) (c := 70) dX12_fitsAt_77 ml_X12_376 rfl rfl (hL 70 (by decide)) sh_70 rfl rfl (Nat.le_of_ble_eq_true rfl) (M_hasCranes_ok hL d x1 _ _ h3079) rfl ?_
          obtain ⟨c3080, h⟩ := qk_some h
          refine q_if_ne (tgt := 86) dX12_fitsAt_80 (by decide) rfl (qRb_R c3080)  (fun g => ?_) (fun g => ?_)
          · rw [if_neg (show ¬ (q3078.1 = 0) from g)] at h
            refine q_aload_n dX12_fitsAt_86 rfl rfl ?_
            refine q_bipush dX12_fitsAt_87 (by decide) rfl ?_
            refine q_iload_n dX12_fitsAt_89 rfl rfl ?_
            refine q_imul dX12_fitsAt_90 rfl ?_
            refine q_putI dX12_fitsAt_91 fl_X12_393 (hL 70 (by decide)) sh_70 (by decide) pf_12_28 pt_12_28 rfl rfl ?_
            refine q_iconst dX12_fitsAt_94 rfl rfl ?_
            cases h
            exact q_zreturn dX12_fitsAt_95 rfl (by decide) (hR _ rfl)
          · rw [if_pos (show q3078.1 = 0 from g)] at h
            refine q_goto (pc' := 96) dX12_fitsAt_83 (by decide) ?_
            refine q_iinc (lv' := [(3, qi (x3 + 1)), (0, qr 70), (1, qi x1), (2, qi x2)]) dX12_fitsAt_96 (by decide) rfl rfl rfl ?_
            refine q_goto (pc' := 18) dX12_fitsAt_99 (by decide) ?_
            exact q_pick [1, 2, 3, 0] rfl (ih x1 x2 (x3 + 1) _ _ h hE hR)
      · rw [if_neg (show ¬ (q3070.1 ≤ ((q3065.2 84 (Int.toNat x3)) + x2)) from g)] at h
        refine q_goto (pc' := 96) dX12_fitsAt_54 (by decide) ?_
        refine q_iinc (lv' := [(3, qi (x3 + 1)), (0, qr 70), (1, qi x1), (2, qi x2)]) dX12_fitsAt_96 (by decide) rfl rfl rfl ?_
        refine q_goto (pc' := 18) dX12_fitsAt_99 (by decide) ?_
        exact q_pick [1, 2, 3, 0] rfl (ih x1 x2 (x3 + 1) _ _ h hE hR)
set_option maxRecDepth 20000 in
theorem M_fitsAt_ok {X : qX} (hL : ∀ c, c < 93 → c ∈ qLs X) (d : Nat) (a1 : Int) (S : qSto) (o : (Int × qSto)) (h : M_fitsAt a1 S = some o) (Q : Option qV → qSto → Prop) (hQ : Q (some (qi o.1)) o.2) : qC X (d + 5) yX12_fitsAt cX12_fitsAt 4 (some .boolean) [qr 70, qi a1] S Q := by
  refine q_entry (lv := [(0, qr 70), (1, qi a1)]) pn_X12 (Nat.le_of_ble_eq_true rfl) rfl ?_
  unfold M_fitsAt at h
  refine q_aload_n dX12_fitsAt_0 rfl rfl ?_
  refine q_iload_n dX12_fitsAt_1 rfl rfl ?_
  obtain ⟨q3060, h3061, h⟩ := Option.bind_eq_some_iff.mp h
  refine q_callVi (as := [qi a1]) (c := 70) dX12_fitsAt_2 ml_X12_373 rfl rfl (hL 70 (by decide)) sh_70 rfl rfl (Nat.le_of_ble_eq_true rfl) (M_hasGangs_ok hL (d + 1) a1 _ _ h3061) rfl ?_
  obtain ⟨c3062, h⟩ := qk_some h
  refine q_if_ne (tgt := 10) dX12_fitsAt_5 (by decide) rfl (qRb_R c3062)  (fun g => ?_) (fun g => ?_)
  · rw [if_neg (show ¬ (q3060.1 = 0) from g)] at h
    refine q_aload_n dX12_fitsAt_10 rfl rfl ?_
    refine q_iload_n dX12_fitsAt_11 rfl rfl ?_
    obtain ⟨q3063, h3064, h⟩ := Option.bind_eq_some_iff.mp h
    refine q_callVi (as := [qi a1]) (c := 70) dX12_fitsAt_12 ml_X12_364 rfl rfl (hL 70 (by decide)) sh_70 rfl rfl (Nat.le_of_ble_eq_true rfl) (M_lowestIn_ok hL (d + 4) a1 _ _ h3064) rfl ?_
    refine q_istore_n (lv' := [(2, qi q3063.1), (0, qr 70), (1, qi a1)]) dX12_fitsAt_15 (by decide) rfl rfl ?_
    refine q_iconst dX12_fitsAt_16 rfl rfl ?_
    refine q_istore_n (lv' := [(3, qi 0), (2, qi q3063.1), (0, qr 70), (1, qi a1)]) dX12_fitsAt_17 (by decide) rfl rfl ?_
    obtain ⟨q3081, h3082, h⟩ := Option.bind_eq_some_iff.mp h
    refine q_pick [2, 3, 1, 0] rfl (M_fitsAt_L18_ok hL d qF a1 q3063.1 0 _ _ h3082 (fun t3083 e4246 => ?_) (fun w e4246 => ?_))
    · subst e4246
      simp only [Sum.elim_inl] at h
      refine q_iconst dX12_fitsAt_102 rfl rfl ?_
      cases h
      exact q_zreturn dX12_fitsAt_103 rfl (by decide) hQ
    · subst e4246
      simp only [Sum.elim_inr] at h
      cases h
      exact hQ
  · rw [if_pos (show q3060.1 = 0 from g)] at h
    refine q_iconst dX12_fitsAt_8 rfl rfl ?_
    cases h
    exact q_zreturn dX12_fitsAt_9 rfl (by decide) hQ
set_option maxRecDepth 20000 in
theorem M_seeks_L63_ok {X : qX} (hL : ∀ c, c < 93 → c ∈ qLs X) (d : Nat) {Q : Option qV → qSto → Prop} : ∀ (n : Nat) (x1 : Int) (x2 : Int) (x3 : Int) (x4 : Int) (x5 : Int) (x6 : Int) (x7 : Int) (S : qSto) (o : (Int × qSto)), M_seeks_L63 n x1 x2 x6 x7 S = some o → (qW X (d + 6) yX12_seeks cX12_seeks 8 (some .boolean) 134 [(0, qr 70), (1, qi x1), (3, qi x3), (4, qi x4), (5, qi x5), (6, qi o.1)] [] o.2 Q) → qW X (d + 6) yX12_seeks cX12_seeks 8 (some .boolean) 63 [(0, qr 70), (1, qi x1), (2, qi x2), (3, qi x3), (4, qi x4), (5, qi x5), (6, qi x6), (7, qi x7)] [] S Q := by
  intro n
  induction n with
  | zero =>
    intro x1 x2 x3 x4 x5 x6 x7 S o h
    simp [M_seeks_L63] at h
  | succ n ih =>
    intro x1 x2 x3 x4 x5 x6 x7 S o h hE
    rw [M_seeks_L63] at h
    refine q_iload dX12_seeks_63 rfl rfl ?_
    refine q_sipush dX12_seeks_65 (by decide) rfl ?_
    obtain ⟨c3048, h⟩ := qk_some h
    refine q_icmp_gt (tgt := 134) dX12_seeks_68 (by decide) rfl (qRb_R c3048) ⟨by decide, by decide⟩ (fun g => ?_) (fun g => ?_)
    · rw [if_pos (show 335 < x7 from g)] at h
      cases h
      exact q_pick [0, 1, 3, 4, 5, 6] rfl (hE)
    · rw [if_neg (show ¬ (335 < x7) from g)] at h
      refine q_iload dX12_seeks_71 rfl rfl ?_
      obtain ⟨c3049, h⟩ := qk_some h
      refine q_if_ne (tgt := 134) dX12_seeks_73 (by decide) rfl (qRb_R c3049)  (fun g => ?_) (fun g => ?_)
      · rw [if_neg (show ¬ (x6 = 0) from g)] at h
        cases h
        exact q_pick [0, 1, 3, 4, 5, 6] rfl (hE)
      · rw [if_pos (show x6 = 0 from g)] at h
        refine q_aload_n dX12_seeks_76 rfl rfl ?_
        refine q_aload_n dX12_seeks_77 rfl rfl ?_
        refine q_iload_n dX12_seeks_78 rfl rfl ?_
        refine q_iconst dX12_seeks_79 rfl rfl ?_
        obtain ⟨q3050, h3051, h⟩ := Option.bind_eq_some_iff.mp h
        refine q_callVi (as := [qi x1, qi 1]) (c := 70) dX12_seeks_80 ml_X12_316 rfl rfl (hL 70 (by decide)) sh_70 rfl rfl (Nat.le_of_ble_eq_true rfl) (M_of_ok hL (d + 5) x1 1 _ _ h3051) rfl ?_
        refine q_iload dX12_seeks_83 rfl rfl ?_
        obtain ⟨q3052, h3053, h⟩ := Option.bind_eq_some_iff.mp h
        refine q_callVi (as := [qi q3050.1, qi x7]) (c := 70) dX12_seeks_85 ml_X12_308 rfl rfl (hL 70 (by decide)) sh_70 rfl rfl (Nat.le_of_ble_eq_true rfl) (M_isOpen_ok hL (d + 5) q3050.1 x7 _ _ h3053) rfl ?_
        refine q_jn (G := fun (t3086 : (Int × qSto)) => qW X (d + 6) yX12_seeks cX12_seeks 8 (some .boolean) 128 [(0, qr 70), (1, qi x1), (2, qi x2), (3, qi x3), (4, qi x4), (5, qi x5), (6, qi t3086.1), (7, qi x7)] [] t3086.2 Q) h (fun t3086 h => ?_) (fun t3086 h hk4247 => ?_)
        · try dsimp only at h
          refine q_iinc (lv' := [(7, qi (x7 + 1)), (0, qr 70), (1, qi x1), (2, qi x2), (3, qi x3), (4, qi x4), (5, qi x5), (6, qi t3086.1)]) dX12_seeks_128 (by decide) rfl rfl rfl ?_
          refine q_goto (pc' := 63) dX12_seeks_131 (by decide) ?_
          exact q_pick [1, 2, 3, 4, 5, 6, 7, 0] rfl (ih x1 x2 x3 x4 x5 t3086.1 (x7 + 1) _ _ h hE)
        · skip
          obtain ⟨c3054, h⟩ := qk_some h
          refine q_if_eq (tgt := 128) dX12_seeks_88 (by decide) rfl (qRb_R c3054)  (fun g => ?_) (fun g => ?_)
          · rw [if_pos (show q3052.1 = 0 from g)] at h
            cases h
            exact q_pick [0, 1, 2, 3, 4, 5, 6, 7] rfl hk4247
          · rw [if_neg (show ¬ (q3052.1 = 0) from g)] at h
            refine q_aload_n dX12_seeks_91 rfl rfl ?_
            refine q_iload_n dX12_seeks_92 rfl rfl ?_
            refine q_iload dX12_seeks_93 rfl rfl ?_
            refine q_iload_n dX12_seeks_95 rfl rfl ?_
            obtain ⟨q3055, h3056, h⟩ := Option.bind_eq_some_iff.mp h
            refine q_callVi (as := [qi x1, qi x7, qi x2]) (c := 70) dX12_seeks_96 ml_X12_322 rfl rfl (hL 70 (by decide)) sh_70 rfl rfl (Nat.le_of_ble_eq_true rfl) (M_leaveBy_ok hL (d + 3) x1 x7 x2 _ _ h3056) rfl ?_
            refine q_iconst dX12_seeks_99 rfl rfl ?_
            obtain ⟨c3057, h⟩ := qk_some h
            refine q_icmp_ne (tgt := 106) dX12_seeks_100 (by decide) rfl (qRb_R c3057) ⟨by decide, by decide⟩ (fun g => ?_) (fun g => ?_)
            · rw [if_neg (show ¬ (q3055.1 = (-1)) from g)] at h
              refine q_aload_n dX12_seeks_106 rfl rfl ?_
              refine q_iload_n dX12_seeks_107 rfl rfl ?_
              refine q_iconst dX12_seeks_108 rfl rfl ?_
              refine q_iload dX12_seeks_109 rfl rfl ?_
              refine q_iload_n dX12_seeks_111 rfl rfl ?_
              obtain ⟨q3058, h3059, h⟩ := Option.bind_eq_some_iff.mp h
              refine q_callVv (as := [qi x1, qi 0, qi x7, qi x2]) (c := 70) dX12_seeks_112 ml_X12_383 rfl rfl (hL 70 (by decide)) sh_70 rfl rfl (Nat.le_of_ble_eq_true rfl) (M_lay_ok hL (d + 2) x1 0 x7 x2 _ _ h3059) rfl ?_
              refine q_aload_n dX12_seeks_115 rfl rfl ?_
              refine q_iload_n dX12_seeks_116 rfl rfl ?_
              obtain ⟨q3084, h3085, h⟩ := Option.bind_eq_some_iff.mp h
              refine q_callVi (as := [qi x1]) (c := 70) dX12_seeks_117 ml_X12_399 rfl rfl (hL 70 (by decide)) sh_70 rfl rfl (Nat.le_of_ble_eq_true rfl) (M_fitsAt_ok hL d x1 _ _ h3085) rfl ?_
              refine q_istore (lv' := [(6, qi q3084.1), (0, qr 70), (1, qi x1), (2, qi x2), (3, qi x3), (4, qi x4), (5, qi x5), (7, qi x7)]) dX12_seeks_120 (by decide) rfl rfl ?_
              refine q_aload_n dX12_seeks_122 rfl rfl ?_
              refine q_iload dX12_seeks_123 rfl rfl ?_
              refine q_putI dX12_seeks_125 fl_X12_402 (hL 70 (by decide)) sh_70 (by decide) pf_12_27 pt_12_27 rfl rfl ?_
              cases h
              exact q_pick [1, 2, 3, 4, 5, 6, 0, 7] rfl hk4247
            · rw [if_pos (show q3055.1 = (-1) from g)] at h
              refine q_goto (pc' := 128) dX12_seeks_103 (by decide) ?_
              cases h
              exact q_pick [0, 1, 2, 3, 4, 5, 6, 7] rfl hk4247
set_option maxRecDepth 20000 in
theorem M_seeks_ok {X : qX} (hL : ∀ c, c < 93 → c ∈ qLs X) (d : Nat) (a1 : Int) (a2 : Int) (S : qSto) (o : (Int × qSto)) (h : M_seeks a1 a2 S = some o) (Q : Option qV → qSto → Prop) (hQ : Q (some (qi o.1)) o.2) : qC X (d + 6) yX12_seeks cX12_seeks 8 (some .boolean) [qr 70, qi a1, qi a2] S Q := by
  refine q_entry (lv := [(0, qr 70), (1, qi a1), (2, qi a2)]) pn_X12 (Nat.le_of_ble_eq_true rfl) rfl ?_
  unfold M_seeks at h
  refine q_iload_n dX12_seeks_0 rfl rfl ?_
  refine q_aload_n dX12_seeks_1 rfl rfl ?_
  refine q_iload_n dX12_seeks_2 rfl rfl ?_
  refine q_bipush dX12_seeks_3 (by decide) rfl ?_
  obtain ⟨q3022, h3023, h⟩ := Option.bind_eq_some_iff.mp h
  refine q_callVi (as := [qi a1, qi 7]) (c := 70) dX12_seeks_5 ml_X12_316 rfl rfl (hL 70 (by decide)) sh_70 rfl rfl (Nat.le_of_ble_eq_true rfl) (M_of_ok hL (d + 5) a1 7 _ _ h3023) rfl ?_
  obtain ⟨c3024, h⟩ := qk_some h
  obtain ⟨c3025, h⟩ := qk_some h
  refine q_icmp_lt (tgt := 22) dX12_seeks_8 (by decide) rfl (qRb_R c3024) (qRb_R c3025) (fun g => ?_) (fun g => ?_)
  · rw [if_pos (show a2 < q3022.1 from g)] at h
    refine q_iconst dX12_seeks_22 rfl rfl ?_
    cases h
    exact q_zreturn dX12_seeks_23 rfl (by decide) hQ
  · rw [if_neg (show ¬ (a2 < q3022.1) from g)] at h
    refine q_iload_n dX12_seeks_11 rfl rfl ?_
    refine q_aload_n dX12_seeks_12 rfl rfl ?_
    refine q_iload_n dX12_seeks_13 rfl rfl ?_
    refine q_bipush dX12_seeks_14 (by decide) rfl ?_
    obtain ⟨q3026, h3027, h⟩ := Option.bind_eq_some_iff.mp h
    refine q_callVi (as := [qi a1, qi 8]) (c := 70) dX12_seeks_16 ml_X12_316 rfl rfl (hL 70 (by decide)) sh_70 rfl rfl (Nat.le_of_ble_eq_true rfl) (M_of_ok hL (d + 5) a1 8 _ _ h3027) rfl ?_
    obtain ⟨c3028, h⟩ := qk_some h
    obtain ⟨c3029, h⟩ := qk_some h
    refine q_icmp_le (tgt := 24) dX12_seeks_19 (by decide) rfl (qRb_R c3028) (qRb_R c3029) (fun g => ?_) (fun g => ?_)
    · rw [if_pos (show a2 ≤ q3026.1 from g)] at h
      refine q_aload_n dX12_seeks_24 rfl rfl ?_
      refine q_getA dX12_seeks_25 fl_X12_36 (hL 70 (by decide)) sh_70 (by decide) rfl rfl ?_
      refine q_iload_n dX12_seeks_28 rfl rfl ?_
      obtain ⟨c3030, h⟩ := qk_some h
      refine q_iaload dX12_seeks_29 (hL 78 (by decide)) sh_78 (qIx_0 c3030) (qIx_1 c3030) rfl ?_
      refine q_istore_n (lv' := [(3, qi (q3026.2 78 (Int.toNat a1))), (0, qr 70), (1, qi a1), (2, qi a2)]) dX12_seeks_30 (by decide) rfl rfl ?_
      refine q_aload_n dX12_seeks_31 rfl rfl ?_
      refine q_getA dX12_seeks_32 fl_X12_39 (hL 70 (by decide)) sh_70 (by decide) rfl rfl ?_
      refine q_iload_n dX12_seeks_35 rfl rfl ?_
      obtain ⟨c3031, h⟩ := qk_some h
      refine q_iaload dX12_seeks_36 (hL 79 (by decide)) sh_79 (qIx_0 c3031) (qIx_1 c3031) rfl ?_
      refine q_istore (lv' := [(4, qi (q3026.2 79 (Int.toNat a1))), (3, qi (q3026.2 78 (Int.toNat a1))), (0, qr 70), (1, qi a1), (2, qi a2)]) dX12_seeks_37 (by decide) rfl rfl ?_
      refine q_aload_n dX12_seeks_39 rfl rfl ?_
      refine q_getA dX12_seeks_40 fl_X12_42 (hL 70 (by decide)) sh_70 (by decide) rfl rfl ?_
      refine q_iload_n dX12_seeks_43 rfl rfl ?_
      obtain ⟨c3032, h⟩ := qk_some h
      refine q_iaload dX12_seeks_44 (hL 80 (by decide)) sh_80 (qIx_0 c3032) (qIx_1 c3032) rfl ?_
      refine q_istore (lv' := [(5, qi (q3026.2 80 (Int.toNat a1))), (4, qi (q3026.2 79 (Int.toNat a1))), (3, qi (q3026.2 78 (Int.toNat a1))), (0, qr 70), (1, qi a1), (2, qi a2)]) dX12_seeks_45 (by decide) rfl rfl ?_
      refine q_aload_n dX12_seeks_47 rfl rfl ?_
      refine q_iload_n dX12_seeks_48 rfl rfl ?_
      obtain ⟨q3044, h3045, h⟩ := Option.bind_eq_some_iff.mp h
      refine q_callVv (as := [qi a1]) (c := 70) dX12_seeks_49 ml_X12_396 rfl rfl (hL 70 (by decide)) sh_70 rfl rfl (Nat.le_of_ble_eq_true rfl) (M_layTens_ok hL (d + 4) a1 _ _ h3045) rfl ?_
      refine q_iconst dX12_seeks_52 rfl rfl ?_
      refine q_istore (lv' := [(6, qi 0), (5, qi (q3026.2 80 (Int.toNat a1))), (4, qi (q3026.2 79 (Int.toNat a1))), (3, qi (q3026.2 78 (Int.toNat a1))), (0, qr 70), (1, qi a1), (2, qi a2)]) dX12_seeks_53 (by decide) rfl rfl ?_
      refine q_aload_n dX12_seeks_55 rfl rfl ?_
      refine q_iload_n dX12_seeks_56 rfl rfl ?_
      refine q_iconst dX12_seeks_57 rfl rfl ?_
      obtain ⟨q3046, h3047, h⟩ := Option.bind_eq_some_iff.mp h
      refine q_callVi (as := [qi a1, qi 4]) (c := 70) dX12_seeks_58 ml_X12_316 rfl rfl (hL 70 (by decide)) sh_70 rfl rfl (Nat.le_of_ble_eq_true rfl) (M_of_ok hL (d + 5) a1 4 _ _ h3047) rfl ?_
      refine q_istore (lv' := [(7, qi q3046.1), (6, qi 0), (5, qi (q3026.2 80 (Int.toNat a1))), (4, qi (q3026.2 79 (Int.toNat a1))), (3, qi (q3026.2 78 (Int.toNat a1))), (0, qr 70), (1, qi a1), (2, qi a2)]) dX12_seeks_61 (by decide) rfl rfl ?_
      obtain ⟨q3087, h3088, h⟩ := Option.bind_eq_some_iff.mp h
      refine q_pick [5, 6, 7, 4, 3, 2, 1, 0] rfl (M_seeks_L63_ok hL d qF a1 a2 (q3026.2 78 (Int.toNat a1)) (q3026.2 79 (Int.toNat a1)) (q3026.2 80 (Int.toNat a1)) 0 q3046.1 _ _ h3088 ?_)
      refine q_aload_n dX12_seeks_134 rfl rfl ?_
      refine q_iload_n dX12_seeks_135 rfl rfl ?_
      refine q_iload_n dX12_seeks_136 rfl rfl ?_
      refine q_iload dX12_seeks_137 rfl rfl ?_
      refine q_iload dX12_seeks_139 rfl rfl ?_
      obtain ⟨q3089, h3090, h⟩ := Option.bind_eq_some_iff.mp h
      refine q_callVv (as := [qi a1, qi (q3026.2 78 (Int.toNat a1)), qi (q3026.2 79 (Int.toNat a1)), qi (q3026.2 80 (Int.toNat a1))]) (c := 70) dX12_seeks_141 ml_X12_383 rfl rfl (hL 70 (by decide)) sh_70 rfl rfl (Nat.le_of_ble_eq_true rfl) (M_lay_ok hL (d + 2) a1 (q3026.2 78 (Int.toNat a1)) (q3026.2 79 (Int.toNat a1)) (q3026.2 80 (Int.toNat a1)) _ _ h3090) rfl ?_
      refine q_iload dX12_seeks_144 rfl rfl ?_
      obtain ⟨c3091, h⟩ := qk_some h
      cases h
      exact q_zreturn dX12_seeks_146 rfl (qZb_Z c3091) hQ
    · rw [if_neg (show ¬ (a2 ≤ q3026.1) from g)] at h
      refine q_iconst dX12_seeks_22 rfl rfl ?_
      cases h
      exact q_zreturn dX12_seeks_23 rfl (by decide) hQ
set_option maxRecDepth 20000 in
theorem M_earliest_ok {X : qX} (hL : ∀ c, c < 93 → c ∈ qLs X) (d : Nat) (a1 : Int) (a2 : Int) (a3 : Int) (S : qSto) (o : (Int × qSto)) (h : M_earliest a1 a2 a3 S = some o) (Q : Option qV → qSto → Prop) (hQ : Q (some (qi o.1)) o.2) : qC X (d + 7) yX12_earliest cX12_earliest 4 (some .int) [qr 70, qi a1, qi a2, qi a3] S Q := by
  refine q_entry (lv := [(0, qr 70), (1, qi a1), (2, qi a2), (3, qi a3)]) pn_X12 (Nat.le_of_ble_eq_true rfl) rfl ?_
  unfold M_earliest at h
  refine q_aload_n dX12_earliest_0 rfl rfl ?_
  refine q_iload_n dX12_earliest_1 rfl rfl ?_
  obtain ⟨q3011, h3012, h⟩ := Option.bind_eq_some_iff.mp h
  refine q_callVi (as := [qi a1]) (c := 70) dX12_earliest_2 ml_X12_297 rfl rfl (hL 70 (by decide)) sh_70 rfl rfl (Nat.le_of_ble_eq_true rfl) (M_isShip_ok hL (d + 5) a1 _ _ h3012) rfl ?_
  obtain ⟨c3013, h⟩ := qk_some h
  refine q_if_eq (tgt := 32) dX12_earliest_5 (by decide) rfl (qRb_R c3013)  (fun g => ?_) (fun g => ?_)
  · rw [if_pos (show q3011.1 = 0 from g)] at h
    refine q_iconst dX12_earliest_32 rfl rfl ?_
    cases h
    exact q_ireturn dX12_earliest_33 rfl hQ
  · rw [if_neg (show ¬ (q3011.1 = 0) from g)] at h
    refine q_iload_n dX12_earliest_8 rfl rfl ?_
    obtain ⟨c3014, h⟩ := qk_some h
    refine q_i2l dX12_earliest_9 (qRb_R c3014) rfl ?_
    refine q_lconst (v := 1) dX12_earliest_10 rfl rfl ?_
    refine q_ldc2 (v := 8) dX12_earliest_11 qw_1683 rfl ?_
    obtain ⟨q3015, h3016, h⟩ := Option.bind_eq_some_iff.mp h
    refine q_callSi (as := [ql a2, ql 1, ql 8]) dX12_earliest_14 ml_X12_99 rfl rfl (Nat.le_of_ble_eq_true rfl) (M_in_ok hL (d + 6) a2 1 8 _ _ h3016) rfl ?_
    obtain ⟨c3017, h⟩ := qk_some h
    refine q_if_eq (tgt := 32) dX12_earliest_17 (by decide) rfl (qRb_R c3017)  (fun g => ?_) (fun g => ?_)
    · rw [if_pos (show q3015.1 = 0 from g)] at h
      refine q_iconst dX12_earliest_32 rfl rfl ?_
      cases h
      exact q_ireturn dX12_earliest_33 rfl hQ
    · rw [if_neg (show ¬ (q3015.1 = 0) from g)] at h
      refine q_iload_n dX12_earliest_20 rfl rfl ?_
      obtain ⟨c3018, h⟩ := qk_some h
      refine q_i2l dX12_earliest_21 (qRb_R c3018) rfl ?_
      refine q_lconst (v := 0) dX12_earliest_22 rfl rfl ?_
      refine q_ldc2 (v := 2) dX12_earliest_23 qw_1670 rfl ?_
      obtain ⟨q3019, h3020, h⟩ := Option.bind_eq_some_iff.mp h
      refine q_callSi (as := [ql a3, ql 0, ql 2]) dX12_earliest_26 ml_X12_99 rfl rfl (Nat.le_of_ble_eq_true rfl) (M_in_ok hL (d + 6) a3 0 2 _ _ h3020) rfl ?_
      obtain ⟨c3021, h⟩ := qk_some h
      refine q_if_ne (tgt := 34) dX12_earliest_29 (by decide) rfl (qRb_R c3021)  (fun g => ?_) (fun g => ?_)
      · rw [if_neg (show ¬ (q3019.1 = 0) from g)] at h
        refine q_aload_n dX12_earliest_34 rfl rfl ?_
        refine q_iload_n dX12_earliest_35 rfl rfl ?_
        refine q_iload_n dX12_earliest_36 rfl rfl ?_
        obtain ⟨q3092, h3093, h⟩ := Option.bind_eq_some_iff.mp h
        refine q_callVi (as := [qi a1, qi a2]) (c := 70) dX12_earliest_37 ml_X12_405 rfl rfl (hL 70 (by decide)) sh_70 rfl rfl (Nat.le_of_ble_eq_true rfl) (M_seeks_ok hL d a1 a2 _ _ h3093) rfl ?_
        obtain ⟨c3094, h⟩ := qk_some h
        refine q_if_ne (tgt := 46) dX12_earliest_40 (by decide) rfl (qRb_R c3094)  (fun g => ?_) (fun g => ?_)
        · rw [if_neg (show ¬ (q3092.1 = 0) from g)] at h
          refine q_iload_n dX12_earliest_46 rfl rfl ?_
          obtain ⟨c3095, h⟩ := qk_some h
          refine q_if_ne (tgt := 57) dX12_earliest_47 (by decide) rfl (qRb_R c3095)  (fun g => ?_) (fun g => ?_)
          · rw [if_neg (show ¬ (a3 = 0) from g)] at h
            refine q_iload_n dX12_earliest_57 rfl rfl ?_
            refine q_iconst dX12_earliest_58 rfl rfl ?_
            obtain ⟨c3096, h⟩ := qk_some h
            refine q_icmp_ne (tgt := 69) dX12_earliest_59 (by decide) rfl (qRb_R c3096) ⟨by decide, by decide⟩ (fun g => ?_) (fun g => ?_)
            · rw [if_neg (show ¬ (a3 = 1) from g)] at h
              refine q_aload_n dX12_earliest_69 rfl rfl ?_
              refine q_iload_n dX12_earliest_70 rfl rfl ?_
              refine q_aload_n dX12_earliest_71 rfl rfl ?_
              refine q_getI dX12_earliest_72 fl_X12_402 (hL 70 (by decide)) sh_70 (by decide) rfl rfl ?_
              refine q_iload_n dX12_earliest_75 rfl rfl ?_
              obtain ⟨q3097, h3098, h⟩ := Option.bind_eq_some_iff.mp h
              refine q_callVi (as := [qi a1, qi (q3092.2 70 27), qi a2]) (c := 70) dX12_earliest_76 ml_X12_322 rfl rfl (hL 70 (by decide)) sh_70 rfl rfl (Nat.le_of_ble_eq_true rfl) (M_leaveBy_ok hL (d + 4) a1 (q3092.2 70 27) a2 _ _ h3098) rfl ?_
              cases h
              exact q_ireturn dX12_earliest_79 rfl hQ
            · rw [if_pos (show a3 = 1 from g)] at h
              refine q_aload_n dX12_earliest_62 rfl rfl ?_
              refine q_getI dX12_earliest_63 fl_X12_393 (hL 70 (by decide)) sh_70 (by decide) rfl rfl ?_
              refine q_goto (pc' := 79) dX12_earliest_66 (by decide) ?_
              cases h
              exact q_ireturn dX12_earliest_79 rfl hQ
          · rw [if_pos (show a3 = 0 from g)] at h
            refine q_aload_n dX12_earliest_50 rfl rfl ?_
            refine q_getI dX12_earliest_51 fl_X12_402 (hL 70 (by decide)) sh_70 (by decide) rfl rfl ?_
            refine q_goto (pc' := 79) dX12_earliest_54 (by decide) ?_
            cases h
            exact q_ireturn dX12_earliest_79 rfl hQ
        · rw [if_pos (show q3092.1 = 0 from g)] at h
          refine q_bipush dX12_earliest_43 (by decide) rfl ?_
          cases h
          exact q_ireturn dX12_earliest_45 rfl hQ
      · rw [if_pos (show q3019.1 = 0 from g)] at h
        refine q_iconst dX12_earliest_32 rfl rfl ?_
        cases h
        exact q_ireturn dX12_earliest_33 rfl hQ
set_option maxRecDepth 20000 in
theorem M_puts_L7_ok {X : qX} (hL : ∀ c, c < 93 → c ∈ qLs X) (d : Nat) {Q : Option qV → qSto → Prop} : ∀ (n : Nat) (x2 : Int) (x3 : Int) (S : qSto) (o : qSto), M_puts_L7 n x2 x3 S = some o → (qW X d yX12_puts cX12_puts 4 none 71 [] [] o Q) → qW X d yX12_puts cX12_puts 4 none 7 [(0, qr 70), (2, qi x2), (3, qi x3)] [] S Q := by
  intro n
  induction n with
  | zero =>
    intro x2 x3 S o h
    simp [M_puts_L7] at h
  | succ n ih =>
    intro x2 x3 S o h hE
    rw [M_puts_L7] at h
    refine q_iload_n dX12_puts_7 rfl rfl ?_
    refine q_bipush dX12_puts_8 (by decide) rfl ?_
    obtain ⟨c3110, h⟩ := qk_some h
    refine q_icmp_ge (tgt := 71) dX12_puts_10 (by decide) rfl (qRb_R c3110) ⟨by decide, by decide⟩ (fun g => ?_) (fun g => ?_)
    · rw [if_pos (show 14 ≤ x3 from g)] at h
      cases h
      exact q_pick [] rfl (hE)
    · rw [if_neg (show ¬ (14 ≤ x3) from g)] at h
      refine q_aload_n dX12_puts_13 rfl rfl ?_
      refine q_getA dX12_puts_14 fl_X12_57 (hL 70 (by decide)) sh_70 (by decide) rfl rfl ?_
      refine q_iload_n dX12_puts_17 rfl rfl ?_
      refine q_iconst dX12_puts_18 rfl rfl ?_
      refine q_iload_n dX12_puts_19 rfl rfl ?_
      refine q_imul dX12_puts_20 rfl ?_
      refine q_iadd dX12_puts_21 rfl ?_
      refine q_aload_n dX12_puts_22 rfl rfl ?_
      refine q_getA dX12_puts_23 fl_X12_36 (hL 70 (by decide)) sh_70 (by decide) rfl rfl ?_
      refine q_iload_n dX12_puts_26 rfl rfl ?_
      obtain ⟨c3111, h⟩ := qk_some h
      refine q_iaload dX12_puts_27 (hL 78 (by decide)) sh_78 (qIx_0 c3111) (qIx_1 c3111) rfl ?_
      obtain ⟨c3112, h⟩ := qk_some h
      refine q_iastore dX12_puts_28 (hL 85 (by decide)) sh_85 (qIx_0 c3112) (qIx_1 c3112) rfl ?_
      refine q_aload_n dX12_puts_29 rfl rfl ?_
      refine q_getA dX12_puts_30 fl_X12_57 (hL 70 (by decide)) sh_70 (by decide) rfl rfl ?_
      refine q_iload_n dX12_puts_33 rfl rfl ?_
      refine q_iconst dX12_puts_34 rfl rfl ?_
      refine q_iload_n dX12_puts_35 rfl rfl ?_
      refine q_imul dX12_puts_36 rfl ?_
      refine q_iadd dX12_puts_37 rfl ?_
      refine q_iconst dX12_puts_38 rfl rfl ?_
      refine q_iadd dX12_puts_39 rfl ?_
      refine q_aload_n dX12_puts_40 rfl rfl ?_
      refine q_getA dX12_puts_41 fl_X12_39 (hL 70 (by decide)) sh_70 (by decide) rfl rfl ?_
      refine q_iload_n dX12_puts_44 rfl rfl ?_
      obtain ⟨c3113, h⟩ := qk_some h
      refine q_iaload dX12_puts_45 (hL 79 (by decide)) sh_79 (qIx_0 c3113) (qIx_1 c3113) rfl ?_
      obtain ⟨c3114, h⟩ := qk_some h
      refine q_iastore dX12_puts_46 (hL 85 (by decide)) sh_85 (qIx_0 c3114) (qIx_1 c3114) rfl ?_
      refine q_aload_n dX12_puts_47 rfl rfl ?_
      refine q_getA dX12_puts_48 fl_X12_57 (hL 70 (by decide)) sh_70 (by decide) rfl rfl ?_
      refine q_iload_n dX12_puts_51 rfl rfl ?_
      refine q_iconst dX12_puts_52 rfl rfl ?_
      refine q_iload_n dX12_puts_53 rfl rfl ?_
      refine q_imul dX12_puts_54 rfl ?_
      refine q_iadd dX12_puts_55 rfl ?_
      refine q_iconst dX12_puts_56 rfl rfl ?_
      refine q_iadd dX12_puts_57 rfl ?_
      refine q_aload_n dX12_puts_58 rfl rfl ?_
      refine q_getA dX12_puts_59 fl_X12_42 (hL 70 (by decide)) sh_70 (by decide) rfl rfl ?_
      refine q_iload_n dX12_puts_62 rfl rfl ?_
      obtain ⟨c3115, h⟩ := qk_some h
      refine q_iaload dX12_puts_63 (hL 80 (by decide)) sh_80 (qIx_0 c3115) (qIx_1 c3115) rfl ?_
      obtain ⟨c3116, h⟩ := qk_some h
      refine q_iastore dX12_puts_64 (hL 85 (by decide)) sh_85 (qIx_0 c3116) (qIx_1 c3116) rfl ?_
      refine q_iinc (lv' := [(3, qi (x3 + 1)), (0, qr 70), (2, qi x2)]) dX12_puts_65 (by decide) rfl rfl rfl ?_
      refine q_goto (pc' := 7) dX12_puts_68 (by decide) ?_
      exact q_pick [1, 2, 0] rfl (ih x2 (x3 + 1) _ _ h hE)
set_option maxRecDepth 20000 in
theorem M_puts_ok {X : qX} (hL : ∀ c, c < 93 → c ∈ qLs X) (d : Nat) (a1 : Int) (S : qSto) (o : qSto) (h : M_puts a1 S = some o) (Q : Option qV → qSto → Prop) (hQ : Q none o) : qC X d yX12_puts cX12_puts 4 none [qr 70, qi a1] S Q := by
  refine q_entry (lv := [(0, qr 70), (1, qi a1)]) pn_X12 (Nat.le_of_ble_eq_true rfl) rfl ?_
  unfold M_puts at h
  refine q_bipush dX12_puts_0 (by decide) rfl ?_
  refine q_iload_n dX12_puts_2 rfl rfl ?_
  refine q_imul dX12_puts_3 rfl ?_
  refine q_istore_n (lv' := [(2, qi (42 * a1)), (0, qr 70), (1, qi a1)]) dX12_puts_4 (by decide) rfl rfl ?_
  refine q_iconst dX12_puts_5 rfl rfl ?_
  refine q_istore_n (lv' := [(3, qi 0), (2, qi (42 * a1)), (0, qr 70), (1, qi a1)]) dX12_puts_6 (by decide) rfl rfl ?_
  obtain ⟨q3117, h3118, h⟩ := Option.bind_eq_some_iff.mp h
  refine q_pick [2, 1, 0] rfl (M_puts_L7_ok hL d qF (42 * a1) 0 _ _ h3118 ?_)
  cases h
  exact q_return dX12_puts_71 rfl hQ
set_option maxRecDepth 20000 in
theorem M_copies_L2_ok {X : qX} (hL : ∀ c, c < 93 → c ∈ qLs X) (d : Nat) {Q : Option qV → qSto → Prop} : ∀ (n : Nat) (x1 : Int) (x2 : Int) (x3 : Int) (S : qSto) (o : qSto), M_copies_L2 n x1 x2 x3 S = some o → (qW X d yX12_copies cX12_copies 4 none 36 [] [] o Q) → qW X d yX12_copies cX12_copies 4 none 2 [(0, qr 70), (1, qi x1), (2, qi x2), (3, qi x3)] [] S Q := by
  intro n
  induction n with
  | zero =>
    intro x1 x2 x3 S o h
    simp [M_copies_L2] at h
  | succ n ih =>
    intro x1 x2 x3 S o h hE
    rw [M_copies_L2] at h
    refine q_iload_n dX12_copies_2 rfl rfl ?_
    refine q_bipush dX12_copies_3 (by decide) rfl ?_
    obtain ⟨c3123, h⟩ := qk_some h
    refine q_icmp_ge (tgt := 36) dX12_copies_5 (by decide) rfl (qRb_R c3123) ⟨by decide, by decide⟩ (fun g => ?_) (fun g => ?_)
    · rw [if_pos (show 42 ≤ x3 from g)] at h
      cases h
      exact q_pick [] rfl (hE)
    · rw [if_neg (show ¬ (42 ≤ x3) from g)] at h
      refine q_aload_n dX12_copies_8 rfl rfl ?_
      refine q_getA dX12_copies_9 fl_X12_57 (hL 70 (by decide)) sh_70 (by decide) rfl rfl ?_
      refine q_bipush dX12_copies_12 (by decide) rfl ?_
      refine q_iload_n dX12_copies_14 rfl rfl ?_
      refine q_imul dX12_copies_15 rfl ?_
      refine q_iload_n dX12_copies_16 rfl rfl ?_
      refine q_iadd dX12_copies_17 rfl ?_
      refine q_aload_n dX12_copies_18 rfl rfl ?_
      refine q_getA dX12_copies_19 fl_X12_57 (hL 70 (by decide)) sh_70 (by decide) rfl rfl ?_
      refine q_bipush dX12_copies_22 (by decide) rfl ?_
      refine q_iload_n dX12_copies_24 rfl rfl ?_
      refine q_imul dX12_copies_25 rfl ?_
      refine q_iload_n dX12_copies_26 rfl rfl ?_
      refine q_iadd dX12_copies_27 rfl ?_
      obtain ⟨c3124, h⟩ := qk_some h
      refine q_iaload dX12_copies_28 (hL 85 (by decide)) sh_85 (qIx_0 c3124) (qIx_1 c3124) rfl ?_
      obtain ⟨c3125, h⟩ := qk_some h
      refine q_iastore dX12_copies_29 (hL 85 (by decide)) sh_85 (qIx_0 c3125) (qIx_1 c3125) rfl ?_
      refine q_iinc (lv' := [(3, qi (x3 + 1)), (0, qr 70), (1, qi x1), (2, qi x2)]) dX12_copies_30 (by decide) rfl rfl rfl ?_
      refine q_goto (pc' := 2) dX12_copies_33 (by decide) ?_
      exact q_pick [1, 2, 3, 0] rfl (ih x1 x2 (x3 + 1) _ _ h hE)
set_option maxRecDepth 20000 in
theorem M_copies_ok {X : qX} (hL : ∀ c, c < 93 → c ∈ qLs X) (d : Nat) (a1 : Int) (a2 : Int) (S : qSto) (o : qSto) (h : M_copies a1 a2 S = some o) (Q : Option qV → qSto → Prop) (hQ : Q none o) : qC X d yX12_copies cX12_copies 4 none [qr 70, qi a1, qi a2] S Q := by
  refine q_entry (lv := [(0, qr 70), (1, qi a1), (2, qi a2)]) pn_X12 (Nat.le_of_ble_eq_true rfl) rfl ?_
  unfold M_copies at h
  refine q_iconst dX12_copies_0 rfl rfl ?_
  refine q_istore_n (lv' := [(3, qi 0), (0, qr 70), (1, qi a1), (2, qi a2)]) dX12_copies_1 (by decide) rfl rfl ?_
  obtain ⟨q3126, h3127, h⟩ := Option.bind_eq_some_iff.mp h
  refine q_pick [1, 2, 3, 0] rfl (M_copies_L2_ok hL d qF a1 a2 0 _ _ h3127 ?_)
  cases h
  exact q_return dX12_copies_36 rfl hQ
set_option maxRecDepth 20000 in
theorem M_keeps_L11_ok {X : qX} (hL : ∀ c, c < 93 → c ∈ qLs X) (d : Nat) {Q : Option qV → qSto → Prop} : ∀ (n : Nat) (x1 : Int) (S : qSto) (o : qSto), M_keeps_L11 n x1 S = some o → (qW X (d + 1) yX12_keeps cX12_keeps 2 none 31 [(0, qr 70)] [] o Q) → qW X (d + 1) yX12_keeps cX12_keeps 2 none 11 [(0, qr 70), (1, qi x1)] [] S Q := by
  intro n
  induction n with
  | zero =>
    intro x1 S o h
    simp [M_keeps_L11] at h
  | succ n ih =>
    intro x1 S o h hE
    rw [M_keeps_L11] at h
    refine q_iload_n dX12_keeps_11 rfl rfl ?_
    refine q_bipush dX12_keeps_12 (by decide) rfl ?_
    obtain ⟨c3122, h⟩ := qk_some h
    refine q_icmp_ge (tgt := 31) dX12_keeps_14 (by decide) rfl (qRb_R c3122) ⟨by decide, by decide⟩ (fun g => ?_) (fun g => ?_)
    · rw [if_pos (show 12 ≤ x1 from g)] at h
      cases h
      exact q_pick [0] rfl (hE)
    · rw [if_neg (show ¬ (12 ≤ x1) from g)] at h
      refine q_aload_n dX12_keeps_17 rfl rfl ?_
      refine q_iload_n dX12_keeps_18 rfl rfl ?_
      refine q_iload_n dX12_keeps_19 rfl rfl ?_
      refine q_iconst dX12_keeps_20 rfl rfl ?_
      refine q_isub dX12_keeps_21 rfl ?_
      obtain ⟨q3128, h3129, h⟩ := Option.bind_eq_some_iff.mp h
      refine q_callVv (as := [qi x1, qi (x1 - 1)]) (c := 70) dX12_keeps_22 ml_X12_411 rfl rfl (hL 70 (by decide)) sh_70 rfl rfl (Nat.le_of_ble_eq_true rfl) (M_copies_ok hL d x1 (x1 - 1) _ _ h3129) rfl ?_
      refine q_iinc (lv' := [(1, qi (x1 + 1)), (0, qr 70)]) dX12_keeps_25 (by decide) rfl rfl rfl ?_
      refine q_goto (pc' := 11) dX12_keeps_28 (by decide) ?_
      exact q_pick [1, 0] rfl (ih (x1 + 1) _ _ h hE)
set_option maxRecDepth 20000 in
theorem M_keeps_ok {X : qX} (hL : ∀ c, c < 93 → c ∈ qLs X) (d : Nat) (S : qSto) (o : qSto) (h : M_keeps S = some o) (Q : Option qV → qSto → Prop) (hQ : Q none o) : qC X (d + 1) yX12_keeps cX12_keeps 2 none [qr 70] S Q := by
  refine q_entry (lv := [(0, qr 70)]) pn_X12 (Nat.le_of_ble_eq_true rfl) rfl ?_
  unfold M_keeps at h
  refine q_aload_n dX12_keeps_0 rfl rfl ?_
  refine q_getI dX12_keeps_1 fl_X12_252 (hL 70 (by decide)) sh_70 (by decide) rfl rfl ?_
  refine q_bipush dX12_keeps_4 (by decide) rfl ?_
  refine q_jn (G := fun (t3132 : qSto) => qW X (d + 1) yX12_keeps cX12_keeps 2 none 37 [(0, qr 70)] [] t3132 Q) h (fun t3132 h => ?_) (fun t3132 h hk4248 => ?_)
  · try dsimp only at h
    refine q_aload_n dX12_keeps_37 rfl rfl ?_
    refine q_bipush dX12_keeps_38 (by decide) rfl ?_
    refine q_aload_n dX12_keeps_40 rfl rfl ?_
    refine q_getI dX12_keeps_41 fl_X12_252 (hL 70 (by decide)) sh_70 (by decide) rfl rfl ?_
    obtain ⟨q3133, h3134, h⟩ := Option.bind_eq_some_iff.mp h
    refine q_callVv (as := [qi 16, qi (t3132 70 31)]) (c := 70) dX12_keeps_44 ml_X12_411 rfl rfl (hL 70 (by decide)) sh_70 rfl rfl (Nat.le_of_ble_eq_true rfl) (M_copies_ok hL d 16 (t3132 70 31) _ _ h3134) rfl ?_
    refine q_aload_n dX12_keeps_47 rfl rfl ?_
    refine q_aload_n dX12_keeps_48 rfl rfl ?_
    refine q_getI dX12_keeps_49 fl_X12_252 (hL 70 (by decide)) sh_70 (by decide) rfl rfl ?_
    refine q_iconst dX12_keeps_52 rfl rfl ?_
    refine q_iadd dX12_keeps_53 rfl ?_
    refine q_putI dX12_keeps_54 fl_X12_252 (hL 70 (by decide)) sh_70 (by decide) pf_12_31 pt_12_31 rfl rfl ?_
    cases h
    exact q_return dX12_keeps_57 rfl hQ
  · skip
    obtain ⟨c3121, h⟩ := qk_some h
    refine q_icmp_ne (tgt := 37) dX12_keeps_6 (by decide) rfl (qRb_R c3121) ⟨by decide, by decide⟩ (fun g => ?_) (fun g => ?_)
    · rw [if_neg (show ¬ ((S 70 31) = 12) from g)] at h
      cases h
      exact q_pick [0] rfl hk4248
    · rw [if_pos (show (S 70 31) = 12 from g)] at h
      refine q_iconst dX12_keeps_9 rfl rfl ?_
      refine q_istore_n (lv' := [(1, qi 1), (0, qr 70)]) dX12_keeps_10 (by decide) rfl rfl ?_
      obtain ⟨q3130, h3131, h⟩ := Option.bind_eq_some_iff.mp h
      refine q_pick [1, 0] rfl (M_keeps_L11_ok hL d qF 1 _ _ h3131 ?_)
      refine q_aload_n dX12_keeps_31 rfl rfl ?_
      refine q_bipush dX12_keeps_32 (by decide) rfl ?_
      refine q_putI dX12_keeps_34 fl_X12_252 (hL 70 (by decide)) sh_70 (by decide) pf_12_31 pt_12_31 rfl rfl ?_
      cases h
      exact q_pick [0] rfl hk4248
set_option maxRecDepth 20000 in
theorem M_put_ok {X : qX} (hL : ∀ c, c < 93 → c ∈ qLs X) (d : Nat) (a1 : Int) (a2 : Int) (a3 : Int) (a4 : Int) (S : qSto) (o : (Int × qSto)) (h : M_put a1 a2 a3 a4 S = some o) (Q : Option qV → qSto → Prop) (hQ : Q (some (qi o.1)) o.2) : qC X (d + 7) yX12_put cX12_put 6 (some .int) [qr 70, qi a1, qi a2, qi a3, qi a4] S Q := by
  refine q_entry (lv := [(0, qr 70), (1, qi a1), (2, qi a2), (3, qi a3), (4, qi a4)]) pn_X12 (Nat.le_of_ble_eq_true rfl) rfl ?_
  unfold M_put at h
  refine q_aload_n dX12_put_0 rfl rfl ?_
  refine q_iload_n dX12_put_1 rfl rfl ?_
  obtain ⟨q3099, h3100, h⟩ := Option.bind_eq_some_iff.mp h
  refine q_callVi (as := [qi a1]) (c := 70) dX12_put_2 ml_X12_297 rfl rfl (hL 70 (by decide)) sh_70 rfl rfl (Nat.le_of_ble_eq_true rfl) (M_isShip_ok hL (d + 5) a1 _ _ h3100) rfl ?_
  obtain ⟨c3101, h⟩ := qk_some h
  refine q_if_eq (tgt := 16) dX12_put_5 (by decide) rfl (qRb_R c3101)  (fun g => ?_) (fun g => ?_)
  · rw [if_pos (show q3099.1 = 0 from g)] at h
    refine q_iconst dX12_put_16 rfl rfl ?_
    cases h
    exact q_ireturn dX12_put_17 rfl hQ
  · rw [if_neg (show ¬ (q3099.1 = 0) from g)] at h
    refine q_aload_n dX12_put_8 rfl rfl ?_
    refine q_iload_n dX12_put_9 rfl rfl ?_
    obtain ⟨q3102, h3103, h⟩ := Option.bind_eq_some_iff.mp h
    refine q_callVi (as := [qi a1]) (c := 70) dX12_put_10 ml_X12_326 rfl rfl (hL 70 (by decide)) sh_70 rfl rfl (Nat.le_of_ble_eq_true rfl) (M_stays_ok hL (d + 6) a1 _ _ h3103) rfl ?_
    obtain ⟨c3104, h⟩ := qk_some h
    refine q_if_eq (tgt := 18) dX12_put_13 (by decide) rfl (qRb_R c3104)  (fun g => ?_) (fun g => ?_)
    · rw [if_pos (show q3102.1 = 0 from g)] at h
      refine q_aload_n dX12_put_18 rfl rfl ?_
      refine q_iload_n dX12_put_19 rfl rfl ?_
      refine q_iload_n dX12_put_20 rfl rfl ?_
      obtain ⟨c3105, h⟩ := qk_some h
      refine q_i2l dX12_put_21 (qRb_R c3105) rfl ?_
      refine q_iload_n dX12_put_22 rfl rfl ?_
      obtain ⟨c3106, h⟩ := qk_some h
      refine q_i2l dX12_put_23 (qRb_R c3106) rfl ?_
      refine q_iload dX12_put_24 rfl rfl ?_
      obtain ⟨q3107, h3108, h⟩ := Option.bind_eq_some_iff.mp h
      refine q_callVi (as := [qi a1, ql a2, ql a3, qi a4]) (c := 70) dX12_put_26 ml_X12_390 rfl rfl (hL 70 (by decide)) sh_70 rfl rfl (Nat.le_of_ble_eq_true rfl) (M_lawOf_ok hL d a1 a2 a3 a4 _ _ h3108) rfl ?_
      refine q_istore (lv' := [(5, qi q3107.1), (0, qr 70), (1, qi a1), (2, qi a2), (3, qi a3), (4, qi a4)]) dX12_put_29 (by decide) rfl rfl ?_
      refine q_iload dX12_put_31 rfl rfl ?_
      obtain ⟨c3109, h⟩ := qk_some h
      refine q_if_le (tgt := 41) dX12_put_33 (by decide) rfl (qRb_R c3109)  (fun g => ?_) (fun g => ?_)
      · rw [if_pos (show q3107.1 ≤ 0 from g)] at h
        refine q_aload_n dX12_put_41 rfl rfl ?_
        refine q_bipush dX12_put_42 (by decide) rfl ?_
        obtain ⟨q3119, h3120, h⟩ := Option.bind_eq_some_iff.mp h
        refine q_callVv (as := [qi 16]) (c := 70) dX12_put_44 ml_X12_414 rfl rfl (hL 70 (by decide)) sh_70 rfl rfl (Nat.le_of_ble_eq_true rfl) (M_puts_ok hL (d + 6) 16 _ _ h3120) rfl ?_
        refine q_aload_n dX12_put_47 rfl rfl ?_
        obtain ⟨q3135, h3136, h⟩ := Option.bind_eq_some_iff.mp h
        refine q_callVv (as := []) (c := 70) dX12_put_48 ml_X12_417 rfl rfl (hL 70 (by decide)) sh_70 rfl rfl (Nat.le_of_ble_eq_true rfl) (M_keeps_ok hL (d + 5) _ _ h3136) rfl ?_
        refine q_aload_n dX12_put_51 rfl rfl ?_
        refine q_iload_n dX12_put_52 rfl rfl ?_
        refine q_iload_n dX12_put_53 rfl rfl ?_
        refine q_iload_n dX12_put_54 rfl rfl ?_
        refine q_iload dX12_put_55 rfl rfl ?_
        obtain ⟨q3137, h3138, h⟩ := Option.bind_eq_some_iff.mp h
        refine q_callVv (as := [qi a1, qi a2, qi a3, qi a4]) (c := 70) dX12_put_57 ml_X12_383 rfl rfl (hL 70 (by decide)) sh_70 rfl rfl (Nat.le_of_ble_eq_true rfl) (M_lay_ok hL (d + 3) a1 a2 a3 a4 _ _ h3138) rfl ?_
        refine q_aload_n dX12_put_60 rfl rfl ?_
        refine q_getA dX12_put_61 fl_X12_48 (hL 70 (by decide)) sh_70 (by decide) rfl rfl ?_
        refine q_iload_n dX12_put_64 rfl rfl ?_
        obtain ⟨c3139, h⟩ := qk_some h
        refine q_iaload dX12_put_65 (hL 82 (by decide)) sh_82 (qIx_0 c3139) (qIx_1 c3139) rfl ?_
        cases h
        exact q_ireturn dX12_put_66 rfl hQ
      · rw [if_neg (show ¬ (q3107.1 ≤ 0) from g)] at h
        refine q_iconst dX12_put_36 rfl rfl ?_
        refine q_iload dX12_put_37 rfl rfl ?_
        refine q_isub dX12_put_39 rfl ?_
        cases h
        exact q_ireturn dX12_put_40 rfl hQ
    · rw [if_neg (show ¬ (q3102.1 = 0) from g)] at h
      refine q_iconst dX12_put_16 rfl rfl ?_
      cases h
      exact q_ireturn dX12_put_17 rfl hQ
set_option maxRecDepth 20000 in
theorem M_seeksItself_L8_ok {X : qX} (hL : ∀ c, c < 93 → c ∈ qLs X) (d : Nat) {Q : Option qV → qSto → Prop} : ∀ (n : Nat) (x1 : Int) (x2 : Int) (S : qSto) (o : (qSto ⊕ (Int × qSto))), M_seeksItself_L8 n x1 x2 S = some o → (∀ t, o = Sum.inl t → qW X (d + 7) yX12_seeksItself cX12_seeksItself 3 (some .int) 36 [] [] t Q) → (∀ w, o = Sum.inr w → Q (some (qi w.1)) w.2) → qW X (d + 7) yX12_seeksItself cX12_seeksItself 3 (some .int) 8 [(0, qr 70), (1, qi x1), (2, qi x2)] [] S Q := by
  intro n
  induction n with
  | zero =>
    intro x1 x2 S o h
    simp [M_seeksItself_L8] at h
  | succ n ih =>
    intro x1 x2 S o h hE hR
    rw [M_seeksItself_L8] at h
    refine q_iload_n dX12_seeksItself_8 rfl rfl ?_
    refine q_aload_n dX12_seeksItself_9 rfl rfl ?_
    refine q_iload_n dX12_seeksItself_10 rfl rfl ?_
    refine q_bipush dX12_seeksItself_11 (by decide) rfl ?_
    obtain ⟨q3150, h3151, h⟩ := Option.bind_eq_some_iff.mp h
    refine q_callVi (as := [qi x1, qi 7]) (c := 70) dX12_seeksItself_13 ml_X12_316 rfl rfl (hL 70 (by decide)) sh_70 rfl rfl (Nat.le_of_ble_eq_true rfl) (M_of_ok hL (d + 6) x1 7 _ _ h3151) rfl ?_
    obtain ⟨c3152, h⟩ := qk_some h
    obtain ⟨c3153, h⟩ := qk_some h
    refine q_icmp_lt (tgt := 36) dX12_seeksItself_16 (by decide) rfl (qRb_R c3152) (qRb_R c3153) (fun g => ?_) (fun g => ?_)
    · rw [if_pos (show x2 < q3150.1 from g)] at h
      cases h
      exact q_pick [] rfl (hE _ rfl)
    · rw [if_neg (show ¬ (x2 < q3150.1) from g)] at h
      refine q_aload_n dX12_seeksItself_19 rfl rfl ?_
      refine q_iload_n dX12_seeksItself_20 rfl rfl ?_
      refine q_iload_n dX12_seeksItself_21 rfl rfl ?_
      obtain ⟨q3154, h3155, h⟩ := Option.bind_eq_some_iff.mp h
      refine q_callVi (as := [qi x1, qi x2]) (c := 70) dX12_seeksItself_22 ml_X12_405 rfl rfl (hL 70 (by decide)) sh_70 rfl rfl (Nat.le_of_ble_eq_true rfl) (M_seeks_ok hL d x1 x2 _ _ h3155) rfl ?_
      obtain ⟨c3156, h⟩ := qk_some h
      refine q_if_eq (tgt := 30) dX12_seeksItself_25 (by decide) rfl (qRb_R c3156)  (fun g => ?_) (fun g => ?_)
      · rw [if_pos (show q3154.1 = 0 from g)] at h
        refine q_iinc (lv' := [(2, qi (x2 + (-1))), (0, qr 70), (1, qi x1)]) dX12_seeksItself_30 (by decide) rfl rfl rfl ?_
        refine q_goto (pc' := 8) dX12_seeksItself_33 (by decide) ?_
        exact q_pick [1, 2, 0] rfl (ih x1 (x2 + (-1)) _ _ h hE hR)
      · rw [if_neg (show ¬ (q3154.1 = 0) from g)] at h
        refine q_iload_n dX12_seeksItself_28 rfl rfl ?_
        cases h
        exact q_ireturn dX12_seeksItself_29 rfl (hR _ rfl)
set_option maxRecDepth 20000 in
theorem M_seeksItself_ok {X : qX} (hL : ∀ c, c < 93 → c ∈ qLs X) (d : Nat) (a1 : Int) (S : qSto) (o : (Int × qSto)) (h : M_seeksItself a1 S = some o) (Q : Option qV → qSto → Prop) (hQ : Q (some (qi o.1)) o.2) : qC X (d + 7) yX12_seeksItself cX12_seeksItself 3 (some .int) [qr 70, qi a1] S Q := by
  refine q_entry (lv := [(0, qr 70), (1, qi a1)]) pn_X12 (Nat.le_of_ble_eq_true rfl) rfl ?_
  unfold M_seeksItself at h
  refine q_aload_n dX12_seeksItself_0 rfl rfl ?_
  refine q_iload_n dX12_seeksItself_1 rfl rfl ?_
  refine q_bipush dX12_seeksItself_2 (by decide) rfl ?_
  obtain ⟨q3148, h3149, h⟩ := Option.bind_eq_some_iff.mp h
  refine q_callVi (as := [qi a1, qi 8]) (c := 70) dX12_seeksItself_4 ml_X12_316 rfl rfl (hL 70 (by decide)) sh_70 rfl rfl (Nat.le_of_ble_eq_true rfl) (M_of_ok hL (d + 6) a1 8 _ _ h3149) rfl ?_
  refine q_istore_n (lv' := [(2, qi q3148.1), (0, qr 70), (1, qi a1)]) dX12_seeksItself_7 (by decide) rfl rfl ?_
  obtain ⟨q3157, h3158, h⟩ := Option.bind_eq_some_iff.mp h
  refine q_pick [1, 2, 0] rfl (M_seeksItself_L8_ok hL d qF a1 q3148.1 _ _ h3158 (fun t3159 e4249 => ?_) (fun w e4249 => ?_))
  · subst e4249
    simp only [Sum.elim_inl] at h
    refine q_iconst dX12_seeksItself_36 rfl rfl ?_
    cases h
    exact q_ireturn dX12_seeksItself_37 rfl hQ
  · subst e4249
    simp only [Sum.elim_inr] at h
    cases h
    exact hQ
set_option maxRecDepth 20000 in
theorem M_laysItself_ok {X : qX} (hL : ∀ c, c < 93 → c ∈ qLs X) (d : Nat) (a1 : Int) (S : qSto) (o : (Int × qSto)) (h : M_laysItself a1 S = some o) (Q : Option qV → qSto → Prop) (hQ : Q (some (qi o.1)) o.2) : qC X (d + 8) yX12_laysItself cX12_laysItself 3 (some .boolean) [qr 70, qi a1] S Q := by
  refine q_entry (lv := [(0, qr 70), (1, qi a1)]) pn_X12 (Nat.le_of_ble_eq_true rfl) rfl ?_
  unfold M_laysItself at h
  refine q_aload_n dX12_laysItself_0 rfl rfl ?_
  refine q_iload_n dX12_laysItself_1 rfl rfl ?_
  obtain ⟨q3160, h3161, h⟩ := Option.bind_eq_some_iff.mp h
  refine q_callVi (as := [qi a1]) (c := 70) dX12_laysItself_2 ml_X12_408 rfl rfl (hL 70 (by decide)) sh_70 rfl rfl (Nat.le_of_ble_eq_true rfl) (M_seeksItself_ok hL d a1 _ _ h3161) rfl ?_
  refine q_istore_n (lv' := [(2, qi q3160.1), (0, qr 70), (1, qi a1)]) dX12_laysItself_5 (by decide) rfl rfl ?_
  refine q_iload_n dX12_laysItself_6 rfl rfl ?_
  refine q_iconst dX12_laysItself_7 rfl rfl ?_
  obtain ⟨c3162, h⟩ := qk_some h
  refine q_icmp_ne (tgt := 13) dX12_laysItself_8 (by decide) rfl (qRb_R c3162) ⟨by decide, by decide⟩ (fun g => ?_) (fun g => ?_)
  · rw [if_neg (show ¬ (q3160.1 = (-1)) from g)] at h
    refine q_aload_n dX12_laysItself_13 rfl rfl ?_
    refine q_iload_n dX12_laysItself_14 rfl rfl ?_
    refine q_aload_n dX12_laysItself_15 rfl rfl ?_
    refine q_getI dX12_laysItself_16 fl_X12_393 (hL 70 (by decide)) sh_70 (by decide) rfl rfl ?_
    refine q_aload_n dX12_laysItself_19 rfl rfl ?_
    refine q_getI dX12_laysItself_20 fl_X12_402 (hL 70 (by decide)) sh_70 (by decide) rfl rfl ?_
    refine q_iload_n dX12_laysItself_23 rfl rfl ?_
    obtain ⟨q3163, h3164, h⟩ := Option.bind_eq_some_iff.mp h
    refine q_callVv (as := [qi a1, qi (q3160.2 70 28), qi (q3160.2 70 27), qi q3160.1]) (c := 70) dX12_laysItself_24 ml_X12_383 rfl rfl (hL 70 (by decide)) sh_70 rfl rfl (Nat.le_of_ble_eq_true rfl) (M_lay_ok hL (d + 4) a1 (q3160.2 70 28) (q3160.2 70 27) q3160.1 _ _ h3164) rfl ?_
    refine q_iconst dX12_laysItself_27 rfl rfl ?_
    cases h
    exact q_zreturn dX12_laysItself_28 rfl (by decide) hQ
  · rw [if_pos (show q3160.1 = (-1) from g)] at h
    refine q_iconst dX12_laysItself_11 rfl rfl ?_
    cases h
    exact q_zreturn dX12_laysItself_12 rfl (by decide) hQ
set_option maxRecDepth 20000 in
theorem M_itself_ok {X : qX} (hL : ∀ c, c < 93 → c ∈ qLs X) (d : Nat) (a1 : Int) (S : qSto) (o : (Int × qSto)) (h : M_itself a1 S = some o) (Q : Option qV → qSto → Prop) (hQ : Q (some (qi o.1)) o.2) : qC X (d + 9) yX12_itself cX12_itself 2 (some .int) [qr 70, qi a1] S Q := by
  refine q_entry (lv := [(0, qr 70), (1, qi a1)]) pn_X12 (Nat.le_of_ble_eq_true rfl) rfl ?_
  unfold M_itself at h
  refine q_aload_n dX12_itself_0 rfl rfl ?_
  refine q_iload_n dX12_itself_1 rfl rfl ?_
  obtain ⟨q3140, h3141, h⟩ := Option.bind_eq_some_iff.mp h
  refine q_callVi (as := [qi a1]) (c := 70) dX12_itself_2 ml_X12_297 rfl rfl (hL 70 (by decide)) sh_70 rfl rfl (Nat.le_of_ble_eq_true rfl) (M_isShip_ok hL (d + 7) a1 _ _ h3141) rfl ?_
  obtain ⟨c3142, h⟩ := qk_some h
  refine q_if_eq (tgt := 16) dX12_itself_5 (by decide) rfl (qRb_R c3142)  (fun g => ?_) (fun g => ?_)
  · rw [if_pos (show q3140.1 = 0 from g)] at h
    refine q_iconst dX12_itself_16 rfl rfl ?_
    cases h
    exact q_ireturn dX12_itself_17 rfl hQ
  · rw [if_neg (show ¬ (q3140.1 = 0) from g)] at h
    refine q_aload_n dX12_itself_8 rfl rfl ?_
    refine q_iload_n dX12_itself_9 rfl rfl ?_
    obtain ⟨q3143, h3144, h⟩ := Option.bind_eq_some_iff.mp h
    refine q_callVi (as := [qi a1]) (c := 70) dX12_itself_10 ml_X12_326 rfl rfl (hL 70 (by decide)) sh_70 rfl rfl (Nat.le_of_ble_eq_true rfl) (M_stays_ok hL (d + 8) a1 _ _ h3144) rfl ?_
    obtain ⟨c3145, h⟩ := qk_some h
    refine q_if_eq (tgt := 18) dX12_itself_13 (by decide) rfl (qRb_R c3145)  (fun g => ?_) (fun g => ?_)
    · rw [if_pos (show q3143.1 = 0 from g)] at h
      refine q_aload_n dX12_itself_18 rfl rfl ?_
      refine q_bipush dX12_itself_19 (by decide) rfl ?_
      obtain ⟨q3146, h3147, h⟩ := Option.bind_eq_some_iff.mp h
      refine q_callVv (as := [qi 16]) (c := 70) dX12_itself_21 ml_X12_414 rfl rfl (hL 70 (by decide)) sh_70 rfl rfl (Nat.le_of_ble_eq_true rfl) (M_puts_ok hL (d + 8) 16 _ _ h3147) rfl ?_
      refine q_aload_n dX12_itself_24 rfl rfl ?_
      refine q_iload_n dX12_itself_25 rfl rfl ?_
      obtain ⟨q3165, h3166, h⟩ := Option.bind_eq_some_iff.mp h
      refine q_callVi (as := [qi a1]) (c := 70) dX12_itself_26 ml_X12_420 rfl rfl (hL 70 (by decide)) sh_70 rfl rfl (Nat.le_of_ble_eq_true rfl) (M_laysItself_ok hL d a1 _ _ h3166) rfl ?_
      obtain ⟨c3167, h⟩ := qk_some h
      refine q_if_ne (tgt := 35) dX12_itself_29 (by decide) rfl (qRb_R c3167)  (fun g => ?_) (fun g => ?_)
      · rw [if_neg (show ¬ (q3165.1 = 0) from g)] at h
        refine q_aload_n dX12_itself_35 rfl rfl ?_
        obtain ⟨q3168, h3169, h⟩ := Option.bind_eq_some_iff.mp h
        refine q_callVv (as := []) (c := 70) dX12_itself_36 ml_X12_417 rfl rfl (hL 70 (by decide)) sh_70 rfl rfl (Nat.le_of_ble_eq_true rfl) (M_keeps_ok hL (d + 7) _ _ h3169) rfl ?_
        refine q_aload_n dX12_itself_39 rfl rfl ?_
        refine q_getA dX12_itself_40 fl_X12_39 (hL 70 (by decide)) sh_70 (by decide) rfl rfl ?_
        refine q_iload_n dX12_itself_43 rfl rfl ?_
        obtain ⟨c3170, h⟩ := qk_some h
        refine q_iaload dX12_itself_44 (hL 79 (by decide)) sh_79 (qIx_0 c3170) (qIx_1 c3170) rfl ?_
        cases h
        exact q_ireturn dX12_itself_45 rfl hQ
      · rw [if_pos (show q3165.1 = 0 from g)] at h
        refine q_bipush dX12_itself_32 (by decide) rfl ?_
        cases h
        exact q_ireturn dX12_itself_34 rfl hQ
    · rw [if_neg (show ¬ (q3143.1 = 0) from g)] at h
      refine q_iconst dX12_itself_16 rfl rfl ?_
      cases h
      exact q_ireturn dX12_itself_17 rfl hQ
set_option maxRecDepth 20000 in
theorem M_away_ok {X : qX} (hL : ∀ c, c < 93 → c ∈ qLs X) (d : Nat) (a1 : Int) (S : qSto) (o : (Int × qSto)) (h : M_away a1 S = some o) (Q : Option qV → qSto → Prop) (hQ : Q (some (qi o.1)) o.2) : qC X (d + 4) yX12_away cX12_away 2 (some .boolean) [qr 70, qi a1] S Q := by
  refine q_entry (lv := [(0, qr 70), (1, qi a1)]) pn_X12 (Nat.le_of_ble_eq_true rfl) rfl ?_
  unfold M_away at h
  refine q_aload_n dX12_away_0 rfl rfl ?_
  refine q_iload_n dX12_away_1 rfl rfl ?_
  obtain ⟨q3171, h3172, h⟩ := Option.bind_eq_some_iff.mp h
  refine q_callVi (as := [qi a1]) (c := 70) dX12_away_2 ml_X12_297 rfl rfl (hL 70 (by decide)) sh_70 rfl rfl (Nat.le_of_ble_eq_true rfl) (M_isShip_ok hL (d + 2) a1 _ _ h3172) rfl ?_
  obtain ⟨c3173, h⟩ := qk_some h
  refine q_if_eq (tgt := 16) dX12_away_5 (by decide) rfl (qRb_R c3173)  (fun g => ?_) (fun g => ?_)
  · rw [if_pos (show q3171.1 = 0 from g)] at h
    refine q_iconst dX12_away_16 rfl rfl ?_
    cases h
    exact q_zreturn dX12_away_17 rfl (by decide) hQ
  · rw [if_neg (show ¬ (q3171.1 = 0) from g)] at h
    refine q_aload_n dX12_away_8 rfl rfl ?_
    refine q_iload_n dX12_away_9 rfl rfl ?_
    obtain ⟨q3174, h3175, h⟩ := Option.bind_eq_some_iff.mp h
    refine q_callVi (as := [qi a1]) (c := 70) dX12_away_10 ml_X12_326 rfl rfl (hL 70 (by decide)) sh_70 rfl rfl (Nat.le_of_ble_eq_true rfl) (M_stays_ok hL (d + 3) a1 _ _ h3175) rfl ?_
    obtain ⟨c3176, h⟩ := qk_some h
    refine q_if_ne (tgt := 18) dX12_away_13 (by decide) rfl (qRb_R c3176)  (fun g => ?_) (fun g => ?_)
    · rw [if_neg (show ¬ (q3174.1 = 0) from g)] at h
      refine q_aload_n dX12_away_18 rfl rfl ?_
      refine q_bipush dX12_away_19 (by decide) rfl ?_
      obtain ⟨q3177, h3178, h⟩ := Option.bind_eq_some_iff.mp h
      refine q_callVv (as := [qi 16]) (c := 70) dX12_away_21 ml_X12_414 rfl rfl (hL 70 (by decide)) sh_70 rfl rfl (Nat.le_of_ble_eq_true rfl) (M_puts_ok hL (d + 3) 16 _ _ h3178) rfl ?_
      refine q_aload_n dX12_away_24 rfl rfl ?_
      obtain ⟨q3179, h3180, h⟩ := Option.bind_eq_some_iff.mp h
      refine q_callVv (as := []) (c := 70) dX12_away_25 ml_X12_417 rfl rfl (hL 70 (by decide)) sh_70 rfl rfl (Nat.le_of_ble_eq_true rfl) (M_keeps_ok hL (d + 2) _ _ h3180) rfl ?_
      refine q_aload_n dX12_away_28 rfl rfl ?_
      refine q_iload_n dX12_away_29 rfl rfl ?_
      refine q_iconst dX12_away_30 rfl rfl ?_
      refine q_iconst dX12_away_31 rfl rfl ?_
      refine q_iconst dX12_away_32 rfl rfl ?_
      obtain ⟨q3181, h3182, h⟩ := Option.bind_eq_some_iff.mp h
      refine q_callVv (as := [qi a1, qi 0, qi 0, qi 0]) (c := 70) dX12_away_33 ml_X12_383 rfl rfl (hL 70 (by decide)) sh_70 rfl rfl (Nat.le_of_ble_eq_true rfl) (M_lay_ok hL d a1 0 0 0 _ _ h3182) rfl ?_
      refine q_iconst dX12_away_36 rfl rfl ?_
      cases h
      exact q_zreturn dX12_away_37 rfl (by decide) hQ
    · rw [if_pos (show q3174.1 = 0 from g)] at h
      refine q_iconst dX12_away_16 rfl rfl ?_
      cases h
      exact q_zreturn dX12_away_17 rfl (by decide) hQ
set_option maxRecDepth 20000 in
theorem M_move_ok {X : qX} (hL : ∀ c, c < 93 → c ∈ qLs X) (d : Nat) (a1 : Int) (a2 : Int) (a3 : Int) (S : qSto) (o : (Int × qSto)) (h : M_move a1 a2 a3 S = some o) (Q : Option qV → qSto → Prop) (hQ : Q (some (qi o.1)) o.2) : qC X (d + 7) yX12_move cX12_move 5 (some .int) [qr 70, qi a1, qi a2, qi a3] S Q := by
  refine q_entry (lv := [(0, qr 70), (1, qi a1), (2, qi a2), (3, qi a3)]) pn_X12 (Nat.le_of_ble_eq_true rfl) rfl ?_
  unfold M_move at h
  refine q_aload_n dX12_move_0 rfl rfl ?_
  refine q_iload_n dX12_move_1 rfl rfl ?_
  obtain ⟨q3183, h3184, h⟩ := Option.bind_eq_some_iff.mp h
  refine q_callVi (as := [qi a1]) (c := 70) dX12_move_2 ml_X12_297 rfl rfl (hL 70 (by decide)) sh_70 rfl rfl (Nat.le_of_ble_eq_true rfl) (M_isShip_ok hL (d + 5) a1 _ _ h3184) rfl ?_
  obtain ⟨c3185, h⟩ := qk_some h
  refine q_if_eq (tgt := 24) dX12_move_5 (by decide) rfl (qRb_R c3185)  (fun g => ?_) (fun g => ?_)
  · rw [if_pos (show q3183.1 = 0 from g)] at h
    refine q_iconst dX12_move_24 rfl rfl ?_
    cases h
    exact q_ireturn dX12_move_25 rfl hQ
  · rw [if_neg (show ¬ (q3183.1 = 0) from g)] at h
    refine q_aload_n dX12_move_8 rfl rfl ?_
    refine q_iload_n dX12_move_9 rfl rfl ?_
    obtain ⟨q3186, h3187, h⟩ := Option.bind_eq_some_iff.mp h
    refine q_callVi (as := [qi a1]) (c := 70) dX12_move_10 ml_X12_326 rfl rfl (hL 70 (by decide)) sh_70 rfl rfl (Nat.le_of_ble_eq_true rfl) (M_stays_ok hL (d + 6) a1 _ _ h3187) rfl ?_
    obtain ⟨c3188, h⟩ := qk_some h
    refine q_if_eq (tgt := 24) dX12_move_13 (by decide) rfl (qRb_R c3188)  (fun g => ?_) (fun g => ?_)
    · rw [if_pos (show q3186.1 = 0 from g)] at h
      refine q_iconst dX12_move_24 rfl rfl ?_
      cases h
      exact q_ireturn dX12_move_25 rfl hQ
    · rw [if_neg (show ¬ (q3186.1 = 0) from g)] at h
      refine q_iload_n dX12_move_16 rfl rfl ?_
      obtain ⟨c3189, h⟩ := qk_some h
      refine q_if_ne (tgt := 26) dX12_move_17 (by decide) rfl (qRb_R c3189)  (fun g => ?_) (fun g => ?_)
      · rw [if_neg (show ¬ (a2 = 0) from g)] at h
        refine q_aload_n dX12_move_26 rfl rfl ?_
        refine q_iload_n dX12_move_27 rfl rfl ?_
        refine q_aload_n dX12_move_28 rfl rfl ?_
        refine q_getA dX12_move_29 fl_X12_36 (hL 70 (by decide)) sh_70 (by decide) rfl rfl ?_
        refine q_iload_n dX12_move_32 rfl rfl ?_
        obtain ⟨c3190, h⟩ := qk_some h
        refine q_iaload dX12_move_33 (hL 78 (by decide)) sh_78 (qIx_0 c3190) (qIx_1 c3190) rfl ?_
        obtain ⟨c3191, h⟩ := qk_some h
        refine q_i2l dX12_move_34 (qRb_R c3191) rfl ?_
        refine q_iload_n dX12_move_35 rfl rfl ?_
        obtain ⟨c3192, h⟩ := qk_some h
        refine q_i2l dX12_move_36 (qRb_R c3192) rfl ?_
        refine q_ladd dX12_move_37 rfl ?_
        refine q_aload_n dX12_move_38 rfl rfl ?_
        refine q_getA dX12_move_39 fl_X12_39 (hL 70 (by decide)) sh_70 (by decide) rfl rfl ?_
        refine q_iload_n dX12_move_42 rfl rfl ?_
        obtain ⟨c3193, h⟩ := qk_some h
        refine q_iaload dX12_move_43 (hL 79 (by decide)) sh_79 (qIx_0 c3193) (qIx_1 c3193) rfl ?_
        obtain ⟨c3194, h⟩ := qk_some h
        refine q_i2l dX12_move_44 (qRb_R c3194) rfl ?_
        refine q_iload_n dX12_move_45 rfl rfl ?_
        obtain ⟨c3195, h⟩ := qk_some h
        refine q_i2l dX12_move_46 (qRb_R c3195) rfl ?_
        refine q_ladd dX12_move_47 rfl ?_
        refine q_aload_n dX12_move_48 rfl rfl ?_
        refine q_getA dX12_move_49 fl_X12_42 (hL 70 (by decide)) sh_70 (by decide) rfl rfl ?_
        refine q_iload_n dX12_move_52 rfl rfl ?_
        obtain ⟨c3196, h⟩ := qk_some h
        refine q_iaload dX12_move_53 (hL 80 (by decide)) sh_80 (qIx_0 c3196) (qIx_1 c3196) rfl ?_
        obtain ⟨q3197, h3198, h⟩ := Option.bind_eq_some_iff.mp h
        refine q_callVi (as := [qi a1, ql ((q3186.2 78 (Int.toNat a1)) + a2), ql ((q3186.2 79 (Int.toNat a1)) + a3), qi (q3186.2 80 (Int.toNat a1))]) (c := 70) dX12_move_54 ml_X12_390 rfl rfl (hL 70 (by decide)) sh_70 rfl rfl (Nat.le_of_ble_eq_true rfl) (M_lawOf_ok hL d a1 ((q3186.2 78 (Int.toNat a1)) + a2) ((q3186.2 79 (Int.toNat a1)) + a3) (q3186.2 80 (Int.toNat a1)) _ _ h3198) rfl ?_
        refine q_istore (lv' := [(4, qi q3197.1), (0, qr 70), (1, qi a1), (2, qi a2), (3, qi a3)]) dX12_move_57 (by decide) rfl rfl ?_
        refine q_iload dX12_move_59 rfl rfl ?_
        obtain ⟨c3199, h⟩ := qk_some h
        refine q_if_le (tgt := 69) dX12_move_61 (by decide) rfl (qRb_R c3199)  (fun g => ?_) (fun g => ?_)
        · rw [if_pos (show q3197.1 ≤ 0 from g)] at h
          refine q_aload_n dX12_move_69 rfl rfl ?_
          refine q_bipush dX12_move_70 (by decide) rfl ?_
          obtain ⟨q3200, h3201, h⟩ := Option.bind_eq_some_iff.mp h
          refine q_callVv (as := [qi 16]) (c := 70) dX12_move_72 ml_X12_414 rfl rfl (hL 70 (by decide)) sh_70 rfl rfl (Nat.le_of_ble_eq_true rfl) (M_puts_ok hL (d + 6) 16 _ _ h3201) rfl ?_
          refine q_aload_n dX12_move_75 rfl rfl ?_
          obtain ⟨q3202, h3203, h⟩ := Option.bind_eq_some_iff.mp h
          refine q_callVv (as := []) (c := 70) dX12_move_76 ml_X12_417 rfl rfl (hL 70 (by decide)) sh_70 rfl rfl (Nat.le_of_ble_eq_true rfl) (M_keeps_ok hL (d + 5) _ _ h3203) rfl ?_
          refine q_aload_n dX12_move_79 rfl rfl ?_
          refine q_iload_n dX12_move_80 rfl rfl ?_
          refine q_aload_n dX12_move_81 rfl rfl ?_
          refine q_getA dX12_move_82 fl_X12_36 (hL 70 (by decide)) sh_70 (by decide) rfl rfl ?_
          refine q_iload_n dX12_move_85 rfl rfl ?_
          obtain ⟨c3204, h⟩ := qk_some h
          refine q_iaload dX12_move_86 (hL 78 (by decide)) sh_78 (qIx_0 c3204) (qIx_1 c3204) rfl ?_
          refine q_iload_n dX12_move_87 rfl rfl ?_
          refine q_iadd dX12_move_88 rfl ?_
          refine q_aload_n dX12_move_89 rfl rfl ?_
          refine q_getA dX12_move_90 fl_X12_39 (hL 70 (by decide)) sh_70 (by decide) rfl rfl ?_
          refine q_iload_n dX12_move_93 rfl rfl ?_
          obtain ⟨c3205, h⟩ := qk_some h
          refine q_iaload dX12_move_94 (hL 79 (by decide)) sh_79 (qIx_0 c3205) (qIx_1 c3205) rfl ?_
          refine q_iload_n dX12_move_95 rfl rfl ?_
          refine q_iadd dX12_move_96 rfl ?_
          refine q_aload_n dX12_move_97 rfl rfl ?_
          refine q_getA dX12_move_98 fl_X12_42 (hL 70 (by decide)) sh_70 (by decide) rfl rfl ?_
          refine q_iload_n dX12_move_101 rfl rfl ?_
          obtain ⟨c3206, h⟩ := qk_some h
          refine q_iaload dX12_move_102 (hL 80 (by decide)) sh_80 (qIx_0 c3206) (qIx_1 c3206) rfl ?_
          obtain ⟨q3207, h3208, h⟩ := Option.bind_eq_some_iff.mp h
          refine q_callVv (as := [qi a1, qi ((q3202 78 (Int.toNat a1)) + a2), qi ((q3202 79 (Int.toNat a1)) + a3), qi (q3202 80 (Int.toNat a1))]) (c := 70) dX12_move_103 ml_X12_383 rfl rfl (hL 70 (by decide)) sh_70 rfl rfl (Nat.le_of_ble_eq_true rfl) (M_lay_ok hL (d + 3) a1 ((q3202 78 (Int.toNat a1)) + a2) ((q3202 79 (Int.toNat a1)) + a3) (q3202 80 (Int.toNat a1)) _ _ h3208) rfl ?_
          refine q_aload_n dX12_move_106 rfl rfl ?_
          refine q_getA dX12_move_107 fl_X12_48 (hL 70 (by decide)) sh_70 (by decide) rfl rfl ?_
          refine q_iload_n dX12_move_110 rfl rfl ?_
          obtain ⟨c3209, h⟩ := qk_some h
          refine q_iaload dX12_move_111 (hL 82 (by decide)) sh_82 (qIx_0 c3209) (qIx_1 c3209) rfl ?_
          cases h
          exact q_ireturn dX12_move_112 rfl hQ
        · rw [if_neg (show ¬ (q3197.1 ≤ 0) from g)] at h
          refine q_iconst dX12_move_64 rfl rfl ?_
          refine q_iload dX12_move_65 rfl rfl ?_
          refine q_isub dX12_move_67 rfl ?_
          cases h
          exact q_ireturn dX12_move_68 rfl hQ
      · rw [if_pos (show a2 = 0 from g)] at h
        refine q_iload_n dX12_move_20 rfl rfl ?_
        obtain ⟨c3210, h⟩ := qk_some h
        refine q_if_ne (tgt := 26) dX12_move_21 (by decide) rfl (qRb_R c3210)  (fun g => ?_) (fun g => ?_)
        · rw [if_neg (show ¬ (a3 = 0) from g)] at h
          refine q_aload_n dX12_move_26 rfl rfl ?_
          refine q_iload_n dX12_move_27 rfl rfl ?_
          refine q_aload_n dX12_move_28 rfl rfl ?_
          refine q_getA dX12_move_29 fl_X12_36 (hL 70 (by decide)) sh_70 (by decide) rfl rfl ?_
          refine q_iload_n dX12_move_32 rfl rfl ?_
          obtain ⟨c3211, h⟩ := qk_some h
          refine q_iaload dX12_move_33 (hL 78 (by decide)) sh_78 (qIx_0 c3211) (qIx_1 c3211) rfl ?_
          obtain ⟨c3212, h⟩ := qk_some h
          refine q_i2l dX12_move_34 (qRb_R c3212) rfl ?_
          refine q_iload_n dX12_move_35 rfl rfl ?_
          obtain ⟨c3213, h⟩ := qk_some h
          refine q_i2l dX12_move_36 (qRb_R c3213) rfl ?_
          refine q_ladd dX12_move_37 rfl ?_
          refine q_aload_n dX12_move_38 rfl rfl ?_
          refine q_getA dX12_move_39 fl_X12_39 (hL 70 (by decide)) sh_70 (by decide) rfl rfl ?_
          refine q_iload_n dX12_move_42 rfl rfl ?_
          obtain ⟨c3214, h⟩ := qk_some h
          refine q_iaload dX12_move_43 (hL 79 (by decide)) sh_79 (qIx_0 c3214) (qIx_1 c3214) rfl ?_
          obtain ⟨c3215, h⟩ := qk_some h
          refine q_i2l dX12_move_44 (qRb_R c3215) rfl ?_
          refine q_iload_n dX12_move_45 rfl rfl ?_
          obtain ⟨c3216, h⟩ := qk_some h
          refine q_i2l dX12_move_46 (qRb_R c3216) rfl ?_
          refine q_ladd dX12_move_47 rfl ?_
          refine q_aload_n dX12_move_48 rfl rfl ?_
          refine q_getA dX12_move_49 fl_X12_42 (hL 70 (by decide)) sh_70 (by decide) rfl rfl ?_
          refine q_iload_n dX12_move_52 rfl rfl ?_
          obtain ⟨c3217, h⟩ := qk_some h
          refine q_iaload dX12_move_53 (hL 80 (by decide)) sh_80 (qIx_0 c3217) (qIx_1 c3217) rfl ?_
          obtain ⟨q3218, h3219, h⟩ := Option.bind_eq_some_iff.mp h
          refine q_callVi (as := [qi a1, ql ((q3186.2 78 (Int.toNat a1)) + a2), ql ((q3186.2 79 (Int.toNat a1)) + a3), qi (q3186.2 80 (Int.toNat a1))]) (c := 70) dX12_move_54 ml_X12_390 rfl rfl (hL 70 (by decide)) sh_70 rfl rfl (Nat.le_of_ble_eq_true rfl) (M_lawOf_ok hL d a1 ((q3186.2 78 (Int.toNat a1)) + a2) ((q3186.2 79 (Int.toNat a1)) + a3) (q3186.2 80 (Int.toNat a1)) _ _ h3219) rfl ?_
          refine q_istore (lv' := [(4, qi q3218.1), (0, qr 70), (1, qi a1), (2, qi a2), (3, qi a3)]) dX12_move_57 (by decide) rfl rfl ?_
          refine q_iload dX12_move_59 rfl rfl ?_
          obtain ⟨c3220, h⟩ := qk_some h
          refine q_if_le (tgt := 69) dX12_move_61 (by decide) rfl (qRb_R c3220)  (fun g => ?_) (fun g => ?_)
          · rw [if_pos (show q3218.1 ≤ 0 from g)] at h
            refine q_aload_n dX12_move_69 rfl rfl ?_
            refine q_bipush dX12_move_70 (by decide) rfl ?_
            obtain ⟨q3221, h3222, h⟩ := Option.bind_eq_some_iff.mp h
            refine q_callVv (as := [qi 16]) (c := 70) dX12_move_72 ml_X12_414 rfl rfl (hL 70 (by decide)) sh_70 rfl rfl (Nat.le_of_ble_eq_true rfl) (M_puts_ok hL (d + 6) 16 _ _ h3222) rfl ?_
            refine q_aload_n dX12_move_75 rfl rfl ?_
            obtain ⟨q3223, h3224, h⟩ := Option.bind_eq_some_iff.mp h
            refine q_callVv (as := []) (c := 70) dX12_move_76 ml_X12_417 rfl rfl (hL 70 (by decide)) sh_70 rfl rfl (Nat.le_of_ble_eq_true rfl) (M_keeps_ok hL (d + 5) _ _ h3224) rfl ?_
            refine q_aload_n dX12_move_79 rfl rfl ?_
            refine q_iload_n dX12_move_80 rfl rfl ?_
            refine q_aload_n dX12_move_81 rfl rfl ?_
            refine q_getA dX12_move_82 fl_X12_36 (hL 70 (by decide)) sh_70 (by decide) rfl rfl ?_
            refine q_iload_n dX12_move_85 rfl rfl ?_
            obtain ⟨c3225, h⟩ := qk_some h
            refine q_iaload dX12_move_86 (hL 78 (by decide)) sh_78 (qIx_0 c3225) (qIx_1 c3225) rfl ?_
            refine q_iload_n dX12_move_87 rfl rfl ?_
            refine q_iadd dX12_move_88 rfl ?_
            refine q_aload_n dX12_move_89 rfl rfl ?_
            refine q_getA dX12_move_90 fl_X12_39 (hL 70 (by decide)) sh_70 (by decide) rfl rfl ?_
            refine q_iload_n dX12_move_93 rfl rfl ?_
            obtain ⟨c3226, h⟩ := qk_some h
            refine q_iaload dX12_move_94 (hL 79 (by decide)) sh_79 (qIx_0 c3226) (qIx_1 c3226) rfl ?_
            refine q_iload_n dX12_move_95 rfl rfl ?_
            refine q_iadd dX12_move_96 rfl ?_
            refine q_aload_n dX12_move_97 rfl rfl ?_
            refine q_getA dX12_move_98 fl_X12_42 (hL 70 (by decide)) sh_70 (by decide) rfl rfl ?_
            refine q_iload_n dX12_move_101 rfl rfl ?_
            obtain ⟨c3227, h⟩ := qk_some h
            refine q_iaload dX12_move_102 (hL 80 (by decide)) sh_80 (qIx_0 c3227) (qIx_1 c3227) rfl ?_
            obtain ⟨q3228, h3229, h⟩ := Option.bind_eq_some_iff.mp h
            refine q_callVv (as := [qi a1, qi ((q3223 78 (Int.toNat a1)) + a2), qi ((q3223 79 (Int.toNat a1)) + a3), qi (q3223 80 (Int.toNat a1))]) (c := 70) dX12_move_103 ml_X12_383 rfl rfl (hL 70 (by decide)) sh_70 rfl rfl (Nat.le_of_ble_eq_true rfl) (M_lay_ok hL (d + 3) a1 ((q3223 78 (Int.toNat a1)) + a2) ((q3223 79 (Int.toNat a1)) + a3) (q3223 80 (Int.toNat a1)) _ _ h3229) rfl ?_
            refine q_aload_n dX12_move_106 rfl rfl ?_
            refine q_getA dX12_move_107 fl_X12_48 (hL 70 (by decide)) sh_70 (by decide) rfl rfl ?_
            refine q_iload_n dX12_move_110 rfl rfl ?_
            obtain ⟨c3230, h⟩ := qk_some h
            refine q_iaload dX12_move_111 (hL 82 (by decide)) sh_82 (qIx_0 c3230) (qIx_1 c3230) rfl ?_
            cases h
            exact q_ireturn dX12_move_112 rfl hQ
          · rw [if_neg (show ¬ (q3218.1 ≤ 0) from g)] at h
            refine q_iconst dX12_move_64 rfl rfl ?_
            refine q_iload dX12_move_65 rfl rfl ?_
            refine q_isub dX12_move_67 rfl ?_
            cases h
            exact q_ireturn dX12_move_68 rfl hQ
        · rw [if_pos (show a3 = 0 from g)] at h
          refine q_iconst dX12_move_24 rfl rfl ?_
          cases h
          exact q_ireturn dX12_move_25 rfl hQ
