set_option maxRecDepth 20000 in
theorem M_write_L7_ok {X : qX} (hL : ∀ c, c < 93 → c ∈ qLs X) (d : Nat) {Q : Option qV → qSto → Prop} : ∀ (n : Nat) (x1 : Int) (S : qSto) (o : qSto), M_write_L7 n x1 S = some o → (qW X (d + 4) yX12_write cX12_write 2 (some .int) 76 [(0, qr 70)] [] o Q) → qW X (d + 4) yX12_write cX12_write 2 (some .int) 7 [(0, qr 70), (1, qi x1)] [] S Q := by
  intro n
  induction n with
  | zero =>
    intro x1 S o h
    simp [M_write_L7] at h
  | succ n ih =>
    intro x1 S o h hE
    rw [M_write_L7] at h
    refine q_iload_n dX12_write_7 rfl rfl ?_
    refine q_aload_n dX12_write_8 rfl rfl ?_
    refine q_getA dX12_write_9 fl_X12_13 (hL 70 (by decide)) sh_70 (by decide) rfl rfl ?_
    refine q_bipush dX12_write_12 (by decide) rfl ?_
    refine q_iaload dX12_write_14 (hL 72 (by decide)) sh_72 (by decide) (by decide) rfl ?_
    obtain ⟨c3920, h⟩ := qk_some h
    obtain ⟨c3921, h⟩ := qk_some h
    refine q_icmp_ge (tgt := 76) dX12_write_15 (by decide) rfl (qRb_R c3920) (qRb_R c3921) (fun g => ?_) (fun g => ?_)
    · rw [if_pos (show (S 72 9) ≤ x1 from g)] at h
      cases h
      exact q_pick [0] rfl (hE)
    · rw [if_neg (show ¬ ((S 72 9) ≤ x1) from g)] at h
      refine q_aload_n dX12_write_18 rfl rfl ?_
      refine q_iload_n dX12_write_19 rfl rfl ?_
      obtain ⟨q3922, h3923, h⟩ := Option.bind_eq_some_iff.mp h
      refine q_callVi (as := [qi x1]) (c := 70) dX12_write_20 ml_X12_326 rfl rfl (hL 70 (by decide)) sh_70 rfl rfl (Nat.le_of_ble_eq_true rfl) (M_stays_ok hL (d + 3) x1 _ _ h3923) rfl ?_
      refine q_jn (G := fun (t3967 : qSto) => qW X (d + 4) yX12_write cX12_write 2 (some .int) 70 [(0, qr 70), (1, qi x1)] [] t3967 Q) h (fun t3967 h => ?_) (fun t3967 h hk4287 => ?_)
      · try dsimp only at h
        refine q_iinc (lv' := [(1, qi (x1 + 1)), (0, qr 70)]) dX12_write_70 (by decide) rfl rfl rfl ?_
        refine q_goto (pc' := 7) dX12_write_73 (by decide) ?_
        exact q_pick [1, 0] rfl (ih (x1 + 1) _ _ h hE)
      · skip
        obtain ⟨c3924, h⟩ := qk_some h
        refine q_if_ne (tgt := 29) dX12_write_23 (by decide) rfl (qRb_R c3924)  (fun g => ?_) (fun g => ?_)
        · rw [if_neg (show ¬ (q3922.1 = 0) from g)] at h
          refine q_aload_n dX12_write_29 rfl rfl ?_
          refine q_iload_n dX12_write_30 rfl rfl ?_
          obtain ⟨q3936, h3937, h⟩ := Option.bind_eq_some_iff.mp h
          refine q_callVv (as := [qi x1]) (c := 70) dX12_write_31 ml_X12_515 rfl rfl (hL 70 (by decide)) sh_70 rfl rfl (Nat.le_of_ble_eq_true rfl) (M_writesName_ok hL d x1 _ _ h3937) rfl ?_
          refine q_aload_n dX12_write_34 rfl rfl ?_
          refine q_aload_n dX12_write_35 rfl rfl ?_
          refine q_getA dX12_write_36 fl_X12_36 (hL 70 (by decide)) sh_70 (by decide) rfl rfl ?_
          refine q_iload_n dX12_write_39 rfl rfl ?_
          obtain ⟨c3938, h⟩ := qk_some h
          refine q_iaload dX12_write_40 (hL 78 (by decide)) sh_78 (qIx_0 c3938) (qIx_1 c3938) rfl ?_
          obtain ⟨q3957, h3958, h⟩ := Option.bind_eq_some_iff.mp h
          refine q_callVv (as := [qi (q3936 78 (Int.toNat x1))]) (c := 70) dX12_write_41 ml_X12_518 rfl rfl (hL 70 (by decide)) sh_70 rfl rfl (Nat.le_of_ble_eq_true rfl) (M_writesNumber_ok hL (d + 2) (q3936 78 (Int.toNat x1)) _ _ h3958) rfl ?_
          refine q_aload_n dX12_write_44 rfl rfl ?_
          refine q_aload_n dX12_write_45 rfl rfl ?_
          refine q_getA dX12_write_46 fl_X12_39 (hL 70 (by decide)) sh_70 (by decide) rfl rfl ?_
          refine q_iload_n dX12_write_49 rfl rfl ?_
          obtain ⟨c3959, h⟩ := qk_some h
          refine q_iaload dX12_write_50 (hL 79 (by decide)) sh_79 (qIx_0 c3959) (qIx_1 c3959) rfl ?_
          obtain ⟨q3960, h3961, h⟩ := Option.bind_eq_some_iff.mp h
          refine q_callVv (as := [qi (q3957 79 (Int.toNat x1))]) (c := 70) dX12_write_51 ml_X12_518 rfl rfl (hL 70 (by decide)) sh_70 rfl rfl (Nat.le_of_ble_eq_true rfl) (M_writesNumber_ok hL (d + 2) (q3957 79 (Int.toNat x1)) _ _ h3961) rfl ?_
          refine q_aload_n dX12_write_54 rfl rfl ?_
          refine q_aload_n dX12_write_55 rfl rfl ?_
          refine q_getA dX12_write_56 fl_X12_42 (hL 70 (by decide)) sh_70 (by decide) rfl rfl ?_
          refine q_iload_n dX12_write_59 rfl rfl ?_
          obtain ⟨c3962, h⟩ := qk_some h
          refine q_iaload dX12_write_60 (hL 80 (by decide)) sh_80 (qIx_0 c3962) (qIx_1 c3962) rfl ?_
          obtain ⟨q3963, h3964, h⟩ := Option.bind_eq_some_iff.mp h
          refine q_callVv (as := [qi (q3960 80 (Int.toNat x1))]) (c := 70) dX12_write_61 ml_X12_518 rfl rfl (hL 70 (by decide)) sh_70 rfl rfl (Nat.le_of_ble_eq_true rfl) (M_writesNumber_ok hL (d + 2) (q3960 80 (Int.toNat x1)) _ _ h3964) rfl ?_
          refine q_aload_n dX12_write_64 rfl rfl ?_
          refine q_bipush dX12_write_65 (by decide) rfl ?_
          obtain ⟨q3965, h3966, h⟩ := Option.bind_eq_some_iff.mp h
          refine q_callVv (as := [qi 59]) (c := 70) dX12_write_67 ml_X12_509 rfl rfl (hL 70 (by decide)) sh_70 rfl rfl (Nat.le_of_ble_eq_true rfl) (M_writes_ok hL (d + 3) 59 _ _ h3966) rfl ?_
          cases h
          exact q_pick [0, 1] rfl hk4287
        · rw [if_pos (show q3922.1 = 0 from g)] at h
          refine q_goto (pc' := 70) dX12_write_26 (by decide) ?_
          cases h
          exact q_pick [0, 1] rfl hk4287
set_option maxRecDepth 20000 in
theorem M_write_ok {X : qX} (hL : ∀ c, c < 93 → c ∈ qLs X) (d : Nat) (S : qSto) (o : (Int × qSto)) (h : M_write S = some o) (Q : Option qV → qSto → Prop) (hQ : Q (some (qi o.1)) o.2) : qC X (d + 4) yX12_write cX12_write 2 (some .int) [qr 70] S Q := by
  refine q_entry (lv := [(0, qr 70)]) pn_X12 (Nat.le_of_ble_eq_true rfl) rfl ?_
  unfold M_write at h
  refine q_aload_n dX12_write_0 rfl rfl ?_
  refine q_iconst dX12_write_1 rfl rfl ?_
  refine q_putI dX12_write_2 fl_X12_506 (hL 70 (by decide)) sh_70 (by decide) pf_12_41 pt_12_41 rfl rfl ?_
  refine q_iconst dX12_write_5 rfl rfl ?_
  refine q_istore_n (lv' := [(1, qi 0), (0, qr 70)]) dX12_write_6 (by decide) rfl rfl ?_
  obtain ⟨q3968, h3969, h⟩ := Option.bind_eq_some_iff.mp h
  refine q_pick [1, 0] rfl (M_write_L7_ok hL d qF 0 _ _ h3969 ?_)
  refine q_aload_n dX12_write_76 rfl rfl ?_
  refine q_getI dX12_write_77 fl_X12_506 (hL 70 (by decide)) sh_70 (by decide) rfl rfl ?_
  cases h
  exact q_ireturn dX12_write_80 rfl hQ
set_option maxRecDepth 20000 in
theorem M_octet_ok {X : qX} (hL : ∀ c, c < 93 → c ∈ qLs X) (d : Nat) (a1 : Int) (S : qSto) (o : (Int × qSto)) (h : M_octet a1 S = some o) (Q : Option qV → qSto → Prop) (hQ : Q (some (qi o.1)) o.2) : qC X (d + 1) yX12_octet cX12_octet 2 (some .int) [qr 70, qi a1] S Q := by
  refine q_entry (lv := [(0, qr 70), (1, qi a1)]) pn_X12 (Nat.le_of_ble_eq_true rfl) rfl ?_
  unfold M_octet at h
  refine q_iload_n dX12_octet_0 rfl rfl ?_
  obtain ⟨c3970, h⟩ := qk_some h
  refine q_i2l dX12_octet_1 (qRb_R c3970) rfl ?_
  refine q_lconst (v := 0) dX12_octet_2 rfl rfl ?_
  refine q_aload_n dX12_octet_3 rfl rfl ?_
  refine q_getI dX12_octet_4 fl_X12_506 (hL 70 (by decide)) sh_70 (by decide) rfl rfl ?_
  refine q_iconst dX12_octet_7 rfl rfl ?_
  refine q_isub dX12_octet_8 rfl ?_
  obtain ⟨c3971, h⟩ := qk_some h
  refine q_i2l dX12_octet_9 (qRb_R c3971) rfl ?_
  obtain ⟨q3972, h3973, h⟩ := Option.bind_eq_some_iff.mp h
  refine q_callSi (as := [ql a1, ql 0, ql ((S 70 41) - 1)]) dX12_octet_10 ml_X12_99 rfl rfl (Nat.le_of_ble_eq_true rfl) (M_in_ok hL d a1 0 ((S 70 41) - 1) _ _ h3973) rfl ?_
  obtain ⟨c3974, h⟩ := qk_some h
  refine q_if_eq (tgt := 25) dX12_octet_13 (by decide) rfl (qRb_R c3974)  (fun g => ?_) (fun g => ?_)
  · rw [if_pos (show q3972.1 = 0 from g)] at h
    refine q_iconst dX12_octet_25 rfl rfl ?_
    cases h
    exact q_ireturn dX12_octet_26 rfl hQ
  · rw [if_neg (show ¬ (q3972.1 = 0) from g)] at h
    refine q_aload_n dX12_octet_16 rfl rfl ?_
    refine q_getA dX12_octet_17 fl_X12_79 (hL 70 (by decide)) sh_70 (by decide) rfl rfl ?_
    refine q_iload_n dX12_octet_20 rfl rfl ?_
    obtain ⟨c3975, h⟩ := qk_some h
    refine q_iaload dX12_octet_21 (hL 92 (by decide)) sh_92 (qIx_0 c3975) (qIx_1 c3975) rfl ?_
    refine q_goto (pc' := 26) dX12_octet_22 (by decide) ?_
    cases h
    exact q_ireturn dX12_octet_26 rfl hQ
set_option maxRecDepth 20000 in
theorem M_isMark_ok {X : qX} (hL : ∀ c, c < 93 → c ∈ qLs X) (d : Nat) (a0 : Int) (S : qSto) (o : (Int × qSto)) (h : M_isMark a0 S = some o) (Q : Option qV → qSto → Prop) (hQ : Q (some (qi o.1)) o.2) : qC X (d + 1) yX12_isMark cX12_isMark 1 (some .boolean) [qi a0] S Q := by
  refine q_entry (lv := [(0, qi a0)]) pn_X12 (Nat.le_of_ble_eq_true rfl) rfl ?_
  unfold M_isMark at h
  refine q_iload_n dX12_isMark_0 rfl rfl ?_
  obtain ⟨c3976, h⟩ := qk_some h
  refine q_i2l dX12_isMark_1 (qRb_R c3976) rfl ?_
  refine q_lconst (v := 0) dX12_isMark_2 rfl rfl ?_
  refine q_ldc2 (v := 3) dX12_isMark_3 qw_1729 rfl ?_
  obtain ⟨q3977, h3978, h⟩ := Option.bind_eq_some_iff.mp h
  refine q_callSi (as := [ql a0, ql 0, ql 3]) dX12_isMark_6 ml_X12_99 rfl rfl (Nat.le_of_ble_eq_true rfl) (M_in_ok hL d a0 0 3 _ _ h3978) rfl ?_
  obtain ⟨c3979, h⟩ := qk_some h
  cases h
  exact q_zreturn dX12_isMark_9 rfl (qZb_Z c3979) hQ
set_option maxRecDepth 20000 in
theorem M_differsIn_ok {X : qX} (hL : ∀ c, c < 93 → c ∈ qLs X) (d : Nat) (a1 : Int) (a2 : Int) (S : qSto) (o : (Int × qSto)) (h : M_differsIn a1 a2 S = some o) (Q : Option qV → qSto → Prop) (hQ : Q (some (qi o.1)) o.2) : qC X (d + 1) yX12_differsIn cX12_differsIn 4 (some .boolean) [qr 70, qi a1, qi a2] S Q := by
  refine q_entry (lv := [(0, qr 70), (1, qi a1), (2, qi a2)]) pn_X12 (Nat.le_of_ble_eq_true rfl) rfl ?_
  unfold M_differsIn at h
  refine q_aload_n dX12_differsIn_0 rfl rfl ?_
  refine q_getA dX12_differsIn_1 fl_X12_57 (hL 70 (by decide)) sh_70 (by decide) rfl rfl ?_
  refine q_iload_n dX12_differsIn_4 rfl rfl ?_
  refine q_iconst dX12_differsIn_5 rfl rfl ?_
  refine q_iadd dX12_differsIn_6 rfl ?_
  obtain ⟨c3987, h⟩ := qk_some h
  refine q_iaload dX12_differsIn_7 (hL 85 (by decide)) sh_85 (qIx_0 c3987) (qIx_1 c3987) rfl ?_
  refine q_jn (G := fun (t3989 : Int) => qW X (d + 1) yX12_differsIn cX12_differsIn 4 (some .boolean) 16 [(0, qr 70), (1, qi a1), (2, qi a2)] [qi t3989] S Q) h (fun t3989 h => ?_) (fun t3989 h hk4288 => ?_)
  · try dsimp only at h
    refine q_istore_n (lv' := [(3, qi t3989), (0, qr 70), (1, qi a1), (2, qi a2)]) dX12_differsIn_16 (by decide) rfl rfl ?_
    refine q_iload_n dX12_differsIn_17 rfl rfl ?_
    refine q_aload_n dX12_differsIn_18 rfl rfl ?_
    refine q_iload_n dX12_differsIn_19 rfl rfl ?_
    obtain ⟨q3990, h3991, h⟩ := Option.bind_eq_some_iff.mp h
    refine q_callVi (as := [qi a1]) (c := 70) dX12_differsIn_20 ml_X12_326 rfl rfl (hL 70 (by decide)) sh_70 rfl rfl (Nat.le_of_ble_eq_true rfl) (M_stays_ok hL d a1 _ _ h3991) rfl ?_
    obtain ⟨c3992, h⟩ := qk_some h
    obtain ⟨c3993, h⟩ := qk_some h
    refine q_icmp_eq (tgt := 28) dX12_differsIn_23 (by decide) rfl (qRb_R c3992) (qRb_R c3993) (fun g => ?_) (fun g => ?_)
    · rw [if_pos (show t3989 = q3990.1 from g)] at h
      refine q_iload_n dX12_differsIn_28 rfl rfl ?_
      obtain ⟨c3994, h⟩ := qk_some h
      refine q_if_eq (tgt := 85) dX12_differsIn_29 (by decide) rfl (qRb_R c3994)  (fun g => ?_) (fun g => ?_)
      · rw [if_pos (show t3989 = 0 from g)] at h
        refine q_iconst dX12_differsIn_85 rfl rfl ?_
        cases h
        exact q_zreturn dX12_differsIn_86 rfl (by decide) hQ
      · rw [if_neg (show ¬ (t3989 = 0) from g)] at h
        refine q_aload_n dX12_differsIn_32 rfl rfl ?_
        refine q_getA dX12_differsIn_33 fl_X12_57 (hL 70 (by decide)) sh_70 (by decide) rfl rfl ?_
        refine q_iload_n dX12_differsIn_36 rfl rfl ?_
        obtain ⟨c3995, h⟩ := qk_some h
        refine q_iaload dX12_differsIn_37 (hL 85 (by decide)) sh_85 (qIx_0 c3995) (qIx_1 c3995) rfl ?_
        refine q_aload_n dX12_differsIn_38 rfl rfl ?_
        refine q_getA dX12_differsIn_39 fl_X12_36 (hL 70 (by decide)) sh_70 (by decide) rfl rfl ?_
        refine q_iload_n dX12_differsIn_42 rfl rfl ?_
        obtain ⟨c3996, h⟩ := qk_some h
        refine q_iaload dX12_differsIn_43 (hL 78 (by decide)) sh_78 (qIx_0 c3996) (qIx_1 c3996) rfl ?_
        obtain ⟨c3997, h⟩ := qk_some h
        obtain ⟨c3998, h⟩ := qk_some h
        refine q_icmp_ne (tgt := 81) dX12_differsIn_44 (by decide) rfl (qRb_R c3997) (qRb_R c3998) (fun g => ?_) (fun g => ?_)
        · rw [if_neg (show ¬ ((q3990.2 85 (Int.toNat a2)) = (q3990.2 78 (Int.toNat a1))) from g)] at h
          refine q_iconst dX12_differsIn_81 rfl rfl ?_
          refine q_goto (pc' := 86) dX12_differsIn_82 (by decide) ?_
          cases h
          exact q_zreturn dX12_differsIn_86 rfl (by decide) hQ
        · rw [if_pos (show (q3990.2 85 (Int.toNat a2)) = (q3990.2 78 (Int.toNat a1)) from g)] at h
          refine q_aload_n dX12_differsIn_47 rfl rfl ?_
          refine q_getA dX12_differsIn_48 fl_X12_57 (hL 70 (by decide)) sh_70 (by decide) rfl rfl ?_
          refine q_iload_n dX12_differsIn_51 rfl rfl ?_
          refine q_iconst dX12_differsIn_52 rfl rfl ?_
          refine q_iadd dX12_differsIn_53 rfl ?_
          obtain ⟨c3999, h⟩ := qk_some h
          refine q_iaload dX12_differsIn_54 (hL 85 (by decide)) sh_85 (qIx_0 c3999) (qIx_1 c3999) rfl ?_
          refine q_aload_n dX12_differsIn_55 rfl rfl ?_
          refine q_getA dX12_differsIn_56 fl_X12_39 (hL 70 (by decide)) sh_70 (by decide) rfl rfl ?_
          refine q_iload_n dX12_differsIn_59 rfl rfl ?_
          obtain ⟨c4000, h⟩ := qk_some h
          refine q_iaload dX12_differsIn_60 (hL 79 (by decide)) sh_79 (qIx_0 c4000) (qIx_1 c4000) rfl ?_
          obtain ⟨c4001, h⟩ := qk_some h
          obtain ⟨c4002, h⟩ := qk_some h
          refine q_icmp_ne (tgt := 81) dX12_differsIn_61 (by decide) rfl (qRb_R c4001) (qRb_R c4002) (fun g => ?_) (fun g => ?_)
          · rw [if_neg (show ¬ ((q3990.2 85 (Int.toNat (a2 + 1))) = (q3990.2 79 (Int.toNat a1))) from g)] at h
            refine q_iconst dX12_differsIn_81 rfl rfl ?_
            refine q_goto (pc' := 86) dX12_differsIn_82 (by decide) ?_
            cases h
            exact q_zreturn dX12_differsIn_86 rfl (by decide) hQ
          · rw [if_pos (show (q3990.2 85 (Int.toNat (a2 + 1))) = (q3990.2 79 (Int.toNat a1)) from g)] at h
            refine q_aload_n dX12_differsIn_64 rfl rfl ?_
            refine q_getA dX12_differsIn_65 fl_X12_57 (hL 70 (by decide)) sh_70 (by decide) rfl rfl ?_
            refine q_iload_n dX12_differsIn_68 rfl rfl ?_
            refine q_iconst dX12_differsIn_69 rfl rfl ?_
            refine q_iadd dX12_differsIn_70 rfl ?_
            obtain ⟨c4003, h⟩ := qk_some h
            refine q_iaload dX12_differsIn_71 (hL 85 (by decide)) sh_85 (qIx_0 c4003) (qIx_1 c4003) rfl ?_
            refine q_aload_n dX12_differsIn_72 rfl rfl ?_
            refine q_getA dX12_differsIn_73 fl_X12_42 (hL 70 (by decide)) sh_70 (by decide) rfl rfl ?_
            refine q_iload_n dX12_differsIn_76 rfl rfl ?_
            obtain ⟨c4004, h⟩ := qk_some h
            refine q_iaload dX12_differsIn_77 (hL 80 (by decide)) sh_80 (qIx_0 c4004) (qIx_1 c4004) rfl ?_
            obtain ⟨c4005, h⟩ := qk_some h
            obtain ⟨c4006, h⟩ := qk_some h
            refine q_icmp_eq (tgt := 85) dX12_differsIn_78 (by decide) rfl (qRb_R c4005) (qRb_R c4006) (fun g => ?_) (fun g => ?_)
            · rw [if_pos (show (q3990.2 85 (Int.toNat (a2 + 2))) = (q3990.2 80 (Int.toNat a1)) from g)] at h
              refine q_iconst dX12_differsIn_85 rfl rfl ?_
              cases h
              exact q_zreturn dX12_differsIn_86 rfl (by decide) hQ
            · rw [if_neg (show ¬ ((q3990.2 85 (Int.toNat (a2 + 2))) = (q3990.2 80 (Int.toNat a1))) from g)] at h
              refine q_iconst dX12_differsIn_81 rfl rfl ?_
              refine q_goto (pc' := 86) dX12_differsIn_82 (by decide) ?_
              cases h
              exact q_zreturn dX12_differsIn_86 rfl (by decide) hQ
    · rw [if_neg (show ¬ (t3989 = q3990.1) from g)] at h
      refine q_iconst dX12_differsIn_26 rfl rfl ?_
      cases h
      exact q_zreturn dX12_differsIn_27 rfl (by decide) hQ
  · skip
    obtain ⟨c3988, h⟩ := qk_some h
    refine q_if_le (tgt := 15) dX12_differsIn_8 (by decide) rfl (qRb_R c3988)  (fun g => ?_) (fun g => ?_)
    · rw [if_pos (show (S 85 (Int.toNat (a2 + 2))) ≤ 0 from g)] at h
      refine q_iconst dX12_differsIn_15 rfl rfl ?_
      cases h
      exact q_pick [0, 1, 2] rfl hk4288
    · rw [if_neg (show ¬ ((S 85 (Int.toNat (a2 + 2))) ≤ 0) from g)] at h
      refine q_iconst dX12_differsIn_11 rfl rfl ?_
      refine q_goto (pc' := 16) dX12_differsIn_12 (by decide) ?_
      cases h
      exact q_pick [0, 1, 2] rfl hk4288
set_option maxRecDepth 20000 in
theorem M_differs_L22_ok {X : qX} (hL : ∀ c, c < 93 → c ∈ qLs X) (d : Nat) {Q : Option qV → qSto → Prop} : ∀ (n : Nat) (x1 : Int) (x2 : Int) (x3 : Int) (S : qSto) (o : (Int × qSto)), M_differs_L22 n x1 x2 x3 S = some o → (qW X (d + 2) yX12_differs cX12_differs 4 (some .int) 68 [(2, qi o.1)] [] o.2 Q) → qW X (d + 2) yX12_differs cX12_differs 4 (some .int) 22 [(0, qr 70), (1, qi x1), (2, qi x2), (3, qi x3)] [] S Q := by
  intro n
  induction n with
  | zero =>
    intro x1 x2 x3 S o h
    simp [M_differs_L22] at h
  | succ n ih =>
    intro x1 x2 x3 S o h hE
    rw [M_differs_L22] at h
    refine q_iload_n dX12_differs_22 rfl rfl ?_
    refine q_aload_n dX12_differs_23 rfl rfl ?_
    refine q_getA dX12_differs_24 fl_X12_13 (hL 70 (by decide)) sh_70 (by decide) rfl rfl ?_
    refine q_bipush dX12_differs_27 (by decide) rfl ?_
    refine q_iaload dX12_differs_29 (hL 72 (by decide)) sh_72 (by decide) (by decide) rfl ?_
    obtain ⟨c3985, h⟩ := qk_some h
    obtain ⟨c3986, h⟩ := qk_some h
    refine q_icmp_ge (tgt := 68) dX12_differs_30 (by decide) rfl (qRb_R c3985) (qRb_R c3986) (fun g => ?_) (fun g => ?_)
    · rw [if_pos (show (S 72 9) ≤ x3 from g)] at h
      cases h
      exact q_pick [2] rfl (hE)
    · rw [if_neg (show ¬ ((S 72 9) ≤ x3) from g)] at h
      refine q_aload_n dX12_differs_33 rfl rfl ?_
      refine q_iload_n dX12_differs_34 rfl rfl ?_
      refine q_bipush dX12_differs_35 (by decide) rfl ?_
      refine q_bipush dX12_differs_37 (by decide) rfl ?_
      refine q_iload_n dX12_differs_39 rfl rfl ?_
      refine q_iadd dX12_differs_40 rfl ?_
      refine q_imul dX12_differs_41 rfl ?_
      refine q_iconst dX12_differs_42 rfl rfl ?_
      refine q_iload_n dX12_differs_43 rfl rfl ?_
      refine q_imul dX12_differs_44 rfl ?_
      refine q_iadd dX12_differs_45 rfl ?_
      obtain ⟨q4007, h4008, h⟩ := Option.bind_eq_some_iff.mp h
      refine q_callVi (as := [qi x3, qi ((42 * (12 + x1)) + (3 * x3))]) (c := 70) dX12_differs_46 ml_X12_524 rfl rfl (hL 70 (by decide)) sh_70 rfl rfl (Nat.le_of_ble_eq_true rfl) (M_differsIn_ok hL d x3 ((42 * (12 + x1)) + (3 * x3)) _ _ h4008) rfl ?_
      refine q_jn (G := fun (t4010 : Int) => qW X (d + 2) yX12_differs cX12_differs 4 (some .int) 61 [(0, qr 70), (1, qi x1), (3, qi x3)] [qi t4010] q4007.2 Q) h (fun t4010 h => ?_) (fun t4010 h hk4289 => ?_)
      · try dsimp only at h
        refine q_istore_n (lv' := [(2, qi t4010), (0, qr 70), (1, qi x1), (3, qi x3)]) dX12_differs_61 (by decide) rfl rfl ?_
        refine q_iinc (lv' := [(3, qi (x3 + 1)), (2, qi t4010), (0, qr 70), (1, qi x1)]) dX12_differs_62 (by decide) rfl rfl rfl ?_
        refine q_goto (pc' := 22) dX12_differs_65 (by decide) ?_
        exact q_pick [2, 3, 1, 0] rfl (ih x1 t4010 (x3 + 1) _ _ h hE)
      · skip
        obtain ⟨c4009, h⟩ := qk_some h
        refine q_if_eq (tgt := 60) dX12_differs_49 (by decide) rfl (qRb_R c4009)  (fun g => ?_) (fun g => ?_)
        · rw [if_pos (show q4007.1 = 0 from g)] at h
          refine q_iload_n dX12_differs_60 rfl rfl ?_
          cases h
          exact q_pick [0, 1, 3] rfl hk4289
        · rw [if_neg (show ¬ (q4007.1 = 0) from g)] at h
          refine q_iload_n dX12_differs_52 rfl rfl ?_
          refine q_iconst dX12_differs_53 rfl rfl ?_
          refine q_iload_n dX12_differs_54 rfl rfl ?_
          refine q_ishl dX12_differs_55 rfl ?_
          refine q_ior dX12_differs_56 rfl ?_
          refine q_goto (pc' := 61) dX12_differs_57 (by decide) ?_
          cases h
          exact q_pick [0, 1, 3] rfl hk4289
set_option maxRecDepth 20000 in
theorem M_differs_ok {X : qX} (hL : ∀ c, c < 93 → c ∈ qLs X) (d : Nat) (a1 : Int) (S : qSto) (o : (Int × qSto)) (h : M_differs a1 S = some o) (Q : Option qV → qSto → Prop) (hQ : Q (some (qi o.1)) o.2) : qC X (d + 2) yX12_differs cX12_differs 4 (some .int) [qr 70, qi a1] S Q := by
  refine q_entry (lv := [(0, qr 70), (1, qi a1)]) pn_X12 (Nat.le_of_ble_eq_true rfl) rfl ?_
  unfold M_differs at h
  refine q_iload_n dX12_differs_0 rfl rfl ?_
  obtain ⟨q3980, h3981, h⟩ := Option.bind_eq_some_iff.mp h
  refine q_callSi (as := [qi a1]) dX12_differs_1 ml_X12_521 rfl rfl (Nat.le_of_ble_eq_true rfl) (M_isMark_ok hL d a1 _ _ h3981) rfl ?_
  obtain ⟨c3982, h⟩ := qk_some h
  refine q_if_eq (tgt := 16) dX12_differs_4 (by decide) rfl (qRb_R c3982)  (fun g => ?_) (fun g => ?_)
  · rw [if_pos (show q3980.1 = 0 from g)] at h
    refine q_iconst dX12_differs_16 rfl rfl ?_
    cases h
    exact q_ireturn dX12_differs_17 rfl hQ
  · rw [if_neg (show ¬ (q3980.1 = 0) from g)] at h
    refine q_aload_n dX12_differs_7 rfl rfl ?_
    refine q_getA dX12_differs_8 fl_X12_60 (hL 70 (by decide)) sh_70 (by decide) rfl rfl ?_
    refine q_iload_n dX12_differs_11 rfl rfl ?_
    obtain ⟨c3983, h⟩ := qk_some h
    refine q_zaload dX12_differs_12 (hL 86 (by decide)) sh_86 (qIx_0 c3983) (qIx_1 c3983) rfl ?_
    obtain ⟨c3984, h⟩ := qk_some h
    refine q_if_ne (tgt := 18) dX12_differs_13 (by decide) rfl (qRb_R c3984)  (fun g => ?_) (fun g => ?_)
    · rw [if_neg (show ¬ ((q3980.2 86 (Int.toNat a1)) = 0) from g)] at h
      refine q_iconst dX12_differs_18 rfl rfl ?_
      refine q_istore_n (lv' := [(2, qi 0), (0, qr 70), (1, qi a1)]) dX12_differs_19 (by decide) rfl rfl ?_
      refine q_iconst dX12_differs_20 rfl rfl ?_
      refine q_istore_n (lv' := [(3, qi 0), (2, qi 0), (0, qr 70), (1, qi a1)]) dX12_differs_21 (by decide) rfl rfl ?_
      obtain ⟨q4011, h4012, h⟩ := Option.bind_eq_some_iff.mp h
      refine q_pick [2, 3, 1, 0] rfl (M_differs_L22_ok hL d qF a1 0 0 _ _ h4012 ?_)
      refine q_iload_n dX12_differs_68 rfl rfl ?_
      cases h
      exact q_ireturn dX12_differs_69 rfl hQ
    · rw [if_pos (show (q3980.2 86 (Int.toNat a1)) = 0 from g)] at h
      refine q_iconst dX12_differs_16 rfl rfl ?_
      cases h
      exact q_ireturn dX12_differs_17 rfl hQ
set_option maxRecDepth 20000 in
theorem M_undo_ok {X : qX} (hL : ∀ c, c < 93 → c ∈ qLs X) (d : Nat) (S : qSto) (o : (Int × qSto)) (h : M_undo S = some o) (Q : Option qV → qSto → Prop) (hQ : Q (some (qi o.1)) o.2) : qC X (d + 5) yX12_undo cX12_undo 1 (some .int) [qr 70] S Q := by
  refine q_entry (lv := [(0, qr 70)]) pn_X12 (Nat.le_of_ble_eq_true rfl) rfl ?_
  unfold M_undo at h
  refine q_aload_n dX12_undo_0 rfl rfl ?_
  refine q_getI dX12_undo_1 fl_X12_252 (hL 70 (by decide)) sh_70 (by decide) rfl rfl ?_
  obtain ⟨c4013, h⟩ := qk_some h
  refine q_if_ne (tgt := 9) dX12_undo_4 (by decide) rfl (qRb_R c4013)  (fun g => ?_) (fun g => ?_)
  · rw [if_neg (show ¬ ((S 70 31) = 0) from g)] at h
    refine q_aload_n dX12_undo_9 rfl rfl ?_
    refine q_aload_n dX12_undo_10 rfl rfl ?_
    refine q_getI dX12_undo_11 fl_X12_252 (hL 70 (by decide)) sh_70 (by decide) rfl rfl ?_
    refine q_iconst dX12_undo_14 rfl rfl ?_
    refine q_isub dX12_undo_15 rfl ?_
    refine q_putI dX12_undo_16 fl_X12_252 (hL 70 (by decide)) sh_70 (by decide) pf_12_31 pt_12_31 rfl rfl ?_
    refine q_aload_n dX12_undo_19 rfl rfl ?_
    refine q_aload_n dX12_undo_20 rfl rfl ?_
    refine q_getI dX12_undo_21 fl_X12_252 (hL 70 (by decide)) sh_70 (by decide) rfl rfl ?_
    obtain ⟨q4014, h4015, h⟩ := Option.bind_eq_some_iff.mp h
    refine q_callVv (as := [qi ((qup S 70 31 ((S 70 31) - 1)) 70 31)]) (c := 70) dX12_undo_24 ml_X12_426 rfl rfl (hL 70 (by decide)) sh_70 rfl rfl (Nat.le_of_ble_eq_true rfl) (M_takes_ok hL d ((qup S 70 31 ((S 70 31) - 1)) 70 31) _ _ h4015) rfl ?_
    refine q_aload_n dX12_undo_27 rfl rfl ?_
    refine q_getI dX12_undo_28 fl_X12_252 (hL 70 (by decide)) sh_70 (by decide) rfl rfl ?_
    cases h
    exact q_ireturn dX12_undo_31 rfl hQ
  · rw [if_pos (show (S 70 31) = 0 from g)] at h
    refine q_iconst dX12_undo_7 rfl rfl ?_
    cases h
    exact q_ireturn dX12_undo_8 rfl hQ
set_option maxRecDepth 20000 in
theorem M_mark_ok {X : qX} (hL : ∀ c, c < 93 → c ∈ qLs X) (d : Nat) (a1 : Int) (S : qSto) (o : (Int × qSto)) (h : M_mark a1 S = some o) (Q : Option qV → qSto → Prop) (hQ : Q (some (qi o.1)) o.2) : qC X (d + 2) yX12_mark cX12_mark 2 (some .int) [qr 70, qi a1] S Q := by
  refine q_entry (lv := [(0, qr 70), (1, qi a1)]) pn_X12 (Nat.le_of_ble_eq_true rfl) rfl ?_
  unfold M_mark at h
  refine q_iload_n dX12_mark_0 rfl rfl ?_
  obtain ⟨q4016, h4017, h⟩ := Option.bind_eq_some_iff.mp h
  refine q_callSi (as := [qi a1]) dX12_mark_1 ml_X12_521 rfl rfl (Nat.le_of_ble_eq_true rfl) (M_isMark_ok hL d a1 _ _ h4017) rfl ?_
  obtain ⟨c4018, h⟩ := qk_some h
  refine q_if_ne (tgt := 9) dX12_mark_4 (by decide) rfl (qRb_R c4018)  (fun g => ?_) (fun g => ?_)
  · rw [if_neg (show ¬ (q4016.1 = 0) from g)] at h
    refine q_aload_n dX12_mark_9 rfl rfl ?_
    refine q_bipush dX12_mark_10 (by decide) rfl ?_
    refine q_iload_n dX12_mark_12 rfl rfl ?_
    refine q_iadd dX12_mark_13 rfl ?_
    obtain ⟨q4019, h4020, h⟩ := Option.bind_eq_some_iff.mp h
    refine q_callVv (as := [qi (12 + a1)]) (c := 70) dX12_mark_14 ml_X12_414 rfl rfl (hL 70 (by decide)) sh_70 rfl rfl (Nat.le_of_ble_eq_true rfl) (M_puts_ok hL (d + 1) (12 + a1) _ _ h4020) rfl ?_
    refine q_aload_n dX12_mark_17 rfl rfl ?_
    refine q_getA dX12_mark_18 fl_X12_60 (hL 70 (by decide)) sh_70 (by decide) rfl rfl ?_
    refine q_iload_n dX12_mark_21 rfl rfl ?_
    refine q_iconst dX12_mark_22 rfl rfl ?_
    obtain ⟨c4021, h⟩ := qk_some h
    refine q_zastore dX12_mark_23 (hL 86 (by decide)) sh_86 (qIx_0 c4021) (qIx_1 c4021) (by decide) rfl ?_
    refine q_aload_n dX12_mark_24 rfl rfl ?_
    obtain ⟨q4022, h4023, h⟩ := Option.bind_eq_some_iff.mp h
    refine q_callVi (as := []) (c := 70) dX12_mark_25 ml_X12_263 rfl rfl (hL 70 (by decide)) sh_70 rfl rfl (Nat.le_of_ble_eq_true rfl) (M_staying_ok hL d _ _ h4023) rfl ?_
    cases h
    exact q_ireturn dX12_mark_28 rfl hQ
  · rw [if_pos (show q4016.1 = 0 from g)] at h
    refine q_iconst dX12_mark_7 rfl rfl ?_
    cases h
    exact q_ireturn dX12_mark_8 rfl hQ
set_option maxRecDepth 20000 in
theorem M_back_ok {X : qX} (hL : ∀ c, c < 93 → c ∈ qLs X) (d : Nat) (a1 : Int) (S : qSto) (o : (Int × qSto)) (h : M_back a1 S = some o) (Q : Option qV → qSto → Prop) (hQ : Q (some (qi o.1)) o.2) : qC X (d + 5) yX12_back cX12_back 2 (some .int) [qr 70, qi a1] S Q := by
  refine q_entry (lv := [(0, qr 70), (1, qi a1)]) pn_X12 (Nat.le_of_ble_eq_true rfl) rfl ?_
  unfold M_back at h
  refine q_iload_n dX12_back_0 rfl rfl ?_
  obtain ⟨q4024, h4025, h⟩ := Option.bind_eq_some_iff.mp h
  refine q_callSi (as := [qi a1]) dX12_back_1 ml_X12_521 rfl rfl (Nat.le_of_ble_eq_true rfl) (M_isMark_ok hL (d + 3) a1 _ _ h4025) rfl ?_
  obtain ⟨c4026, h⟩ := qk_some h
  refine q_if_eq (tgt := 16) dX12_back_4 (by decide) rfl (qRb_R c4026)  (fun g => ?_) (fun g => ?_)
  · rw [if_pos (show q4024.1 = 0 from g)] at h
    refine q_iconst dX12_back_16 rfl rfl ?_
    cases h
    exact q_ireturn dX12_back_17 rfl hQ
  · rw [if_neg (show ¬ (q4024.1 = 0) from g)] at h
    refine q_aload_n dX12_back_7 rfl rfl ?_
    refine q_getA dX12_back_8 fl_X12_60 (hL 70 (by decide)) sh_70 (by decide) rfl rfl ?_
    refine q_iload_n dX12_back_11 rfl rfl ?_
    obtain ⟨c4027, h⟩ := qk_some h
    refine q_zaload dX12_back_12 (hL 86 (by decide)) sh_86 (qIx_0 c4027) (qIx_1 c4027) rfl ?_
    obtain ⟨c4028, h⟩ := qk_some h
    refine q_if_ne (tgt := 18) dX12_back_13 (by decide) rfl (qRb_R c4028)  (fun g => ?_) (fun g => ?_)
    · rw [if_neg (show ¬ ((q4024.2 86 (Int.toNat a1)) = 0) from g)] at h
      refine q_aload_n dX12_back_18 rfl rfl ?_
      refine q_bipush dX12_back_19 (by decide) rfl ?_
      refine q_iload_n dX12_back_21 rfl rfl ?_
      refine q_iadd dX12_back_22 rfl ?_
      obtain ⟨q4029, h4030, h⟩ := Option.bind_eq_some_iff.mp h
      refine q_callVv (as := [qi (12 + a1)]) (c := 70) dX12_back_23 ml_X12_426 rfl rfl (hL 70 (by decide)) sh_70 rfl rfl (Nat.le_of_ble_eq_true rfl) (M_takes_ok hL d (12 + a1) _ _ h4030) rfl ?_
      refine q_aload_n dX12_back_26 rfl rfl ?_
      refine q_iconst dX12_back_27 rfl rfl ?_
      refine q_putI dX12_back_28 fl_X12_252 (hL 70 (by decide)) sh_70 (by decide) pf_12_31 pt_12_31 rfl rfl ?_
      refine q_aload_n dX12_back_31 rfl rfl ?_
      obtain ⟨q4031, h4032, h⟩ := Option.bind_eq_some_iff.mp h
      refine q_callVi (as := []) (c := 70) dX12_back_32 ml_X12_263 rfl rfl (hL 70 (by decide)) sh_70 rfl rfl (Nat.le_of_ble_eq_true rfl) (M_staying_ok hL (d + 3) _ _ h4032) rfl ?_
      cases h
      exact q_ireturn dX12_back_35 rfl hQ
    · rw [if_pos (show (q4024.2 86 (Int.toNat a1)) = 0 from g)] at h
      refine q_iconst dX12_back_16 rfl rfl ?_
      cases h
      exact q_ireturn dX12_back_17 rfl hQ
