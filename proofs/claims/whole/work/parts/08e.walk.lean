set_option maxRecDepth 20000 in
theorem FirstFour_reckon_L15_ok {X : qX} (hL : ∀ c, c < 93 → c ∈ qLs X) (d : Nat) {Q : Option qV → qSto → Prop} : ∀ (n : Nat) (x1 : Int) (S : qSto) (o : qSto), FirstFour_reckon_L15 n x1 S = some o → (qW X (d + 9) yX1_reckon cX1_reckon 2 none 108 [(0, qr 11)] [] o Q) → qW X (d + 9) yX1_reckon cX1_reckon 2 none 15 [(0, qr 11), (1, qi x1)] [] S Q := by
  intro n
  induction n with
  | zero =>
    intro x1 S o h
    simp [FirstFour_reckon_L15] at h
  | succ n ih =>
    intro x1 S o h hE
    rw [FirstFour_reckon_L15] at h
    refine q_iload_n dX1_reckon_15 rfl rfl ?_
    refine q_aload_n dX1_reckon_16 rfl rfl ?_
    refine q_getA dX1_reckon_17 fl_X1_25 (hL 11 (by decide)) sh_11 (by decide) rfl rfl ?_
    refine q_getI dX1_reckon_20 fl_X1_45 (hL 2 (by decide)) sh_2 (by decide) rfl rfl ?_
    obtain ⟨c1109, h⟩ := qk_some h
    obtain ⟨c1110, h⟩ := qk_some h
    refine q_icmp_ge (tgt := 108) dX1_reckon_23 (by decide) rfl (qRb_R c1109) (qRb_R c1110) (fun g => ?_) (fun g => ?_)
    · rw [if_pos (show (S 2 12) ≤ x1 from g)] at h
      cases h
      exact q_pick [0] rfl (hE)
    · rw [if_neg (show ¬ ((S 2 12) ≤ x1) from g)] at h
      refine q_aload_n dX1_reckon_26 rfl rfl ?_
      refine q_getI dX1_reckon_27 fl_X1_41 (hL 11 (by decide)) sh_11 (by decide) rfl rfl ?_
      refine q_iconst dX1_reckon_30 rfl rfl ?_
      obtain ⟨c1111, h⟩ := qk_some h
      refine q_icmp_ge (tgt := 108) dX1_reckon_31 (by decide) rfl (qRb_R c1111) ⟨by decide, by decide⟩ (fun g => ?_) (fun g => ?_)
      · rw [if_pos (show 4 ≤ (S 11 4) from g)] at h
        cases h
        exact q_pick [0] rfl (hE)
      · rw [if_neg (show ¬ (4 ≤ (S 11 4)) from g)] at h
        refine q_aload_n dX1_reckon_34 rfl rfl ?_
        refine q_getA dX1_reckon_35 fl_X1_29 (hL 11 (by decide)) sh_11 (by decide) rfl rfl ?_
        refine q_iload_n dX1_reckon_38 rfl rfl ?_
        obtain ⟨q1112, h1113, h⟩ := Option.bind_eq_some_iff.mp h
        refine q_callVi (as := [qi x1]) (c := 6) dX1_reckon_39 ml_X1_48 rfl rfl (hL 6 (by decide)) sh_6 rfl rfl (Nat.le_of_ble_eq_true rfl) (Stays_has_ok hL (d + 8) x1 _ _ h1113) rfl ?_
        refine q_jn (G := fun (t1124 : qSto) => qW X (d + 9) yX1_reckon cX1_reckon 2 none 102 [(0, qr 11), (1, qi x1)] [] t1124 Q) h (fun t1124 h => ?_) (fun t1124 h hk3802 => ?_)
        · try dsimp only at h
          refine q_iinc (lv' := [(1, qi (x1 + 1)), (0, qr 11)]) dX1_reckon_102 (by decide) rfl rfl rfl ?_
          refine q_goto (pc' := 15) dX1_reckon_105 (by decide) ?_
          exact q_pick [1, 0] rfl (ih (x1 + 1) _ _ h hE)
        · skip
          obtain ⟨c1114, h⟩ := qk_some h
          refine q_if_ne (tgt := 102) dX1_reckon_42 (by decide) rfl (qRb_R c1114)  (fun g => ?_) (fun g => ?_)
          · rw [if_neg (show ¬ (q1112.1 = 0) from g)] at h
            cases h
            exact q_pick [0, 1] rfl hk3802
          · rw [if_pos (show q1112.1 = 0 from g)] at h
            refine q_aload_n dX1_reckon_45 rfl rfl ?_
            refine q_getA dX1_reckon_46 fl_X1_15 (hL 11 (by decide)) sh_11 (by decide) rfl rfl ?_
            refine q_aload_n dX1_reckon_49 rfl rfl ?_
            refine q_getI dX1_reckon_50 fl_X1_41 (hL 11 (by decide)) sh_11 (by decide) rfl rfl ?_
            refine q_iload_n dX1_reckon_53 rfl rfl ?_
            obtain ⟨c1115, h⟩ := qk_some h
            refine q_iastore dX1_reckon_54 (hL 48 (by decide)) sh_48 (qIx_0 c1115) (qIx_1 c1115) rfl ?_
            refine q_aload_n dX1_reckon_55 rfl rfl ?_
            refine q_getA dX1_reckon_56 fl_X1_21 (hL 11 (by decide)) sh_11 (by decide) rfl rfl ?_
            refine q_aload_n dX1_reckon_59 rfl rfl ?_
            refine q_getI dX1_reckon_60 fl_X1_41 (hL 11 (by decide)) sh_11 (by decide) rfl rfl ?_
            refine q_aload_n dX1_reckon_63 rfl rfl ?_
            refine q_getA dX1_reckon_64 fl_X1_33 (hL 11 (by decide)) sh_11 (by decide) rfl rfl ?_
            refine q_iload_n dX1_reckon_67 rfl rfl ?_
            refine q_aload_n dX1_reckon_68 rfl rfl ?_
            refine q_getA dX1_reckon_69 fl_X1_25 (hL 11 (by decide)) sh_11 (by decide) rfl rfl ?_
            refine q_iload_n dX1_reckon_72 rfl rfl ?_
            refine q_bipush dX1_reckon_73 (by decide) rfl ?_
            obtain ⟨q1116, h1117, h⟩ := Option.bind_eq_some_iff.mp h
            refine q_callVi (as := [qi x1, qi 8]) (c := 2) dX1_reckon_75 ml_X1_54 rfl rfl (hL 2 (by decide)) sh_2 rfl rfl (Nat.le_of_ble_eq_true rfl) (Told_contractOf_ok hL (d + 8) x1 8 _ _ h1117) rfl ?_
            refine q_aload_n dX1_reckon_78 rfl rfl ?_
            refine q_getA dX1_reckon_79 fl_X1_25 (hL 11 (by decide)) sh_11 (by decide) rfl rfl ?_
            refine q_iload_n dX1_reckon_82 rfl rfl ?_
            refine q_bipush dX1_reckon_83 (by decide) rfl ?_
            obtain ⟨q1118, h1119, h⟩ := Option.bind_eq_some_iff.mp h
            refine q_callVi (as := [qi x1, qi 7]) (c := 2) dX1_reckon_85 ml_X1_54 rfl rfl (hL 2 (by decide)) sh_2 rfl rfl (Nat.le_of_ble_eq_true rfl) (Told_contractOf_ok hL (d + 8) x1 7 _ _ h1119) rfl ?_
            obtain ⟨q1120, h1121, h⟩ := Option.bind_eq_some_iff.mp h
            refine q_callVi (as := [qi x1, qi q1116.1, qi q1118.1]) (c := 9) dX1_reckon_88 ml_X1_58 rfl rfl (hL 9 (by decide)) sh_9 rfl rfl (Nat.le_of_ble_eq_true rfl) (Search_find_ok hL (d + 4) x1 q1116.1 q1118.1 _ _ h1121) rfl ?_
            obtain ⟨c1122, h⟩ := qk_some h
            obtain ⟨c1123, h⟩ := qk_some h
            refine q_zastore dX1_reckon_91 (hL 50 (by decide)) sh_50 (qIx_0 c1122) (qIx_1 c1122) (qZb_Z c1123) rfl ?_
            refine q_aload_n dX1_reckon_92 rfl rfl ?_
            refine q_dupA dX1_reckon_93 rfl ?_
            refine q_getI dX1_reckon_94 fl_X1_41 (hL 11 (by decide)) sh_11 (by decide) rfl rfl ?_
            refine q_iconst dX1_reckon_97 rfl rfl ?_
            refine q_iadd dX1_reckon_98 rfl ?_
            refine q_putI dX1_reckon_99 fl_X1_41 (hL 11 (by decide)) sh_11 (by decide) pf_1_4 pt_1_4 rfl rfl ?_
            cases h
            exact q_pick [0, 1] rfl hk3802
set_option maxRecDepth 20000 in
theorem FirstFour_reckon_ok {X : qX} (hL : ∀ c, c < 93 → c ∈ qLs X) (d : Nat) (S : qSto) (o : qSto) (h : FirstFour_reckon S = some o) (Q : Option qV → qSto → Prop) (hQ : Q none o) : qC X (d + 9) yX1_reckon cX1_reckon 2 none [qr 11] S Q := by
  refine q_entry (lv := [(0, qr 11)]) pn_X1 (Nat.le_of_ble_eq_true rfl) rfl ?_
  unfold FirstFour_reckon at h
  refine q_aload_n dX1_reckon_0 rfl rfl ?_
  refine q_getZ dX1_reckon_1 fl_X1_37 (hL 11 (by decide)) sh_11 (by decide) rfl rfl ?_
  obtain ⟨c1108, h⟩ := qk_some h
  refine q_if_eq (tgt := 8) dX1_reckon_4 (by decide) rfl (qRb_R c1108)  (fun g => ?_) (fun g => ?_)
  · rw [if_pos (show (S 11 3) = 0 from g)] at h
    refine q_aload_n dX1_reckon_8 rfl rfl ?_
    refine q_iconst dX1_reckon_9 rfl rfl ?_
    refine q_putI dX1_reckon_10 fl_X1_41 (hL 11 (by decide)) sh_11 (by decide) pf_1_4 pt_1_4 rfl rfl ?_
    refine q_iconst dX1_reckon_13 rfl rfl ?_
    refine q_istore_n (lv' := [(1, qi 0), (0, qr 11)]) dX1_reckon_14 (by decide) rfl rfl ?_
    obtain ⟨q1125, h1126, h⟩ := Option.bind_eq_some_iff.mp h
    refine q_pick [1, 0] rfl (FirstFour_reckon_L15_ok hL d qF 0 _ _ h1126 ?_)
    refine q_aload_n dX1_reckon_108 rfl rfl ?_
    refine q_iconst dX1_reckon_109 rfl rfl ?_
    refine q_putI dX1_reckon_110 fl_X1_64 (hL 11 (by decide)) sh_11 (by decide) pf_1_5 pt_1_5 rfl rfl ?_
    refine q_aload_n dX1_reckon_113 rfl rfl ?_
    refine q_iconst dX1_reckon_114 rfl rfl ?_
    refine q_putI dX1_reckon_115 fl_X1_67 (hL 11 (by decide)) sh_11 (by decide) pf_1_6 pt_1_6 rfl rfl ?_
    refine q_aload_n dX1_reckon_118 rfl rfl ?_
    refine q_iconst dX1_reckon_119 rfl rfl ?_
    refine q_iconst dX1_reckon_120 rfl rfl ?_
    refine q_iconst dX1_reckon_121 rfl rfl ?_
    refine q_iconst dX1_reckon_122 rfl rfl ?_
    obtain ⟨q1287, h1288, h⟩ := Option.bind_eq_some_iff.mp h
    refine q_callVv (as := [qi 0, qi 0, qi 0, qi 0]) (c := 11) dX1_reckon_123 ml_X1_70 rfl rfl (hL 11 (by decide)) sh_11 rfl rfl (Nat.le_of_ble_eq_true rfl) (FirstFour_tryFrom_n0_ok hL d 0 0 0 _ _ h1288) rfl ?_
    refine q_aload_n dX1_reckon_126 rfl rfl ?_
    refine q_iconst dX1_reckon_127 rfl rfl ?_
    refine q_putZ dX1_reckon_128 fl_X1_37 (hL 11 (by decide)) sh_11 (by decide) pf_1_3 pt_1_3 rfl (by decide) rfl ?_
    cases h
    exact q_return dX1_reckon_131 rfl hQ
  · rw [if_neg (show ¬ ((S 11 3) = 0) from g)] at h
    cases h
    exact q_return dX1_reckon_7 rfl hQ
set_option maxRecDepth 20000 in
theorem C_best_ok {X : qX} (hL : ∀ c, c < 93 → c ∈ qLs X) (d : Nat) (a1 : Int) (S : qSto) (o : (Int × qSto)) (h : C_best a1 S = some o) (Q : Option qV → qSto → Prop) (hQ : Q (some (qi o.1)) o.2) : qC X (d + 10) yX11_best cX11_best 2 (some .int) [qr 0, qi a1] S Q := by
  refine q_entry (lv := [(0, qr 0), (1, qi a1)]) pn_X11 (Nat.le_of_ble_eq_true rfl) rfl ?_
  unfold C_best at h
  refine q_iload_n dX11_best_0 rfl rfl ?_
  obtain ⟨c1102, h⟩ := qk_some h
  refine q_if_lt (tgt := 26) dX11_best_1 (by decide) rfl (qRb_R c1102)  (fun g => ?_) (fun g => ?_)
  · rw [if_pos (show a1 < 0 from g)] at h
    refine q_iconst dX11_best_26 rfl rfl ?_
    cases h
    exact q_ireturn dX11_best_27 rfl hQ
  · rw [if_neg (show ¬ (a1 < 0) from g)] at h
    refine q_iload_n dX11_best_4 rfl rfl ?_
    refine q_iconst dX11_best_5 rfl rfl ?_
    obtain ⟨c1103, h⟩ := qk_some h
    refine q_icmp_gt (tgt := 26) dX11_best_6 (by decide) rfl (qRb_R c1103) ⟨by decide, by decide⟩ (fun g => ?_) (fun g => ?_)
    · rw [if_pos (show 5 < a1 from g)] at h
      refine q_iconst dX11_best_26 rfl rfl ?_
      cases h
      exact q_ireturn dX11_best_27 rfl hQ
    · rw [if_neg (show ¬ (5 < a1) from g)] at h
      refine q_aload_n dX11_best_9 rfl rfl ?_
      refine q_getA dX11_best_10 fl_X11_49 (hL 0 (by decide)) sh_0 (by decide) rfl rfl ?_
      obtain ⟨q1104, h1105, h⟩ := Option.bind_eq_some_iff.mp h
      refine q_callVi (as := []) (c := 6) dX11_best_13 ml_X11_161 rfl rfl (hL 6 (by decide)) sh_6 rfl rfl (Nat.le_of_ble_eq_true rfl) (Stays_howMany_ok hL (d + 8) _ _ h1105) rfl ?_
      refine q_aload_n dX11_best_16 rfl rfl ?_
      refine q_getA dX11_best_17 fl_X11_16 (hL 0 (by decide)) sh_0 (by decide) rfl rfl ?_
      refine q_getI dX11_best_20 fl_X11_158 (hL 2 (by decide)) sh_2 (by decide) rfl rfl ?_
      obtain ⟨c1106, h⟩ := qk_some h
      obtain ⟨c1107, h⟩ := qk_some h
      refine q_icmp_ne (tgt := 28) dX11_best_23 (by decide) rfl (qRb_R c1106) (qRb_R c1107) (fun g => ?_) (fun g => ?_)
      · rw [if_neg (show ¬ (q1104.1 = (q1104.2 2 12)) from g)] at h
        refine q_aload_n dX11_best_28 rfl rfl ?_
        refine q_getA dX11_best_29 fl_X11_92 (hL 0 (by decide)) sh_0 (by decide) rfl rfl ?_
        obtain ⟨q1289, h1290, h⟩ := Option.bind_eq_some_iff.mp h
        refine q_callVv (as := []) (c := 11) dX11_best_32 ml_X11_350 rfl rfl (hL 11 (by decide)) sh_11 rfl rfl (Nat.le_of_ble_eq_true rfl) (FirstFour_reckon_ok hL d _ _ h1290) rfl ?_
        refine q_iload_n dX11_best_35 rfl rfl ?_
        obtain ⟨c1291, h⟩ := qk_some h
        by_cases e3803 : a1 = 0
        · rw [if_pos e3803] at h
          refine q_lsw (tgt := 64) (off := 28) dX11_best_36 (by decide) (qRb_R c1291) (by rw [e3803]; rfl) (by decide) ?_
          refine q_aload_n dX11_best_64 rfl rfl ?_
          refine q_getA dX11_best_65 fl_X11_92 (hL 0 (by decide)) sh_0 (by decide) rfl rfl ?_
          refine q_getI dX11_best_68 fl_X11_351 (hL 11 (by decide)) sh_11 (by decide) rfl rfl ?_
          cases h
          exact q_ireturn dX11_best_71 rfl hQ
        · rw [if_neg e3803] at h
          by_cases e3804 : a1 = 1
          · rw [if_pos e3804] at h
            refine q_lsw (tgt := 72) (off := 36) dX11_best_36 (by decide) (qRb_R c1291) (by rw [e3804]; rfl) (by decide) ?_
            refine q_aload_n dX11_best_72 rfl rfl ?_
            refine q_getA dX11_best_73 fl_X11_92 (hL 0 (by decide)) sh_0 (by decide) rfl rfl ?_
            refine q_getI dX11_best_76 fl_X11_354 (hL 11 (by decide)) sh_11 (by decide) rfl rfl ?_
            cases h
            exact q_ireturn dX11_best_79 rfl hQ
          · rw [if_neg e3804] at h
            refine q_lsw (tgt := 80) (off := 44) dX11_best_36 (by decide) (qRb_R c1291) (by simp [Op.lookupswitch.offset, show ¬ (0 = a1) from fun z => e3803 z.symm, show ¬ (1 = a1) from fun z => e3804 z.symm]) (by decide) ?_
            refine q_iload_n dX11_best_80 rfl rfl ?_
            refine q_iconst dX11_best_81 rfl rfl ?_
            refine q_isub dX11_best_82 rfl ?_
            refine q_aload_n dX11_best_83 rfl rfl ?_
            refine q_getA dX11_best_84 fl_X11_92 (hL 0 (by decide)) sh_0 (by decide) rfl rfl ?_
            refine q_getI dX11_best_87 fl_X11_357 (hL 11 (by decide)) sh_11 (by decide) rfl rfl ?_
            obtain ⟨c1292, h⟩ := qk_some h
            obtain ⟨c1293, h⟩ := qk_some h
            refine q_icmp_ge (tgt := 107) dX11_best_90 (by decide) rfl (qRb_R c1292) (qRb_R c1293) (fun g => ?_) (fun g => ?_)
            · rw [if_pos (show (q1289 11 4) ≤ (a1 - 2) from g)] at h
              refine q_bipush dX11_best_107 (by decide) rfl ?_
              cases h
              exact q_ireturn dX11_best_109 rfl hQ
            · rw [if_neg (show ¬ ((q1289 11 4) ≤ (a1 - 2)) from g)] at h
              refine q_aload_n dX11_best_93 rfl rfl ?_
              refine q_getA dX11_best_94 fl_X11_92 (hL 0 (by decide)) sh_0 (by decide) rfl rfl ?_
              refine q_getA dX11_best_97 fl_X11_358 (hL 11 (by decide)) sh_11 (by decide) rfl rfl ?_
              refine q_iload_n dX11_best_100 rfl rfl ?_
              refine q_iconst dX11_best_101 rfl rfl ?_
              refine q_isub dX11_best_102 rfl ?_
              obtain ⟨c1294, h⟩ := qk_some h
              refine q_iaload dX11_best_103 (hL 47 (by decide)) sh_47 (qIx_0 c1294) (qIx_1 c1294) rfl ?_
              refine q_goto (pc' := 109) dX11_best_104 (by decide) ?_
              cases h
              exact q_ireturn dX11_best_109 rfl hQ
      · rw [if_pos (show q1104.1 = (q1104.2 2 12) from g)] at h
        refine q_iconst dX11_best_26 rfl rfl ?_
        cases h
        exact q_ireturn dX11_best_27 rfl hQ
set_option maxRecDepth 20000 in
theorem C_four_L41_ok {X : qX} (hL : ∀ c, c < 93 → c ∈ qLs X) (d : Nat) {Q : Option qV → qSto → Prop} : ∀ (n : Nat) (x1 : Int) (x2 : Int) (S : qSto) (o : (Int × qSto)), C_four_L41 n x1 x2 S = some o → (qW X (d + 10) yX11_four cX11_four 3 (some .int) 77 [(0, qr 0), (1, qi o.1)] [] o.2 Q) → qW X (d + 10) yX11_four cX11_four 3 (some .int) 41 [(0, qr 0), (1, qi x1), (2, qi x2)] [] S Q := by
  intro n
  induction n with
  | zero =>
    intro x1 x2 S o h
    simp [C_four_L41] at h
  | succ n ih =>
    intro x1 x2 S o h hE
    rw [C_four_L41] at h
    refine q_iload_n dX11_four_41 rfl rfl ?_
    refine q_aload_n dX11_four_42 rfl rfl ?_
    refine q_getA dX11_four_43 fl_X11_92 (hL 0 (by decide)) sh_0 (by decide) rfl rfl ?_
    refine q_getI dX11_four_46 fl_X11_357 (hL 11 (by decide)) sh_11 (by decide) rfl rfl ?_
    obtain ⟨c1301, h⟩ := qk_some h
    obtain ⟨c1302, h⟩ := qk_some h
    refine q_icmp_ge (tgt := 77) dX11_four_49 (by decide) rfl (qRb_R c1301) (qRb_R c1302) (fun g => ?_) (fun g => ?_)
    · rw [if_pos (show (S 11 4) ≤ x2 from g)] at h
      cases h
      exact q_pick [0, 1] rfl (hE)
    · rw [if_neg (show ¬ ((S 11 4) ≤ x2) from g)] at h
      refine q_aload_n dX11_four_52 rfl rfl ?_
      refine q_aload_n dX11_four_53 rfl rfl ?_
      refine q_getA dX11_four_54 fl_X11_92 (hL 0 (by decide)) sh_0 (by decide) rfl rfl ?_
      refine q_getA dX11_four_57 fl_X11_358 (hL 11 (by decide)) sh_11 (by decide) rfl rfl ?_
      refine q_iload_n dX11_four_60 rfl rfl ?_
      obtain ⟨c1303, h⟩ := qk_some h
      refine q_iaload dX11_four_61 (hL 47 (by decide)) sh_47 (qIx_0 c1303) (qIx_1 c1303) rfl ?_
      obtain ⟨q1304, h1305, h⟩ := Option.bind_eq_some_iff.mp h
      refine q_callVi (as := [qi (S 47 (Int.toNat x2))]) (c := 0) dX11_four_62 ml_X11_309 rfl rfl (hL 0 (by decide)) sh_0 rfl rfl (Nat.le_of_ble_eq_true rfl) (C_layByItself_ok hL (d + 4) (S 47 (Int.toNat x2)) _ _ h1305) rfl ?_
      refine q_jn (G := fun (t1307 : Int) => qW X (d + 10) yX11_four cX11_four 3 (some .int) 71 [(0, qr 0), (1, qi t1307), (2, qi x2)] [] q1304.2 Q) h (fun t1307 h => ?_) (fun t1307 h hk3805 => ?_)
      · try dsimp only at h
        refine q_iinc (lv' := [(2, qi (x2 + 1)), (0, qr 0), (1, qi t1307)]) dX11_four_71 (by decide) rfl rfl rfl ?_
        refine q_goto (pc' := 41) dX11_four_74 (by decide) ?_
        exact q_pick [1, 2, 0] rfl (ih t1307 (x2 + 1) _ _ h hE)
      · skip
        obtain ⟨c1306, h⟩ := qk_some h
        refine q_if_eq (tgt := 71) dX11_four_65 (by decide) rfl (qRb_R c1306)  (fun g => ?_) (fun g => ?_)
        · rw [if_pos (show q1304.1 = 0 from g)] at h
          cases h
          exact q_pick [0, 1, 2] rfl hk3805
        · rw [if_neg (show ¬ (q1304.1 = 0) from g)] at h
          refine q_iinc (lv' := [(1, qi (x1 + 1)), (0, qr 0), (2, qi x2)]) dX11_four_68 (by decide) rfl rfl rfl ?_
          cases h
          exact q_pick [1, 0, 2] rfl hk3805
set_option maxRecDepth 20000 in
theorem C_four_ok {X : qX} (hL : ∀ c, c < 93 → c ∈ qLs X) (d : Nat) (S : qSto) (o : (Int × qSto)) (h : C_four S = some o) (Q : Option qV → qSto → Prop) (hQ : Q (some (qi o.1)) o.2) : qC X (d + 10) yX11_four cX11_four 3 (some .int) [qr 0] S Q := by
  refine q_entry (lv := [(0, qr 0)]) pn_X11 (Nat.le_of_ble_eq_true rfl) rfl ?_
  unfold C_four at h
  refine q_aload_n dX11_four_0 rfl rfl ?_
  refine q_getA dX11_four_1 fl_X11_92 (hL 0 (by decide)) sh_0 (by decide) rfl rfl ?_
  obtain ⟨q1295, h1296, h⟩ := Option.bind_eq_some_iff.mp h
  refine q_callVv (as := []) (c := 11) dX11_four_4 ml_X11_350 rfl rfl (hL 11 (by decide)) sh_11 rfl rfl (Nat.le_of_ble_eq_true rfl) (FirstFour_reckon_ok hL d _ _ h1296) rfl ?_
  refine q_aload_n dX11_four_7 rfl rfl ?_
  refine q_getA dX11_four_8 fl_X11_92 (hL 0 (by decide)) sh_0 (by decide) rfl rfl ?_
  refine q_getI dX11_four_11 fl_X11_351 (hL 11 (by decide)) sh_11 (by decide) rfl rfl ?_
  refine q_aload_n dX11_four_14 rfl rfl ?_
  refine q_getA dX11_four_15 fl_X11_92 (hL 0 (by decide)) sh_0 (by decide) rfl rfl ?_
  refine q_getI dX11_four_18 fl_X11_357 (hL 11 (by decide)) sh_11 (by decide) rfl rfl ?_
  obtain ⟨c1297, h⟩ := qk_some h
  obtain ⟨c1298, h⟩ := qk_some h
  refine q_icmp_lt (tgt := 26) dX11_four_21 (by decide) rfl (qRb_R c1297) (qRb_R c1298) (fun g => ?_) (fun g => ?_)
  · rw [if_pos (show (q1295 11 5) < (q1295 11 4) from g)] at h
    refine q_aload_n dX11_four_26 rfl rfl ?_
    refine q_getA dX11_four_27 fl_X11_49 (hL 0 (by decide)) sh_0 (by decide) rfl rfl ?_
    refine q_aload_n dX11_four_30 rfl rfl ?_
    refine q_getA dX11_four_31 fl_X11_110 (hL 0 (by decide)) sh_0 (by decide) rfl rfl ?_
    obtain ⟨q1299, h1300, h⟩ := Option.bind_eq_some_iff.mp h
    refine q_callVv (as := [qr 14]) (c := 6) dX11_four_34 ml_X11_295 rfl rfl (hL 6 (by decide)) sh_6 rfl rfl (Nat.le_of_ble_eq_true rfl) (Stays_save_14_ok hL (d + 9) _ _ h1300) rfl ?_
    refine q_iconst dX11_four_37 rfl rfl ?_
    refine q_istore_n (lv' := [(1, qi 0), (0, qr 0)]) dX11_four_38 (by decide) rfl rfl ?_
    refine q_iconst dX11_four_39 rfl rfl ?_
    refine q_istore_n (lv' := [(2, qi 0), (1, qi 0), (0, qr 0)]) dX11_four_40 (by decide) rfl rfl ?_
    obtain ⟨q1308, h1309, h⟩ := Option.bind_eq_some_iff.mp h
    refine q_pick [2, 1, 0] rfl (C_four_L41_ok hL d qF 0 0 _ _ h1309 ?_)
    refine q_aload_n dX11_four_77 rfl rfl ?_
    obtain ⟨q1310, h1311, h⟩ := Option.bind_eq_some_iff.mp h
    refine q_callVv (as := []) (c := 0) dX11_four_78 ml_X11_303 rfl rfl (hL 0 (by decide)) sh_0 rfl rfl (Nat.le_of_ble_eq_true rfl) (C_keepAct_ok hL (d + 8) _ _ h1311) rfl ?_
    refine q_iload_n dX11_four_81 rfl rfl ?_
    cases h
    exact q_ireturn dX11_four_82 rfl hQ
  · rw [if_neg (show ¬ ((q1295 11 5) < (q1295 11 4)) from g)] at h
    refine q_iconst dX11_four_24 rfl rfl ?_
    cases h
    exact q_ireturn dX11_four_25 rfl hQ
set_option maxRecDepth 20000 in
theorem Stays_liesIn_ok {X : qX} (hL : ∀ c, c < 93 → c ∈ qLs X) (d : Nat) (a1 : Int) (a2 : Int) (S : qSto) (o : (Int × qSto)) (h : Stays_liesIn a1 a2 S = some o) (Q : Option qV → qSto → Prop) (hQ : Q (some (qi o.1)) o.2) : qC X (d + 1) yX7_liesIn cX7_liesIn 3 (some .boolean) [qr 6, qi a1, qi a2] S Q := by
  refine q_entry (lv := [(0, qr 6), (1, qi a1), (2, qi a2)]) pn_X7 (Nat.le_of_ble_eq_true rfl) rfl ?_
  unfold Stays_liesIn at h
  refine q_aload_n dX7_liesIn_0 rfl rfl ?_
  refine q_iload_n dX7_liesIn_1 rfl rfl ?_
  obtain ⟨q1320, h1321, h⟩ := Option.bind_eq_some_iff.mp h
  refine q_callVi (as := [qi a1]) (c := 6) dX7_liesIn_2 ml_X7_50 rfl rfl (hL 6 (by decide)) sh_6 rfl rfl (Nat.le_of_ble_eq_true rfl) (Stays_has_ok hL d a1 _ _ h1321) rfl ?_
  obtain ⟨c1322, h⟩ := qk_some h
  refine q_if_eq (tgt := 32) dX7_liesIn_5 (by decide) rfl (qRb_R c1322)  (fun g => ?_) (fun g => ?_)
  · rw [if_pos (show q1320.1 = 0 from g)] at h
    refine q_iconst dX7_liesIn_32 rfl rfl ?_
    cases h
    exact q_zreturn dX7_liesIn_33 rfl (by decide) hQ
  · rw [if_neg (show ¬ (q1320.1 = 0) from g)] at h
    refine q_iload_n dX7_liesIn_8 rfl rfl ?_
    refine q_aload_n dX7_liesIn_9 rfl rfl ?_
    refine q_getA dX7_liesIn_10 fl_X7_18 (hL 6 (by decide)) sh_6 (by decide) rfl rfl ?_
    refine q_iload_n dX7_liesIn_13 rfl rfl ?_
    obtain ⟨c1323, h⟩ := qk_some h
    refine q_iaload dX7_liesIn_14 (hL 39 (by decide)) sh_39 (qIx_0 c1323) (qIx_1 c1323) rfl ?_
    obtain ⟨c1324, h⟩ := qk_some h
    obtain ⟨c1325, h⟩ := qk_some h
    refine q_icmp_lt (tgt := 32) dX7_liesIn_15 (by decide) rfl (qRb_R c1324) (qRb_R c1325) (fun g => ?_) (fun g => ?_)
    · rw [if_pos (show a2 < (q1320.2 39 (Int.toNat a1)) from g)] at h
      refine q_iconst dX7_liesIn_32 rfl rfl ?_
      cases h
      exact q_zreturn dX7_liesIn_33 rfl (by decide) hQ
    · rw [if_neg (show ¬ (a2 < (q1320.2 39 (Int.toNat a1))) from g)] at h
      refine q_iload_n dX7_liesIn_18 rfl rfl ?_
      refine q_aload_n dX7_liesIn_19 rfl rfl ?_
      refine q_getA dX7_liesIn_20 fl_X7_27 (hL 6 (by decide)) sh_6 (by decide) rfl rfl ?_
      refine q_iload_n dX7_liesIn_23 rfl rfl ?_
      obtain ⟨c1326, h⟩ := qk_some h
      refine q_iaload dX7_liesIn_24 (hL 42 (by decide)) sh_42 (qIx_0 c1326) (qIx_1 c1326) rfl ?_
      obtain ⟨c1327, h⟩ := qk_some h
      obtain ⟨c1328, h⟩ := qk_some h
      refine q_icmp_ge (tgt := 32) dX7_liesIn_25 (by decide) rfl (qRb_R c1327) (qRb_R c1328) (fun g => ?_) (fun g => ?_)
      · rw [if_pos (show (q1320.2 42 (Int.toNat a1)) ≤ a2 from g)] at h
        refine q_iconst dX7_liesIn_32 rfl rfl ?_
        cases h
        exact q_zreturn dX7_liesIn_33 rfl (by decide) hQ
      · rw [if_neg (show ¬ ((q1320.2 42 (Int.toNat a1)) ≤ a2) from g)] at h
        refine q_iconst dX7_liesIn_28 rfl rfl ?_
        refine q_goto (pc' := 33) dX7_liesIn_29 (by decide) ?_
        cases h
        exact q_zreturn dX7_liesIn_33 rfl (by decide) hQ
set_option maxRecDepth 20000 in
theorem C_at_L19_ok {X : qX} (hL : ∀ c, c < 93 → c ∈ qLs X) (d : Nat) {Q : Option qV → qSto → Prop} : ∀ (n : Nat) (x1 : Int) (x2 : Int) (x3 : Int) (S : qSto) (o : (qSto ⊕ (Int × qSto))), C_at_L19 n x1 x2 x3 S = some o → (∀ t, o = Sum.inl t → qW X (d + 2) yX11_at cX11_at 4 (some .int) 76 [] [] t Q) → (∀ w, o = Sum.inr w → Q (some (qi w.1)) w.2) → qW X (d + 2) yX11_at cX11_at 4 (some .int) 19 [(0, qr 0), (1, qi x1), (2, qi x2), (3, qi x3)] [] S Q := by
  intro n
  induction n with
  | zero =>
    intro x1 x2 x3 S o h
    simp [C_at_L19] at h
  | succ n ih =>
    intro x1 x2 x3 S o h hE hR
    rw [C_at_L19] at h
    refine q_iload_n dX11_at_19 rfl rfl ?_
    refine q_aload_n dX11_at_20 rfl rfl ?_
    refine q_getA dX11_at_21 fl_X11_16 (hL 0 (by decide)) sh_0 (by decide) rfl rfl ?_
    refine q_getI dX11_at_24 fl_X11_158 (hL 2 (by decide)) sh_2 (by decide) rfl rfl ?_
    obtain ⟨c1318, h⟩ := qk_some h
    obtain ⟨c1319, h⟩ := qk_some h
    refine q_icmp_ge (tgt := 76) dX11_at_27 (by decide) rfl (qRb_R c1318) (qRb_R c1319) (fun g => ?_) (fun g => ?_)
    · rw [if_pos (show (S 2 12) ≤ x3 from g)] at h
      cases h
      exact q_pick [] rfl (hE _ rfl)
    · rw [if_neg (show ¬ ((S 2 12) ≤ x3) from g)] at h
      refine q_aload_n dX11_at_30 rfl rfl ?_
      refine q_getA dX11_at_31 fl_X11_49 (hL 0 (by decide)) sh_0 (by decide) rfl rfl ?_
      refine q_iload_n dX11_at_34 rfl rfl ?_
      refine q_iload_n dX11_at_35 rfl rfl ?_
      obtain ⟨q1329, h1330, h⟩ := Option.bind_eq_some_iff.mp h
      refine q_callVi (as := [qi x3, qi x1]) (c := 6) dX11_at_36 ml_X11_361 rfl rfl (hL 6 (by decide)) sh_6 rfl rfl (Nat.le_of_ble_eq_true rfl) (Stays_liesIn_ok hL d x3 x1 _ _ h1330) rfl ?_
      obtain ⟨c1331, h⟩ := qk_some h
      refine q_if_eq (tgt := 70) dX11_at_39 (by decide) rfl (qRb_R c1331)  (fun g => ?_) (fun g => ?_)
      · rw [if_pos (show q1329.1 = 0 from g)] at h
        refine q_iinc (lv' := [(3, qi (x3 + 1)), (0, qr 0), (1, qi x1), (2, qi x2)]) dX11_at_70 (by decide) rfl rfl rfl ?_
        refine q_goto (pc' := 19) dX11_at_73 (by decide) ?_
        exact q_pick [1, 2, 3, 0] rfl (ih x1 x2 (x3 + 1) _ _ h hE hR)
      · rw [if_neg (show ¬ (q1329.1 = 0) from g)] at h
        refine q_iload_n dX11_at_42 rfl rfl ?_
        refine q_aload_n dX11_at_43 rfl rfl ?_
        refine q_getA dX11_at_44 fl_X11_49 (hL 0 (by decide)) sh_0 (by decide) rfl rfl ?_
        refine q_getA dX11_at_47 fl_X11_225 (hL 6 (by decide)) sh_6 (by decide) rfl rfl ?_
        refine q_iload_n dX11_at_50 rfl rfl ?_
        obtain ⟨c1332, h⟩ := qk_some h
        refine q_iaload dX11_at_51 (hL 37 (by decide)) sh_37 (qIx_0 c1332) (qIx_1 c1332) rfl ?_
        obtain ⟨c1333, h⟩ := qk_some h
        obtain ⟨c1334, h⟩ := qk_some h
        refine q_icmp_lt (tgt := 70) dX11_at_52 (by decide) rfl (qRb_R c1333) (qRb_R c1334) (fun g => ?_) (fun g => ?_)
        · rw [if_pos (show x2 < (q1329.2 37 (Int.toNat x3)) from g)] at h
          refine q_iinc (lv' := [(3, qi (x3 + 1)), (0, qr 0), (1, qi x1), (2, qi x2)]) dX11_at_70 (by decide) rfl rfl rfl ?_
          refine q_goto (pc' := 19) dX11_at_73 (by decide) ?_
          exact q_pick [1, 2, 3, 0] rfl (ih x1 x2 (x3 + 1) _ _ h hE hR)
        · rw [if_neg (show ¬ (x2 < (q1329.2 37 (Int.toNat x3))) from g)] at h
          refine q_iload_n dX11_at_55 rfl rfl ?_
          refine q_aload_n dX11_at_56 rfl rfl ?_
          refine q_getA dX11_at_57 fl_X11_49 (hL 0 (by decide)) sh_0 (by decide) rfl rfl ?_
          refine q_getA dX11_at_60 fl_X11_364 (hL 6 (by decide)) sh_6 (by decide) rfl rfl ?_
          refine q_iload_n dX11_at_63 rfl rfl ?_
          obtain ⟨c1335, h⟩ := qk_some h
          refine q_iaload dX11_at_64 (hL 38 (by decide)) sh_38 (qIx_0 c1335) (qIx_1 c1335) rfl ?_
          obtain ⟨c1336, h⟩ := qk_some h
          obtain ⟨c1337, h⟩ := qk_some h
          refine q_icmp_gt (tgt := 70) dX11_at_65 (by decide) rfl (qRb_R c1336) (qRb_R c1337) (fun g => ?_) (fun g => ?_)
          · rw [if_pos (show (q1329.2 38 (Int.toNat x3)) < x2 from g)] at h
            refine q_iinc (lv' := [(3, qi (x3 + 1)), (0, qr 0), (1, qi x1), (2, qi x2)]) dX11_at_70 (by decide) rfl rfl rfl ?_
            refine q_goto (pc' := 19) dX11_at_73 (by decide) ?_
            exact q_pick [1, 2, 3, 0] rfl (ih x1 x2 (x3 + 1) _ _ h hE hR)
          · rw [if_neg (show ¬ ((q1329.2 38 (Int.toNat x3)) < x2) from g)] at h
            refine q_iload_n dX11_at_68 rfl rfl ?_
            cases h
            exact q_ireturn dX11_at_69 rfl (hR _ rfl)
set_option maxRecDepth 20000 in
theorem C_at_ok {X : qX} (hL : ∀ c, c < 93 → c ∈ qLs X) (d : Nat) (a1 : Int) (a2 : Int) (S : qSto) (o : (Int × qSto)) (h : C_at a1 a2 S = some o) (Q : Option qV → qSto → Prop) (hQ : Q (some (qi o.1)) o.2) : qC X (d + 2) yX11_at cX11_at 4 (some .int) [qr 0, qi a1, qi a2] S Q := by
  refine q_entry (lv := [(0, qr 0), (1, qi a1), (2, qi a2)]) pn_X11 (Nat.le_of_ble_eq_true rfl) rfl ?_
  unfold C_at at h
  refine q_iload_n dX11_at_0 rfl rfl ?_
  obtain ⟨q1312, h1313, h⟩ := Option.bind_eq_some_iff.mp h
  refine q_callSi (as := [qi a1]) dX11_at_1 ml_X11_194 rfl rfl (Nat.le_of_ble_eq_true rfl) (C_isSlot_ok hL (d + 1) a1 _ _ h1313) rfl ?_
  obtain ⟨c1314, h⟩ := qk_some h
  refine q_if_eq (tgt := 15) dX11_at_4 (by decide) rfl (qRb_R c1314)  (fun g => ?_) (fun g => ?_)
  · rw [if_pos (show q1312.1 = 0 from g)] at h
    refine q_iconst dX11_at_15 rfl rfl ?_
    cases h
    exact q_ireturn dX11_at_16 rfl hQ
  · rw [if_neg (show ¬ (q1312.1 = 0) from g)] at h
    refine q_aload_n dX11_at_7 rfl rfl ?_
    refine q_iload_n dX11_at_8 rfl rfl ?_
    obtain ⟨q1315, h1316, h⟩ := Option.bind_eq_some_iff.mp h
    refine q_callVi (as := [qi a2]) (c := 0) dX11_at_9 ml_X11_185 rfl rfl (hL 0 (by decide)) sh_0 rfl rfl (Nat.le_of_ble_eq_true rfl) (C_isMetre_ok hL (d + 1) a2 _ _ h1316) rfl ?_
    obtain ⟨c1317, h⟩ := qk_some h
    refine q_if_ne (tgt := 17) dX11_at_12 (by decide) rfl (qRb_R c1317)  (fun g => ?_) (fun g => ?_)
    · rw [if_neg (show ¬ (q1315.1 = 0) from g)] at h
      refine q_iconst dX11_at_17 rfl rfl ?_
      refine q_istore_n (lv' := [(3, qi 0), (0, qr 0), (1, qi a1), (2, qi a2)]) dX11_at_18 (by decide) rfl rfl ?_
      obtain ⟨q1338, h1339, h⟩ := Option.bind_eq_some_iff.mp h
      refine q_pick [1, 2, 3, 0] rfl (C_at_L19_ok hL d qF a1 a2 0 _ _ h1339 (fun t1340 e3806 => ?_) (fun w e3806 => ?_))
      · subst e3806
        simp only [Sum.elim_inl] at h
        refine q_bipush dX11_at_76 (by decide) rfl ?_
        cases h
        exact q_ireturn dX11_at_78 rfl hQ
      · subst e3806
        simp only [Sum.elim_inr] at h
        cases h
        exact hQ
    · rw [if_pos (show q1315.1 = 0 from g)] at h
      refine q_iconst dX11_at_15 rfl rfl ?_
      cases h
      exact q_ireturn dX11_at_16 rfl hQ
set_option maxRecDepth 20000 in
theorem C_lies_L30_ok {X : qX} (hL : ∀ c, c < 93 → c ∈ qLs X) (d : Nat) {Q : Option qV → qSto → Prop} : ∀ (n : Nat) (x1 : Int) (x2 : Int) (x3 : Int) (x4 : Int) (x5 : Int) (S : qSto) (o : (Int × Int × qSto)), C_lies_L30 n x1 x2 x3 x4 x5 S = some o → (qW X (d + 2) yX11_lies cX11_lies 7 (some .int) 85 [(2, qi x2), (3, qi o.1), (4, qi o.2.1)] [] o.2.2 Q) → qW X (d + 2) yX11_lies cX11_lies 7 (some .int) 30 [(0, qr 0), (1, qi x1), (2, qi x2), (3, qi x3), (4, qi x4), (5, qi x5)] [] S Q := by
  intro n
  induction n with
  | zero =>
    intro x1 x2 x3 x4 x5 S o h
    simp [C_lies_L30] at h
  | succ n ih =>
    intro x1 x2 x3 x4 x5 S o h hE
    rw [C_lies_L30] at h
    refine q_iload dX11_lies_30 rfl rfl ?_
    refine q_aload_n dX11_lies_32 rfl rfl ?_
    refine q_getA dX11_lies_33 fl_X11_49 (hL 0 (by decide)) sh_0 (by decide) rfl rfl ?_
    refine q_getI dX11_lies_36 fl_X11_370 (hL 6 (by decide)) sh_6 (by decide) rfl rfl ?_
    obtain ⟨c1347, h⟩ := qk_some h
    obtain ⟨c1348, h⟩ := qk_some h
    refine q_icmp_ge (tgt := 85) dX11_lies_39 (by decide) rfl (qRb_R c1347) (qRb_R c1348) (fun g => ?_) (fun g => ?_)
    · rw [if_pos (show (S 6 10) ≤ x5 from g)] at h
      cases h
      exact q_pick [2, 3, 4] rfl (hE)
    · rw [if_neg (show ¬ ((S 6 10) ≤ x5) from g)] at h
      refine q_aload_n dX11_lies_42 rfl rfl ?_
      refine q_getA dX11_lies_43 fl_X11_49 (hL 0 (by decide)) sh_0 (by decide) rfl rfl ?_
      refine q_getA dX11_lies_46 fl_X11_373 (hL 6 (by decide)) sh_6 (by decide) rfl rfl ?_
      refine q_iload dX11_lies_49 rfl rfl ?_
      obtain ⟨c1349, h⟩ := qk_some h
      refine q_iaload dX11_lies_51 (hL 44 (by decide)) sh_44 (qIx_0 c1349) (qIx_1 c1349) rfl ?_
      refine q_istore (lv' := [(6, qi (S 44 (Int.toNat x5))), (0, qr 0), (1, qi x1), (2, qi x2), (3, qi x3), (4, qi x4), (5, qi x5)]) dX11_lies_52 (by decide) rfl rfl ?_
      refine q_aload_n dX11_lies_54 rfl rfl ?_
      refine q_getA dX11_lies_55 fl_X11_49 (hL 0 (by decide)) sh_0 (by decide) rfl rfl ?_
      refine q_iload dX11_lies_58 rfl rfl ?_
      refine q_iload_n dX11_lies_60 rfl rfl ?_
      obtain ⟨q1350, h1351, h⟩ := Option.bind_eq_some_iff.mp h
      refine q_callVi (as := [qi (S 44 (Int.toNat x5)), qi x1]) (c := 6) dX11_lies_61 ml_X11_361 rfl rfl (hL 6 (by decide)) sh_6 rfl rfl (Nat.le_of_ble_eq_true rfl) (Stays_liesIn_ok hL d (S 44 (Int.toNat x5)) x1 _ _ h1351) rfl ?_
      refine q_jn (G := fun (t1356 : (Int × Int)) => qW X (d + 2) yX11_lies cX11_lies 7 (some .int) 79 [(0, qr 0), (1, qi x1), (2, qi x2), (3, qi t1356.1), (4, qi t1356.2), (5, qi x5)] [] q1350.2 Q) h (fun t1356 h => ?_) (fun t1356 h hk3807 => ?_)
      · try dsimp only at h
        refine q_iinc (lv' := [(5, qi (x5 + 1)), (0, qr 0), (1, qi x1), (2, qi x2), (3, qi t1356.1), (4, qi t1356.2)]) dX11_lies_79 (by decide) rfl rfl rfl ?_
        refine q_goto (pc' := 30) dX11_lies_82 (by decide) ?_
        exact q_pick [1, 2, 3, 4, 5, 0] rfl (ih x1 x2 t1356.1 t1356.2 (x5 + 1) _ _ h hE)
      · skip
        obtain ⟨c1352, h⟩ := qk_some h
        refine q_if_eq (tgt := 79) dX11_lies_64 (by decide) rfl (qRb_R c1352)  (fun g => ?_) (fun g => ?_)
        · rw [if_pos (show q1350.1 = 0 from g)] at h
          cases h
          exact q_pick [1, 2, 3, 4, 5, 6] rfl hk3807
        · rw [if_neg (show ¬ (q1350.1 = 0) from g)] at h
          refine q_iload_n dX11_lies_67 rfl rfl ?_
          refine q_iload_n dX11_lies_68 rfl rfl ?_
          refine q_jn (G := fun (t1355 : Int) => qW X (d + 2) yX11_lies cX11_lies 7 (some .int) 76 [(0, qr 0), (1, qi x1), (2, qi x2), (3, qi x3), (4, qi t1355), (5, qi x5)] [] q1350.2 Q) h (fun t1355 h => ?_) (fun t1355 h hk3808 => ?_)
          · try dsimp only at h
            refine q_iinc (lv' := [(3, qi (x3 + 1)), (0, qr 0), (1, qi x1), (2, qi x2), (4, qi t1355), (5, qi x5)]) dX11_lies_76 (by decide) rfl rfl rfl ?_
            cases h
            exact q_pick [1, 2, 3, 0, 4, 5] rfl hk3807
          · skip
            obtain ⟨c1353, h⟩ := qk_some h
            obtain ⟨c1354, h⟩ := qk_some h
            refine q_icmp_ne (tgt := 76) dX11_lies_69 (by decide) rfl (qRb_R c1353) (qRb_R c1354) (fun g => ?_) (fun g => ?_)
            · rw [if_neg (show ¬ (x3 = x2) from g)] at h
              cases h
              exact q_pick [1, 2, 3, 4, 5, 6] rfl hk3808
            · rw [if_pos (show x3 = x2 from g)] at h
              refine q_iload dX11_lies_72 rfl rfl ?_
              refine q_istore (lv' := [(4, qi (S 44 (Int.toNat x5))), (6, qi (S 44 (Int.toNat x5))), (0, qr 0), (1, qi x1), (2, qi x2), (3, qi x3), (5, qi x5)]) dX11_lies_74 (by decide) rfl rfl ?_
              cases h
              exact q_pick [2, 3, 4, 5, 0, 6] rfl hk3808
set_option maxRecDepth 20000 in
theorem C_lies_ok {X : qX} (hL : ∀ c, c < 93 → c ∈ qLs X) (d : Nat) (a1 : Int) (a2 : Int) (S : qSto) (o : (Int × qSto)) (h : C_lies a1 a2 S = some o) (Q : Option qV → qSto → Prop) (hQ : Q (some (qi o.1)) o.2) : qC X (d + 2) yX11_lies cX11_lies 7 (some .int) [qr 0, qi a1, qi a2] S Q := by
  refine q_entry (lv := [(0, qr 0), (1, qi a1), (2, qi a2)]) pn_X11 (Nat.le_of_ble_eq_true rfl) rfl ?_
  unfold C_lies at h
  refine q_iload_n dX11_lies_0 rfl rfl ?_
  obtain ⟨q1341, h1342, h⟩ := Option.bind_eq_some_iff.mp h
  refine q_callSi (as := [qi a1]) dX11_lies_1 ml_X11_194 rfl rfl (Nat.le_of_ble_eq_true rfl) (C_isSlot_ok hL (d + 1) a1 _ _ h1342) rfl ?_
  obtain ⟨c1343, h⟩ := qk_some h
  refine q_if_eq (tgt := 12) dX11_lies_4 (by decide) rfl (qRb_R c1343)  (fun g => ?_) (fun g => ?_)
  · rw [if_pos (show q1341.1 = 0 from g)] at h
    refine q_iconst dX11_lies_12 rfl rfl ?_
    cases h
    exact q_ireturn dX11_lies_13 rfl hQ
  · rw [if_neg (show ¬ (q1341.1 = 0) from g)] at h
    refine q_iload_n dX11_lies_7 rfl rfl ?_
    refine q_iconst dX11_lies_8 rfl rfl ?_
    obtain ⟨c1344, h⟩ := qk_some h
    refine q_icmp_ge (tgt := 14) dX11_lies_9 (by decide) rfl (qRb_R c1344) ⟨by decide, by decide⟩ (fun g => ?_) (fun g => ?_)
    · rw [if_pos (show (-1) ≤ a2 from g)] at h
      refine q_aload_n dX11_lies_14 rfl rfl ?_
      refine q_getA dX11_lies_15 fl_X11_49 (hL 0 (by decide)) sh_0 (by decide) rfl rfl ?_
      obtain ⟨q1345, h1346, h⟩ := Option.bind_eq_some_iff.mp h
      refine q_callVv (as := []) (c := 6) dX11_lies_18 ml_X11_367 rfl rfl (hL 6 (by decide)) sh_6 rfl rfl (Nat.le_of_ble_eq_true rfl) (Stays_lineUp_ok hL d _ _ h1346) rfl ?_
      refine q_iconst dX11_lies_21 rfl rfl ?_
      refine q_istore_n (lv' := [(3, qi 0), (0, qr 0), (1, qi a1), (2, qi a2)]) dX11_lies_22 (by decide) rfl rfl ?_
      refine q_bipush dX11_lies_23 (by decide) rfl ?_
      refine q_istore (lv' := [(4, qi (-2)), (3, qi 0), (0, qr 0), (1, qi a1), (2, qi a2)]) dX11_lies_25 (by decide) rfl rfl ?_
      refine q_iconst dX11_lies_27 rfl rfl ?_
      refine q_istore (lv' := [(5, qi 0), (4, qi (-2)), (3, qi 0), (0, qr 0), (1, qi a1), (2, qi a2)]) dX11_lies_28 (by decide) rfl rfl ?_
      obtain ⟨q1357, h1358, h⟩ := Option.bind_eq_some_iff.mp h
      refine q_pick [3, 4, 5, 2, 1, 0] rfl (C_lies_L30_ok hL d qF a1 a2 0 (-2) 0 _ _ h1358 ?_)
      refine q_iload_n dX11_lies_85 rfl rfl ?_
      refine q_iconst dX11_lies_86 rfl rfl ?_
      obtain ⟨c1359, h⟩ := qk_some h
      refine q_icmp_ne (tgt := 94) dX11_lies_87 (by decide) rfl (qRb_R c1359) ⟨by decide, by decide⟩ (fun g => ?_) (fun g => ?_)
      · rw [if_neg (show ¬ (a2 = (-1)) from g)] at h
        refine q_iload dX11_lies_94 rfl rfl ?_
        cases h
        exact q_ireturn dX11_lies_96 rfl hQ
      · rw [if_pos (show a2 = (-1) from g)] at h
        refine q_iload_n dX11_lies_90 rfl rfl ?_
        refine q_goto (pc' := 96) dX11_lies_91 (by decide) ?_
        cases h
        exact q_ireturn dX11_lies_96 rfl hQ
    · rw [if_neg (show ¬ ((-1) ≤ a2) from g)] at h
      refine q_iconst dX11_lies_12 rfl rfl ?_
      cases h
      exact q_ireturn dX11_lies_13 rfl hQ
set_option maxRecDepth 20000 in
theorem C_free_L37_ok {X : qX} (hL : ∀ c, c < 93 → c ∈ qLs X) (d : Nat) {Q : Option qV → qSto → Prop} : ∀ (n : Nat) (x1 : Int) (x2 : Int) (x3 : Int) (x4 : Int) (x5 : Int) (x6 : Int) (S : qSto) (o : (Int × Int × qSto)), C_free_L37 n x1 x3 x4 x5 x6 S = some o → (qW X (d + 2) yX11_free cX11_free 9 (some .int) 188 [(2, qi x2), (3, qi o.1), (4, qi o.2.1)] [] o.2.2 Q) → qW X (d + 2) yX11_free cX11_free 9 (some .int) 37 [(0, qr 0), (1, qi x1), (2, qi x2), (3, qi x3), (4, qi x4), (5, qi x5), (6, qi x6)] [] S Q := by
  intro n
  induction n with
  | zero =>
    intro x1 x2 x3 x4 x5 x6 S o h
    simp [C_free_L37] at h
  | succ n ih =>
    intro x1 x2 x3 x4 x5 x6 S o h hE
    rw [C_free_L37] at h
    refine q_iload dX11_free_37 rfl rfl ?_
    refine q_aload_n dX11_free_39 rfl rfl ?_
    refine q_getA dX11_free_40 fl_X11_49 (hL 0 (by decide)) sh_0 (by decide) rfl rfl ?_
    refine q_getI dX11_free_43 fl_X11_370 (hL 6 (by decide)) sh_6 (by decide) rfl rfl ?_
    obtain ⟨c1367, h⟩ := qk_some h
    obtain ⟨c1368, h⟩ := qk_some h
    refine q_icmp_gt (tgt := 188) dX11_free_46 (by decide) rfl (qRb_R c1367) (qRb_R c1368) (fun g => ?_) (fun g => ?_)
    · rw [if_pos (show (S 6 10) < x6 from g)] at h
      cases h
      exact q_pick [2, 3, 4] rfl (hE)
    · rw [if_neg (show ¬ ((S 6 10) < x6) from g)] at h
      refine q_iload dX11_free_49 rfl rfl ?_
      refine q_aload_n dX11_free_51 rfl rfl ?_
      refine q_getA dX11_free_52 fl_X11_49 (hL 0 (by decide)) sh_0 (by decide) rfl rfl ?_
      refine q_getI dX11_free_55 fl_X11_370 (hL 6 (by decide)) sh_6 (by decide) rfl rfl ?_
      refine q_jn (G := fun (t1371 : Int) => qW X (d + 2) yX11_free cX11_free 9 (some .int) 66 [(0, qr 0), (1, qi x1), (2, qi x2), (3, qi x3), (4, qi x4), (5, qi x5), (6, qi x6)] [qi t1371] S Q) h (fun t1371 h => ?_) (fun t1371 h hk3809 => ?_)
      · try dsimp only at h
        refine q_istore (lv' := [(7, qi t1371), (0, qr 0), (1, qi x1), (2, qi x2), (3, qi x3), (4, qi x4), (5, qi x5), (6, qi x6)]) dX11_free_66 (by decide) rfl rfl ?_
        refine q_iload dX11_free_68 rfl rfl ?_
        refine q_jn (G := fun (t1399 : (Int × Int × Int × qSto)) => qW X (d + 2) yX11_free cX11_free 9 (some .int) 182 [(0, qr 0), (1, qi x1), (2, qi x2), (3, qi t1399.1), (4, qi t1399.2.1), (5, qi t1399.2.2.1), (6, qi x6)] [] t1399.2.2.2 Q) h (fun t1399 h => ?_) (fun t1399 h hk3810 => ?_)
        · try dsimp only at h
          refine q_iinc (lv' := [(6, qi (x6 + 1)), (0, qr 0), (1, qi x1), (2, qi x2), (3, qi t1399.1), (4, qi t1399.2.1), (5, qi t1399.2.2.1)]) dX11_free_182 (by decide) rfl rfl rfl ?_
          refine q_goto (pc' := 37) dX11_free_185 (by decide) ?_
          exact q_pick [1, 2, 3, 4, 5, 6, 0] rfl (ih x1 x2 t1399.1 t1399.2.1 t1399.2.2.1 (x6 + 1) _ _ h hE)
        · skip
          obtain ⟨c1372, h⟩ := qk_some h
          refine q_if_ne (tgt := 94) dX11_free_70 (by decide) rfl (qRb_R c1372)  (fun g => ?_) (fun g => ?_)
          · rw [if_neg (show ¬ (t1371 = 0) from g)] at h
            refine q_iload dX11_free_94 rfl rfl ?_
            refine q_jn (G := fun (t1376 : Int) => qW X (d + 2) yX11_free cX11_free 9 (some .int) 129 [(0, qr 0), (1, qi x1), (2, qi x2), (3, qi x3), (4, qi x4), (5, qi x5), (6, qi x6), (7, qi t1371)] [qi t1376] S Q) h (fun t1376 h => ?_) (fun t1376 h hk3811 => ?_)
            · try dsimp only at h
              refine q_istore (lv' := [(8, qi t1376), (0, qr 0), (1, qi x1), (2, qi x2), (3, qi x3), (4, qi x4), (5, qi x5), (6, qi x6), (7, qi t1371)]) dX11_free_129 (by decide) rfl rfl ?_
              refine q_iload dX11_free_131 rfl rfl ?_
              refine q_iload dX11_free_133 rfl rfl ?_
              refine q_isub dX11_free_135 rfl ?_
              refine q_iload_n dX11_free_136 rfl rfl ?_
              refine q_jn (G := fun (t1379 : (Int × Int)) => qW X (d + 2) yX11_free cX11_free 9 (some .int) 150 [(0, qr 0), (1, qi x1), (2, qi x2), (3, qi t1379.1), (4, qi t1379.2), (6, qi x6), (7, qi t1371), (8, qi t1376)] [] S Q) h (fun t1379 h => ?_) (fun t1379 h hk3812 => ?_)
              · try dsimp only at h
                refine q_iload dX11_free_150 rfl rfl ?_
                refine q_jn (G := fun (t1383 : Int) => qW X (d + 2) yX11_free cX11_free 9 (some .int) 180 [(0, qr 0), (1, qi x1), (2, qi x2), (3, qi t1379.1), (4, qi t1379.2), (6, qi x6)] [qi t1383] S Q) h (fun t1383 h => ?_) (fun t1383 h hk3813 => ?_)
                · try dsimp only at h
                  refine q_istore (lv' := [(5, qi t1383), (0, qr 0), (1, qi x1), (2, qi x2), (3, qi t1379.1), (4, qi t1379.2), (6, qi x6)]) dX11_free_180 (by decide) rfl rfl ?_
                  cases h
                  exact q_pick [1, 2, 3, 4, 5, 0, 6] rfl hk3810
                · skip
                  obtain ⟨c1380, h⟩ := qk_some h
                  refine q_if_eq (tgt := 160) dX11_free_152 (by decide) rfl (qRb_R c1380)  (fun g => ?_) (fun g => ?_)
                  · rw [if_pos (show t1371 = 0 from g)] at h
                    refine q_aload_n dX11_free_160 rfl rfl ?_
                    refine q_getA dX11_free_161 fl_X11_49 (hL 0 (by decide)) sh_0 (by decide) rfl rfl ?_
                    refine q_getA dX11_free_164 fl_X11_364 (hL 6 (by decide)) sh_6 (by decide) rfl rfl ?_
                    refine q_aload_n dX11_free_167 rfl rfl ?_
                    refine q_getA dX11_free_168 fl_X11_49 (hL 0 (by decide)) sh_0 (by decide) rfl rfl ?_
                    refine q_getA dX11_free_171 fl_X11_373 (hL 6 (by decide)) sh_6 (by decide) rfl rfl ?_
                    refine q_iload dX11_free_174 rfl rfl ?_
                    obtain ⟨c1381, h⟩ := qk_some h
                    refine q_iaload dX11_free_176 (hL 44 (by decide)) sh_44 (qIx_0 c1381) (qIx_1 c1381) rfl ?_
                    obtain ⟨c1382, h⟩ := qk_some h
                    refine q_iaload dX11_free_177 (hL 38 (by decide)) sh_38 (qIx_0 c1382) (qIx_1 c1382) rfl ?_
                    refine q_iconst dX11_free_178 rfl rfl ?_
                    refine q_iadd dX11_free_179 rfl ?_
                    cases h
                    exact q_pick [0, 1, 2, 3, 4, 5] rfl hk3813
                  · rw [if_neg (show ¬ (t1371 = 0) from g)] at h
                    refine q_iload dX11_free_155 rfl rfl ?_
                    refine q_goto (pc' := 180) dX11_free_157 (by decide) ?_
                    cases h
                    exact q_pick [0, 1, 2, 3, 4, 5] rfl hk3813
              · skip
                obtain ⟨c1377, h⟩ := qk_some h
                obtain ⟨c1378, h⟩ := qk_some h
                refine q_icmp_le (tgt := 150) dX11_free_137 (by decide) rfl (qRb_R c1377) (qRb_R c1378) (fun g => ?_) (fun g => ?_)
                · rw [if_pos (show (t1376 - x5) ≤ x3 from g)] at h
                  cases h
                  exact q_pick [1, 2, 3, 4, 5, 7, 8, 0] rfl hk3812
                · rw [if_neg (show ¬ ((t1376 - x5) ≤ x3) from g)] at h
                  refine q_iload dX11_free_140 rfl rfl ?_
                  refine q_iload dX11_free_142 rfl rfl ?_
                  refine q_isub dX11_free_144 rfl ?_
                  refine q_istore_n (lv' := [(3, qi (t1376 - x5)), (8, qi t1376), (0, qr 0), (1, qi x1), (2, qi x2), (4, qi x4), (5, qi x5), (6, qi x6), (7, qi t1371)]) dX11_free_145 (by decide) rfl rfl ?_
                  refine q_iload dX11_free_146 rfl rfl ?_
                  refine q_istore (lv' := [(4, qi x5), (3, qi (t1376 - x5)), (8, qi t1376), (0, qr 0), (1, qi x1), (2, qi x2), (5, qi x5), (6, qi x6), (7, qi t1371)]) dX11_free_148 (by decide) rfl rfl ?_
                  cases h
                  exact q_pick [3, 4, 5, 1, 0, 7, 8, 2] rfl hk3812
            · skip
              obtain ⟨c1373, h⟩ := qk_some h
              refine q_if_eq (tgt := 111) dX11_free_96 (by decide) rfl (qRb_R c1373)  (fun g => ?_) (fun g => ?_)
              · rw [if_pos (show t1371 = 0 from g)] at h
                refine q_aload_n dX11_free_111 rfl rfl ?_
                refine q_getA dX11_free_112 fl_X11_49 (hL 0 (by decide)) sh_0 (by decide) rfl rfl ?_
                refine q_getA dX11_free_115 fl_X11_225 (hL 6 (by decide)) sh_6 (by decide) rfl rfl ?_
                refine q_aload_n dX11_free_118 rfl rfl ?_
                refine q_getA dX11_free_119 fl_X11_49 (hL 0 (by decide)) sh_0 (by decide) rfl rfl ?_
                refine q_getA dX11_free_122 fl_X11_373 (hL 6 (by decide)) sh_6 (by decide) rfl rfl ?_
                refine q_iload dX11_free_125 rfl rfl ?_
                obtain ⟨c1374, h⟩ := qk_some h
                refine q_iaload dX11_free_127 (hL 44 (by decide)) sh_44 (qIx_0 c1374) (qIx_1 c1374) rfl ?_
                obtain ⟨c1375, h⟩ := qk_some h
                refine q_iaload dX11_free_128 (hL 37 (by decide)) sh_37 (qIx_0 c1375) (qIx_1 c1375) rfl ?_
                cases h
                exact q_pick [1, 2, 3, 4, 5, 6, 7, 0] rfl hk3811
              · rw [if_neg (show ¬ (t1371 = 0) from g)] at h
                refine q_aload_n dX11_free_99 rfl rfl ?_
                refine q_getA dX11_free_100 fl_X11_16 (hL 0 (by decide)) sh_0 (by decide) rfl rfl ?_
                refine q_getA dX11_free_103 fl_X11_146 (hL 2 (by decide)) sh_2 (by decide) rfl rfl ?_
                refine q_iconst dX11_free_106 rfl rfl ?_
                refine q_iaload dX11_free_107 (hL 15 (by decide)) sh_15 (by decide) (by decide) rfl ?_
                refine q_goto (pc' := 129) dX11_free_108 (by decide) ?_
                cases h
                exact q_pick [1, 2, 3, 4, 5, 6, 7, 0] rfl hk3811
          · rw [if_pos (show t1371 = 0 from g)] at h
            refine q_aload_n dX11_free_73 rfl rfl ?_
            refine q_getA dX11_free_74 fl_X11_49 (hL 0 (by decide)) sh_0 (by decide) rfl rfl ?_
            refine q_aload_n dX11_free_77 rfl rfl ?_
            refine q_getA dX11_free_78 fl_X11_49 (hL 0 (by decide)) sh_0 (by decide) rfl rfl ?_
            refine q_getA dX11_free_81 fl_X11_373 (hL 6 (by decide)) sh_6 (by decide) rfl rfl ?_
            refine q_iload dX11_free_84 rfl rfl ?_
            obtain ⟨c1384, h⟩ := qk_some h
            refine q_iaload dX11_free_86 (hL 44 (by decide)) sh_44 (qIx_0 c1384) (qIx_1 c1384) rfl ?_
            refine q_iload_n dX11_free_87 rfl rfl ?_
            obtain ⟨q1385, h1386, h⟩ := Option.bind_eq_some_iff.mp h
            refine q_callVi (as := [qi (S 44 (Int.toNat x6)), qi x1]) (c := 6) dX11_free_88 ml_X11_361 rfl rfl (hL 6 (by decide)) sh_6 rfl rfl (Nat.le_of_ble_eq_true rfl) (Stays_liesIn_ok hL d (S 44 (Int.toNat x6)) x1 _ _ h1386) rfl ?_
            obtain ⟨c1387, h⟩ := qk_some h
            refine q_if_eq (tgt := 182) dX11_free_91 (by decide) rfl (qRb_R c1387)  (fun g => ?_) (fun g => ?_)
            · rw [if_pos (show q1385.1 = 0 from g)] at h
              cases h
              exact q_pick [1, 2, 3, 4, 5, 6, 7] rfl hk3810
            · rw [if_neg (show ¬ (q1385.1 = 0) from g)] at h
              refine q_iload dX11_free_94 rfl rfl ?_
              refine q_jn (G := fun (t1391 : Int) => qW X (d + 2) yX11_free cX11_free 9 (some .int) 129 [(0, qr 0), (1, qi x1), (2, qi x2), (3, qi x3), (4, qi x4), (5, qi x5), (6, qi x6), (7, qi t1371)] [qi t1391] q1385.2 Q) h (fun t1391 h => ?_) (fun t1391 h hk3814 => ?_)
              · try dsimp only at h
                refine q_istore (lv' := [(8, qi t1391), (0, qr 0), (1, qi x1), (2, qi x2), (3, qi x3), (4, qi x4), (5, qi x5), (6, qi x6), (7, qi t1371)]) dX11_free_129 (by decide) rfl rfl ?_
                refine q_iload dX11_free_131 rfl rfl ?_
                refine q_iload dX11_free_133 rfl rfl ?_
                refine q_isub dX11_free_135 rfl ?_
                refine q_iload_n dX11_free_136 rfl rfl ?_
                refine q_jn (G := fun (t1394 : (Int × Int)) => qW X (d + 2) yX11_free cX11_free 9 (some .int) 150 [(0, qr 0), (1, qi x1), (2, qi x2), (3, qi t1394.1), (4, qi t1394.2), (6, qi x6), (7, qi t1371), (8, qi t1391)] [] q1385.2 Q) h (fun t1394 h => ?_) (fun t1394 h hk3815 => ?_)
                · try dsimp only at h
                  refine q_iload dX11_free_150 rfl rfl ?_
                  refine q_jn (G := fun (t1398 : Int) => qW X (d + 2) yX11_free cX11_free 9 (some .int) 180 [(0, qr 0), (1, qi x1), (2, qi x2), (3, qi t1394.1), (4, qi t1394.2), (6, qi x6)] [qi t1398] q1385.2 Q) h (fun t1398 h => ?_) (fun t1398 h hk3816 => ?_)
                  · try dsimp only at h
                    refine q_istore (lv' := [(5, qi t1398), (0, qr 0), (1, qi x1), (2, qi x2), (3, qi t1394.1), (4, qi t1394.2), (6, qi x6)]) dX11_free_180 (by decide) rfl rfl ?_
                    cases h
                    exact q_pick [1, 2, 3, 4, 5, 0, 6] rfl hk3810
                  · skip
                    obtain ⟨c1395, h⟩ := qk_some h
                    refine q_if_eq (tgt := 160) dX11_free_152 (by decide) rfl (qRb_R c1395)  (fun g => ?_) (fun g => ?_)
                    · rw [if_pos (show t1371 = 0 from g)] at h
                      refine q_aload_n dX11_free_160 rfl rfl ?_
                      refine q_getA dX11_free_161 fl_X11_49 (hL 0 (by decide)) sh_0 (by decide) rfl rfl ?_
                      refine q_getA dX11_free_164 fl_X11_364 (hL 6 (by decide)) sh_6 (by decide) rfl rfl ?_
                      refine q_aload_n dX11_free_167 rfl rfl ?_
                      refine q_getA dX11_free_168 fl_X11_49 (hL 0 (by decide)) sh_0 (by decide) rfl rfl ?_
                      refine q_getA dX11_free_171 fl_X11_373 (hL 6 (by decide)) sh_6 (by decide) rfl rfl ?_
                      refine q_iload dX11_free_174 rfl rfl ?_
                      obtain ⟨c1396, h⟩ := qk_some h
                      refine q_iaload dX11_free_176 (hL 44 (by decide)) sh_44 (qIx_0 c1396) (qIx_1 c1396) rfl ?_
                      obtain ⟨c1397, h⟩ := qk_some h
                      refine q_iaload dX11_free_177 (hL 38 (by decide)) sh_38 (qIx_0 c1397) (qIx_1 c1397) rfl ?_
                      refine q_iconst dX11_free_178 rfl rfl ?_
                      refine q_iadd dX11_free_179 rfl ?_
                      cases h
                      exact q_pick [0, 1, 2, 3, 4, 5] rfl hk3816
                    · rw [if_neg (show ¬ (t1371 = 0) from g)] at h
                      refine q_iload dX11_free_155 rfl rfl ?_
                      refine q_goto (pc' := 180) dX11_free_157 (by decide) ?_
                      cases h
                      exact q_pick [0, 1, 2, 3, 4, 5] rfl hk3816
                · skip
                  obtain ⟨c1392, h⟩ := qk_some h
                  obtain ⟨c1393, h⟩ := qk_some h
                  refine q_icmp_le (tgt := 150) dX11_free_137 (by decide) rfl (qRb_R c1392) (qRb_R c1393) (fun g => ?_) (fun g => ?_)
                  · rw [if_pos (show (t1391 - x5) ≤ x3 from g)] at h
                    cases h
                    exact q_pick [1, 2, 3, 4, 5, 7, 8, 0] rfl hk3815
                  · rw [if_neg (show ¬ ((t1391 - x5) ≤ x3) from g)] at h
                    refine q_iload dX11_free_140 rfl rfl ?_
                    refine q_iload dX11_free_142 rfl rfl ?_
                    refine q_isub dX11_free_144 rfl ?_
                    refine q_istore_n (lv' := [(3, qi (t1391 - x5)), (8, qi t1391), (0, qr 0), (1, qi x1), (2, qi x2), (4, qi x4), (5, qi x5), (6, qi x6), (7, qi t1371)]) dX11_free_145 (by decide) rfl rfl ?_
                    refine q_iload dX11_free_146 rfl rfl ?_
                    refine q_istore (lv' := [(4, qi x5), (3, qi (t1391 - x5)), (8, qi t1391), (0, qr 0), (1, qi x1), (2, qi x2), (5, qi x5), (6, qi x6), (7, qi t1371)]) dX11_free_148 (by decide) rfl rfl ?_
                    cases h
                    exact q_pick [3, 4, 5, 1, 0, 7, 8, 2] rfl hk3815
              · skip
                obtain ⟨c1388, h⟩ := qk_some h
                refine q_if_eq (tgt := 111) dX11_free_96 (by decide) rfl (qRb_R c1388)  (fun g => ?_) (fun g => ?_)
                · rw [if_pos (show t1371 = 0 from g)] at h
                  refine q_aload_n dX11_free_111 rfl rfl ?_
                  refine q_getA dX11_free_112 fl_X11_49 (hL 0 (by decide)) sh_0 (by decide) rfl rfl ?_
                  refine q_getA dX11_free_115 fl_X11_225 (hL 6 (by decide)) sh_6 (by decide) rfl rfl ?_
                  refine q_aload_n dX11_free_118 rfl rfl ?_
                  refine q_getA dX11_free_119 fl_X11_49 (hL 0 (by decide)) sh_0 (by decide) rfl rfl ?_
                  refine q_getA dX11_free_122 fl_X11_373 (hL 6 (by decide)) sh_6 (by decide) rfl rfl ?_
                  refine q_iload dX11_free_125 rfl rfl ?_
                  obtain ⟨c1389, h⟩ := qk_some h
                  refine q_iaload dX11_free_127 (hL 44 (by decide)) sh_44 (qIx_0 c1389) (qIx_1 c1389) rfl ?_
                  obtain ⟨c1390, h⟩ := qk_some h
                  refine q_iaload dX11_free_128 (hL 37 (by decide)) sh_37 (qIx_0 c1390) (qIx_1 c1390) rfl ?_
                  cases h
                  exact q_pick [1, 2, 3, 4, 5, 6, 7, 0] rfl hk3814
                · rw [if_neg (show ¬ (t1371 = 0) from g)] at h
                  refine q_aload_n dX11_free_99 rfl rfl ?_
                  refine q_getA dX11_free_100 fl_X11_16 (hL 0 (by decide)) sh_0 (by decide) rfl rfl ?_
                  refine q_getA dX11_free_103 fl_X11_146 (hL 2 (by decide)) sh_2 (by decide) rfl rfl ?_
                  refine q_iconst dX11_free_106 rfl rfl ?_
                  refine q_iaload dX11_free_107 (hL 15 (by decide)) sh_15 (by decide) (by decide) rfl ?_
                  refine q_goto (pc' := 129) dX11_free_108 (by decide) ?_
                  cases h
                  exact q_pick [1, 2, 3, 4, 5, 6, 7, 0] rfl hk3814
      · skip
        obtain ⟨c1369, h⟩ := qk_some h
        obtain ⟨c1370, h⟩ := qk_some h
        refine q_icmp_ne (tgt := 65) dX11_free_58 (by decide) rfl (qRb_R c1369) (qRb_R c1370) (fun g => ?_) (fun g => ?_)
        · rw [if_neg (show ¬ (x6 = (S 6 10)) from g)] at h
          refine q_iconst dX11_free_65 rfl rfl ?_
          cases h
          exact q_pick [0, 1, 2, 3, 4, 5, 6] rfl hk3809
        · rw [if_pos (show x6 = (S 6 10) from g)] at h
          refine q_iconst dX11_free_61 rfl rfl ?_
          refine q_goto (pc' := 66) dX11_free_62 (by decide) ?_
          cases h
          exact q_pick [0, 1, 2, 3, 4, 5, 6] rfl hk3809
set_option maxRecDepth 20000 in
theorem C_free_ok {X : qX} (hL : ∀ c, c < 93 → c ∈ qLs X) (d : Nat) (a1 : Int) (a2 : Int) (S : qSto) (o : (Int × qSto)) (h : C_free a1 a2 S = some o) (Q : Option qV → qSto → Prop) (hQ : Q (some (qi o.1)) o.2) : qC X (d + 2) yX11_free cX11_free 9 (some .int) [qr 0, qi a1, qi a2] S Q := by
  refine q_entry (lv := [(0, qr 0), (1, qi a1), (2, qi a2)]) pn_X11 (Nat.le_of_ble_eq_true rfl) rfl ?_
  unfold C_free at h
  refine q_iload_n dX11_free_0 rfl rfl ?_
  obtain ⟨q1360, h1361, h⟩ := Option.bind_eq_some_iff.mp h
  refine q_callSi (as := [qi a1]) dX11_free_1 ml_X11_194 rfl rfl (Nat.le_of_ble_eq_true rfl) (C_isSlot_ok hL (d + 1) a1 _ _ h1361) rfl ?_
  obtain ⟨c1362, h⟩ := qk_some h
  refine q_if_eq (tgt := 16) dX11_free_4 (by decide) rfl (qRb_R c1362)  (fun g => ?_) (fun g => ?_)
  · rw [if_pos (show q1360.1 = 0 from g)] at h
    refine q_iconst dX11_free_16 rfl rfl ?_
    cases h
    exact q_ireturn dX11_free_17 rfl hQ
  · rw [if_neg (show ¬ (q1360.1 = 0) from g)] at h
    refine q_iload_n dX11_free_7 rfl rfl ?_
    obtain ⟨c1363, h⟩ := qk_some h
    refine q_if_lt (tgt := 16) dX11_free_8 (by decide) rfl (qRb_R c1363)  (fun g => ?_) (fun g => ?_)
    · rw [if_pos (show a2 < 0 from g)] at h
      refine q_iconst dX11_free_16 rfl rfl ?_
      cases h
      exact q_ireturn dX11_free_17 rfl hQ
    · rw [if_neg (show ¬ (a2 < 0) from g)] at h
      refine q_iload_n dX11_free_11 rfl rfl ?_
      refine q_iconst dX11_free_12 rfl rfl ?_
      obtain ⟨c1364, h⟩ := qk_some h
      refine q_icmp_le (tgt := 18) dX11_free_13 (by decide) rfl (qRb_R c1364) ⟨by decide, by decide⟩ (fun g => ?_) (fun g => ?_)
      · rw [if_pos (show a2 ≤ 1 from g)] at h
        refine q_aload_n dX11_free_18 rfl rfl ?_
        refine q_getA dX11_free_19 fl_X11_49 (hL 0 (by decide)) sh_0 (by decide) rfl rfl ?_
        obtain ⟨q1365, h1366, h⟩ := Option.bind_eq_some_iff.mp h
        refine q_callVv (as := []) (c := 6) dX11_free_22 ml_X11_367 rfl rfl (hL 6 (by decide)) sh_6 rfl rfl (Nat.le_of_ble_eq_true rfl) (Stays_lineUp_ok hL d _ _ h1366) rfl ?_
        refine q_iconst dX11_free_25 rfl rfl ?_
        refine q_istore_n (lv' := [(3, qi 0), (0, qr 0), (1, qi a1), (2, qi a2)]) dX11_free_26 (by decide) rfl rfl ?_
        refine q_bipush dX11_free_27 (by decide) rfl ?_
        refine q_istore (lv' := [(4, qi (-2)), (3, qi 0), (0, qr 0), (1, qi a1), (2, qi a2)]) dX11_free_29 (by decide) rfl rfl ?_
        refine q_iconst dX11_free_31 rfl rfl ?_
        refine q_istore (lv' := [(5, qi 0), (4, qi (-2)), (3, qi 0), (0, qr 0), (1, qi a1), (2, qi a2)]) dX11_free_32 (by decide) rfl rfl ?_
        refine q_iconst dX11_free_34 rfl rfl ?_
        refine q_istore (lv' := [(6, qi 0), (5, qi 0), (4, qi (-2)), (3, qi 0), (0, qr 0), (1, qi a1), (2, qi a2)]) dX11_free_35 (by decide) rfl rfl ?_
        obtain ⟨q1400, h1401, h⟩ := Option.bind_eq_some_iff.mp h
        refine q_pick [4, 5, 6, 3, 2, 1, 0] rfl (C_free_L37_ok hL d qF a1 a2 0 (-2) 0 0 _ _ h1401 ?_)
        refine q_iload_n dX11_free_188 rfl rfl ?_
        obtain ⟨c1402, h⟩ := qk_some h
        refine q_if_ne (tgt := 196) dX11_free_189 (by decide) rfl (qRb_R c1402)  (fun g => ?_) (fun g => ?_)
        · rw [if_neg (show ¬ (a2 = 0) from g)] at h
          refine q_iload dX11_free_196 rfl rfl ?_
          cases h
          exact q_ireturn dX11_free_198 rfl hQ
        · rw [if_pos (show a2 = 0 from g)] at h
          refine q_iload_n dX11_free_192 rfl rfl ?_
          refine q_goto (pc' := 198) dX11_free_193 (by decide) ?_
          cases h
          exact q_ireturn dX11_free_198 rfl hQ
      · rw [if_neg (show ¬ (a2 ≤ 1) from g)] at h
        refine q_iconst dX11_free_16 rfl rfl ?_
        cases h
        exact q_ireturn dX11_free_17 rfl hQ
set_option maxRecDepth 20000 in
theorem C_works_ok {X : qX} (hL : ∀ c, c < 93 → c ∈ qLs X) (d : Nat) (a1 : Int) (a2 : Int) (S : qSto) (o : (Int × qSto)) (h : C_works a1 a2 S = some o) (Q : Option qV → qSto → Prop) (hQ : Q (some (qi o.1)) o.2) : qC X (d + 2) yX11_works cX11_works 4 (some .int) [qr 0, qi a1, qi a2] S Q := by
  refine q_entry (lv := [(0, qr 0), (1, qi a1), (2, qi a2)]) pn_X11 (Nat.le_of_ble_eq_true rfl) rfl ?_
  unfold C_works at h
  refine q_aload_n dX11_works_0 rfl rfl ?_
  refine q_iload_n dX11_works_1 rfl rfl ?_
  obtain ⟨q1403, h1404, h⟩ := Option.bind_eq_some_iff.mp h
  refine q_callVi (as := [qi a1]) (c := 0) dX11_works_2 ml_X11_207 rfl rfl (hL 0 (by decide)) sh_0 rfl rfl (Nat.le_of_ble_eq_true rfl) (C_isCrane_ok hL (d + 1) a1 _ _ h1404) rfl ?_
  obtain ⟨c1405, h⟩ := qk_some h
  refine q_if_eq (tgt := 15) dX11_works_5 (by decide) rfl (qRb_R c1405)  (fun g => ?_) (fun g => ?_)
  · rw [if_pos (show q1403.1 = 0 from g)] at h
    refine q_iconst dX11_works_15 rfl rfl ?_
    cases h
    exact q_ireturn dX11_works_16 rfl hQ
  · rw [if_neg (show ¬ (q1403.1 = 0) from g)] at h
    refine q_iload_n dX11_works_8 rfl rfl ?_
    obtain ⟨q1406, h1407, h⟩ := Option.bind_eq_some_iff.mp h
    refine q_callSi (as := [qi a2]) dX11_works_9 ml_X11_194 rfl rfl (Nat.le_of_ble_eq_true rfl) (C_isSlot_ok hL (d + 1) a2 _ _ h1407) rfl ?_
    obtain ⟨c1408, h⟩ := qk_some h
    refine q_if_ne (tgt := 17) dX11_works_12 (by decide) rfl (qRb_R c1408)  (fun g => ?_) (fun g => ?_)
    · rw [if_neg (show ¬ (q1406.1 = 0) from g)] at h
      refine q_aload_n dX11_works_17 rfl rfl ?_
      refine q_getA dX11_works_18 fl_X11_49 (hL 0 (by decide)) sh_0 (by decide) rfl rfl ?_
      obtain ⟨q1409, h1410, h⟩ := Option.bind_eq_some_iff.mp h
      refine q_callVv (as := []) (c := 6) dX11_works_21 ml_X11_367 rfl rfl (hL 6 (by decide)) sh_6 rfl rfl (Nat.le_of_ble_eq_true rfl) (Stays_lineUp_ok hL d _ _ h1410) rfl ?_
      refine q_aload_n dX11_works_24 rfl rfl ?_
      refine q_getA dX11_works_25 fl_X11_58 (hL 0 (by decide)) sh_0 (by decide) rfl rfl ?_
      refine q_iload_n dX11_works_28 rfl rfl ?_
      refine q_iconst dX11_works_29 rfl rfl ?_
      obtain ⟨q1411, h1412, h⟩ := Option.bind_eq_some_iff.mp h
      refine q_callVi (as := [qi a2, qi (-1)]) (c := 7) dX11_works_30 ml_X11_376 rfl rfl (hL 7 (by decide)) sh_7 rfl rfl (Nat.le_of_ble_eq_true rfl) (Dealer_deal_ok hL d a2 (-1) _ _ h1412) rfl ?_
      refine q_popI dX11_works_33 rfl ?_
      refine q_aload_n dX11_works_34 rfl rfl ?_
      refine q_getA dX11_works_35 fl_X11_58 (hL 0 (by decide)) sh_0 (by decide) rfl rfl ?_
      refine q_getA dX11_works_38 fl_X11_379 (hL 7 (by decide)) sh_7 (by decide) rfl rfl ?_
      refine q_iload_n dX11_works_41 rfl rfl ?_
      obtain ⟨c1413, h⟩ := qk_some h
      refine q_iaload dX11_works_42 (hL 45 (by decide)) sh_45 (qIx_0 c1413) (qIx_1 c1413) rfl ?_
      refine q_istore_n (lv' := [(3, qi (q1411.2 45 (Int.toNat a1))), (0, qr 0), (1, qi a1), (2, qi a2)]) dX11_works_43 (by decide) rfl rfl ?_
      refine q_iload_n dX11_works_44 rfl rfl ?_
      refine q_iconst dX11_works_45 rfl rfl ?_
      obtain ⟨c1414, h⟩ := qk_some h
      refine q_icmp_ne (tgt := 54) dX11_works_46 (by decide) rfl (qRb_R c1414) ⟨by decide, by decide⟩ (fun g => ?_) (fun g => ?_)
      · rw [if_neg (show ¬ ((q1411.2 45 (Int.toNat a1)) = (-1)) from g)] at h
        refine q_iload_n dX11_works_54 rfl rfl ?_
        cases h
        exact q_ireturn dX11_works_55 rfl hQ
      · rw [if_pos (show (q1411.2 45 (Int.toNat a1)) = (-1) from g)] at h
        refine q_bipush dX11_works_49 (by decide) rfl ?_
        refine q_goto (pc' := 55) dX11_works_51 (by decide) ?_
        cases h
        exact q_ireturn dX11_works_55 rfl hQ
    · rw [if_pos (show q1406.1 = 0 from g)] at h
      refine q_iconst dX11_works_15 rfl rfl ?_
      cases h
      exact q_ireturn dX11_works_16 rfl hQ
set_option maxRecDepth 20000 in
theorem C_hours_L21_ok {X : qX} (hL : ∀ c, c < 93 → c ∈ qLs X) (d : Nat) {Q : Option qV → qSto → Prop} : ∀ (n : Nat) (x1 : Int) (x2 : Int) (x3 : Int) (S : qSto) (o : (Int × qSto)), C_hours_L21 n x1 x2 x3 S = some o → (qW X (d + 2) yX11_hours cX11_hours 4 (some .int) 77 [(2, qi o.1)] [] o.2 Q) → qW X (d + 2) yX11_hours cX11_hours 4 (some .int) 21 [(0, qr 0), (1, qi x1), (2, qi x2), (3, qi x3)] [] S Q := by
  intro n
  induction n with
  | zero =>
    intro x1 x2 x3 S o h
    simp [C_hours_L21] at h
  | succ n ih =>
    intro x1 x2 x3 S o h hE
    rw [C_hours_L21] at h
    refine q_iload_n dX11_hours_21 rfl rfl ?_
    refine q_sipush dX11_hours_22 (by decide) rfl ?_
    obtain ⟨c1420, h⟩ := qk_some h
    refine q_icmp_ge (tgt := 77) dX11_hours_25 (by decide) rfl (qRb_R c1420) ⟨by decide, by decide⟩ (fun g => ?_) (fun g => ?_)
    · rw [if_pos (show 336 ≤ x3 from g)] at h
      cases h
      exact q_pick [2] rfl (hE)
    · rw [if_neg (show ¬ (336 ≤ x3) from g)] at h
      refine q_aload_n dX11_hours_28 rfl rfl ?_
      refine q_getA dX11_hours_29 fl_X11_49 (hL 0 (by decide)) sh_0 (by decide) rfl rfl ?_
      refine q_getA dX11_hours_32 fl_X11_382 (hL 6 (by decide)) sh_6 (by decide) rfl rfl ?_
      refine q_iload_n dX11_hours_35 rfl rfl ?_
      obtain ⟨c1421, h⟩ := qk_some h
      refine q_iaload dX11_hours_36 (hL 43 (by decide)) sh_43 (qIx_0 c1421) (qIx_1 c1421) rfl ?_
      refine q_jn (G := fun (t1428 : (Int × qSto)) => qW X (d + 2) yX11_hours cX11_hours 4 (some .int) 71 [(0, qr 0), (1, qi x1), (2, qi t1428.1), (3, qi x3)] [] t1428.2 Q) h (fun t1428 h => ?_) (fun t1428 h hk3817 => ?_)
      · try dsimp only at h
        refine q_iinc (lv' := [(3, qi (x3 + 1)), (0, qr 0), (1, qi x1), (2, qi t1428.1)]) dX11_hours_71 (by decide) rfl rfl rfl ?_
        refine q_goto (pc' := 21) dX11_hours_74 (by decide) ?_
        exact q_pick [1, 2, 3, 0] rfl (ih x1 t1428.1 (x3 + 1) _ _ h hE)
      · skip
        obtain ⟨c1422, h⟩ := qk_some h
        refine q_if_le (tgt := 71) dX11_hours_37 (by decide) rfl (qRb_R c1422)  (fun g => ?_) (fun g => ?_)
        · rw [if_pos (show (S 43 (Int.toNat x3)) ≤ 0 from g)] at h
          cases h
          exact q_pick [0, 1, 2, 3] rfl hk3817
        · rw [if_neg (show ¬ ((S 43 (Int.toNat x3)) ≤ 0) from g)] at h
          refine q_aload_n dX11_hours_40 rfl rfl ?_
          refine q_getA dX11_hours_41 fl_X11_58 (hL 0 (by decide)) sh_0 (by decide) rfl rfl ?_
          refine q_iload_n dX11_hours_44 rfl rfl ?_
          refine q_iconst dX11_hours_45 rfl rfl ?_
          obtain ⟨q1423, h1424, h⟩ := Option.bind_eq_some_iff.mp h
          refine q_callVi (as := [qi x3, qi (-1)]) (c := 7) dX11_hours_46 ml_X11_376 rfl rfl (hL 7 (by decide)) sh_7 rfl rfl (Nat.le_of_ble_eq_true rfl) (Dealer_deal_ok hL d x3 (-1) _ _ h1424) rfl ?_
          refine q_popI dX11_hours_49 rfl ?_
          refine q_iload_n dX11_hours_50 rfl rfl ?_
          refine q_aload_n dX11_hours_51 rfl rfl ?_
          refine q_getA dX11_hours_52 fl_X11_58 (hL 0 (by decide)) sh_0 (by decide) rfl rfl ?_
          refine q_getA dX11_hours_55 fl_X11_379 (hL 7 (by decide)) sh_7 (by decide) rfl rfl ?_
          refine q_iload_n dX11_hours_58 rfl rfl ?_
          obtain ⟨c1425, h⟩ := qk_some h
          refine q_iaload dX11_hours_59 (hL 45 (by decide)) sh_45 (qIx_0 c1425) (qIx_1 c1425) rfl ?_
          refine q_iconst dX11_hours_60 rfl rfl ?_
          refine q_jn (G := fun (t1427 : Int) => qW X (d + 2) yX11_hours cX11_hours 4 (some .int) 69 [(0, qr 0), (1, qi x1), (3, qi x3)] [qi t1427, qi x2] q1423.2 Q) h (fun t1427 h => ?_) (fun t1427 h hk3818 => ?_)
          · try dsimp only at h
            refine q_iadd dX11_hours_69 rfl ?_
            refine q_istore_n (lv' := [(2, qi (x2 + t1427)), (0, qr 0), (1, qi x1), (3, qi x3)]) dX11_hours_70 (by decide) rfl rfl ?_
            cases h
            exact q_pick [1, 2, 0, 3] rfl hk3817
          · skip
            obtain ⟨c1426, h⟩ := qk_some h
            refine q_icmp_ne (tgt := 68) dX11_hours_61 (by decide) rfl (qRb_R c1426) ⟨by decide, by decide⟩ (fun g => ?_) (fun g => ?_)
            · rw [if_neg (show ¬ ((q1423.2 45 (Int.toNat x1)) = (-1)) from g)] at h
              refine q_iconst dX11_hours_68 rfl rfl ?_
              cases h
              exact q_pick [0, 1, 3] rfl hk3818
            · rw [if_pos (show (q1423.2 45 (Int.toNat x1)) = (-1) from g)] at h
              refine q_iconst dX11_hours_64 rfl rfl ?_
              refine q_goto (pc' := 69) dX11_hours_65 (by decide) ?_
              cases h
              exact q_pick [0, 1, 3] rfl hk3818
set_option maxRecDepth 20000 in
theorem C_hours_ok {X : qX} (hL : ∀ c, c < 93 → c ∈ qLs X) (d : Nat) (a1 : Int) (S : qSto) (o : (Int × qSto)) (h : C_hours a1 S = some o) (Q : Option qV → qSto → Prop) (hQ : Q (some (qi o.1)) o.2) : qC X (d + 2) yX11_hours cX11_hours 4 (some .int) [qr 0, qi a1] S Q := by
  refine q_entry (lv := [(0, qr 0), (1, qi a1)]) pn_X11 (Nat.le_of_ble_eq_true rfl) rfl ?_
  unfold C_hours at h
  refine q_aload_n dX11_hours_0 rfl rfl ?_
  refine q_iload_n dX11_hours_1 rfl rfl ?_
  obtain ⟨q1415, h1416, h⟩ := Option.bind_eq_some_iff.mp h
  refine q_callVi (as := [qi a1]) (c := 0) dX11_hours_2 ml_X11_207 rfl rfl (hL 0 (by decide)) sh_0 rfl rfl (Nat.le_of_ble_eq_true rfl) (C_isCrane_ok hL (d + 1) a1 _ _ h1416) rfl ?_
  obtain ⟨c1417, h⟩ := qk_some h
  refine q_if_ne (tgt := 10) dX11_hours_5 (by decide) rfl (qRb_R c1417)  (fun g => ?_) (fun g => ?_)
  · rw [if_neg (show ¬ (q1415.1 = 0) from g)] at h
    refine q_aload_n dX11_hours_10 rfl rfl ?_
    refine q_getA dX11_hours_11 fl_X11_49 (hL 0 (by decide)) sh_0 (by decide) rfl rfl ?_
    obtain ⟨q1418, h1419, h⟩ := Option.bind_eq_some_iff.mp h
    refine q_callVv (as := []) (c := 6) dX11_hours_14 ml_X11_367 rfl rfl (hL 6 (by decide)) sh_6 rfl rfl (Nat.le_of_ble_eq_true rfl) (Stays_lineUp_ok hL d _ _ h1419) rfl ?_
    refine q_iconst dX11_hours_17 rfl rfl ?_
    refine q_istore_n (lv' := [(2, qi 0), (0, qr 0), (1, qi a1)]) dX11_hours_18 (by decide) rfl rfl ?_
    refine q_iconst dX11_hours_19 rfl rfl ?_
    refine q_istore_n (lv' := [(3, qi 0), (2, qi 0), (0, qr 0), (1, qi a1)]) dX11_hours_20 (by decide) rfl rfl ?_
    obtain ⟨q1429, h1430, h⟩ := Option.bind_eq_some_iff.mp h
    refine q_pick [2, 3, 1, 0] rfl (C_hours_L21_ok hL d qF a1 0 0 _ _ h1430 ?_)
    refine q_iload_n dX11_hours_77 rfl rfl ?_
    cases h
    exact q_ireturn dX11_hours_78 rfl hQ
  · rw [if_pos (show q1415.1 = 0 from g)] at h
    refine q_iconst dX11_hours_8 rfl rfl ?_
    cases h
    exact q_ireturn dX11_hours_9 rfl hQ
set_option maxRecDepth 20000 in
theorem Stays_movedAhead_ok {X : qX} (hL : ∀ c, c < 93 → c ∈ qLs X) (d : Nat) (a1 : Int) (a2 : Int) (S : qSto) (o : (Int × qSto)) (h : Stays_movedAhead a1 a2 S = some o) (Q : Option qV → qSto → Prop) (hQ : Q (some (qi o.1)) o.2) : qC X (d + 2) yX7_movedAhead cX7_movedAhead 4 (some .int) [qr 6, qi a1, qi a2] S Q := by
  refine q_entry (lv := [(0, qr 6), (1, qi a1), (2, qi a2)]) pn_X7 (Nat.le_of_ble_eq_true rfl) rfl ?_
  unfold Stays_movedAhead at h
  refine q_aload_n dX7_movedAhead_0 rfl rfl ?_
  refine q_iload_n dX7_movedAhead_1 rfl rfl ?_
  obtain ⟨q1439, h1440, h⟩ := Option.bind_eq_some_iff.mp h
  refine q_callVi (as := [qi a1]) (c := 6) dX7_movedAhead_2 ml_X7_50 rfl rfl (hL 6 (by decide)) sh_6 rfl rfl (Nat.le_of_ble_eq_true rfl) (Stays_has_ok hL (d + 1) a1 _ _ h1440) rfl ?_
  obtain ⟨c1441, h⟩ := qk_some h
  refine q_if_eq (tgt := 18) dX7_movedAhead_5 (by decide) rfl (qRb_R c1441)  (fun g => ?_) (fun g => ?_)
  · rw [if_pos (show q1439.1 = 0 from g)] at h
    refine q_iconst dX7_movedAhead_18 rfl rfl ?_
    cases h
    exact q_ireturn dX7_movedAhead_19 rfl hQ
  · rw [if_neg (show ¬ (q1439.1 = 0) from g)] at h
    refine q_iload_n dX7_movedAhead_8 rfl rfl ?_
    refine q_aload_n dX7_movedAhead_9 rfl rfl ?_
    refine q_getA dX7_movedAhead_10 fl_X7_18 (hL 6 (by decide)) sh_6 (by decide) rfl rfl ?_
    refine q_iload_n dX7_movedAhead_13 rfl rfl ?_
    obtain ⟨c1442, h⟩ := qk_some h
    refine q_iaload dX7_movedAhead_14 (hL 39 (by decide)) sh_39 (qIx_0 c1442) (qIx_1 c1442) rfl ?_
    obtain ⟨c1443, h⟩ := qk_some h
    obtain ⟨c1444, h⟩ := qk_some h
    refine q_icmp_gt (tgt := 20) dX7_movedAhead_15 (by decide) rfl (qRb_R c1443) (qRb_R c1444) (fun g => ?_) (fun g => ?_)
    · rw [if_pos (show (q1439.2 39 (Int.toNat a1)) < a2 from g)] at h
      refine q_aload_n dX7_movedAhead_20 rfl rfl ?_
      refine q_getA dX7_movedAhead_21 fl_X7_24 (hL 6 (by decide)) sh_6 (by decide) rfl rfl ?_
      refine q_iload_n dX7_movedAhead_24 rfl rfl ?_
      obtain ⟨c1445, h⟩ := qk_some h
      refine q_iaload dX7_movedAhead_25 (hL 41 (by decide)) sh_41 (qIx_0 c1445) (qIx_1 c1445) rfl ?_
      refine q_iload_n dX7_movedAhead_26 rfl rfl ?_
      refine q_aload_n dX7_movedAhead_27 rfl rfl ?_
      refine q_getA dX7_movedAhead_28 fl_X7_18 (hL 6 (by decide)) sh_6 (by decide) rfl rfl ?_
      refine q_iload_n dX7_movedAhead_31 rfl rfl ?_
      obtain ⟨c1446, h⟩ := qk_some h
      refine q_iaload dX7_movedAhead_32 (hL 39 (by decide)) sh_39 (qIx_0 c1446) (qIx_1 c1446) rfl ?_
      refine q_isub dX7_movedAhead_33 rfl ?_
      obtain ⟨q1447, h1448, h⟩ := Option.bind_eq_some_iff.mp h
      refine q_callSi (as := [qi (q1439.2 41 (Int.toNat a1)), qi (a2 - (q1439.2 39 (Int.toNat a1)))]) dX7_movedAhead_34 ml_X7_74 rfl rfl (Nat.le_of_ble_eq_true rfl) (Jm_min_ok hL (d + 1) (q1439.2 41 (Int.toNat a1)) (a2 - (q1439.2 39 (Int.toNat a1))) _ _ h1448) rfl ?_
      refine q_istore_n (lv' := [(3, qi q1447.1), (0, qr 6), (1, qi a1), (2, qi a2)]) dX7_movedAhead_37 (by decide) rfl rfl ?_
      refine q_aload_n dX7_movedAhead_38 rfl rfl ?_
      refine q_getA dX7_movedAhead_39 fl_X7_36 (hL 6 (by decide)) sh_6 (by decide) rfl rfl ?_
      refine q_iload_n dX7_movedAhead_42 rfl rfl ?_
      refine q_iconst dX7_movedAhead_43 rfl rfl ?_
      obtain ⟨q1449, h1450, h⟩ := Option.bind_eq_some_iff.mp h
      refine q_callVi (as := [qi a1, qi 3]) (c := 2) dX7_movedAhead_44 ml_X7_54 rfl rfl (hL 2 (by decide)) sh_2 rfl rfl (Nat.le_of_ble_eq_true rfl) (Told_contractOf_ok hL (d + 1) a1 3 _ _ h1450) rfl ?_
      refine q_iload_n dX7_movedAhead_47 rfl rfl ?_
      refine q_aload_n dX7_movedAhead_48 rfl rfl ?_
      refine q_getA dX7_movedAhead_49 fl_X7_36 (hL 6 (by decide)) sh_6 (by decide) rfl rfl ?_
      refine q_aload_n dX7_movedAhead_52 rfl rfl ?_
      refine q_getA dX7_movedAhead_53 fl_X7_21 (hL 6 (by decide)) sh_6 (by decide) rfl rfl ?_
      refine q_iload_n dX7_movedAhead_56 rfl rfl ?_
      obtain ⟨c1451, h⟩ := qk_some h
      refine q_iaload dX7_movedAhead_57 (hL 40 (by decide)) sh_40 (qIx_0 c1451) (qIx_1 c1451) rfl ?_
      obtain ⟨q1452, h1453, h⟩ := Option.bind_eq_some_iff.mp h
      refine q_callVi (as := [qi (q1449.2 40 (Int.toNat a1))]) (c := 2) dX7_movedAhead_58 ml_X7_111 rfl rfl (hL 2 (by decide)) sh_2 rfl rfl (Nat.le_of_ble_eq_true rfl) (Told_movesWith_ok hL d (q1449.2 40 (Int.toNat a1)) _ _ h1453) rfl ?_
      refine q_imul dX7_movedAhead_61 rfl ?_
      obtain ⟨q1454, h1455, h⟩ := Option.bind_eq_some_iff.mp h
      refine q_callSi (as := [qi q1449.1, qi (q1447.1 * q1452.1)]) dX7_movedAhead_62 ml_X7_74 rfl rfl (Nat.le_of_ble_eq_true rfl) (Jm_min_ok hL (d + 1) q1449.1 (q1447.1 * q1452.1) _ _ h1455) rfl ?_
      cases h
      exact q_ireturn dX7_movedAhead_65 rfl hQ
    · rw [if_neg (show ¬ ((q1439.2 39 (Int.toNat a1)) < a2) from g)] at h
      refine q_iconst dX7_movedAhead_18 rfl rfl ?_
      cases h
      exact q_ireturn dX7_movedAhead_19 rfl hQ
set_option maxRecDepth 20000 in
theorem C_left_ok {X : qX} (hL : ∀ c, c < 93 → c ∈ qLs X) (d : Nat) (a1 : Int) (a2 : Int) (S : qSto) (o : (Int × qSto)) (h : C_left a1 a2 S = some o) (Q : Option qV → qSto → Prop) (hQ : Q (some (qi o.1)) o.2) : qC X (d + 3) yX11_left cX11_left 3 (some .int) [qr 0, qi a1, qi a2] S Q := by
  refine q_entry (lv := [(0, qr 0), (1, qi a1), (2, qi a2)]) pn_X11 (Nat.le_of_ble_eq_true rfl) rfl ?_
  unfold C_left at h
  refine q_aload_n dX11_left_0 rfl rfl ?_
  refine q_iload_n dX11_left_1 rfl rfl ?_
  obtain ⟨q1431, h1432, h⟩ := Option.bind_eq_some_iff.mp h
  refine q_callVi (as := [qi a1]) (c := 0) dX11_left_2 ml_X11_216 rfl rfl (hL 0 (by decide)) sh_0 rfl rfl (Nat.le_of_ble_eq_true rfl) (C_isShip_ok hL (d + 2) a1 _ _ h1432) rfl ?_
  obtain ⟨c1433, h⟩ := qk_some h
  refine q_if_eq (tgt := 15) dX11_left_5 (by decide) rfl (qRb_R c1433)  (fun g => ?_) (fun g => ?_)
  · rw [if_pos (show q1431.1 = 0 from g)] at h
    refine q_iconst dX11_left_15 rfl rfl ?_
    cases h
    exact q_ireturn dX11_left_16 rfl hQ
  · rw [if_neg (show ¬ (q1431.1 = 0) from g)] at h
    refine q_iload_n dX11_left_8 rfl rfl ?_
    obtain ⟨q1434, h1435, h⟩ := Option.bind_eq_some_iff.mp h
    refine q_callSi (as := [qi a2]) dX11_left_9 ml_X11_194 rfl rfl (Nat.le_of_ble_eq_true rfl) (C_isSlot_ok hL (d + 2) a2 _ _ h1435) rfl ?_
    obtain ⟨c1436, h⟩ := qk_some h
    refine q_if_ne (tgt := 17) dX11_left_12 (by decide) rfl (qRb_R c1436)  (fun g => ?_) (fun g => ?_)
    · rw [if_neg (show ¬ (q1434.1 = 0) from g)] at h
      refine q_aload_n dX11_left_17 rfl rfl ?_
      refine q_getA dX11_left_18 fl_X11_16 (hL 0 (by decide)) sh_0 (by decide) rfl rfl ?_
      refine q_iload_n dX11_left_21 rfl rfl ?_
      refine q_iconst dX11_left_22 rfl rfl ?_
      obtain ⟨q1437, h1438, h⟩ := Option.bind_eq_some_iff.mp h
      refine q_callVi (as := [qi a1, qi 3]) (c := 2) dX11_left_23 ml_X11_219 rfl rfl (hL 2 (by decide)) sh_2 rfl rfl (Nat.le_of_ble_eq_true rfl) (Told_contractOf_ok hL (d + 2) a1 3 _ _ h1438) rfl ?_
      refine q_aload_n dX11_left_26 rfl rfl ?_
      refine q_getA dX11_left_27 fl_X11_49 (hL 0 (by decide)) sh_0 (by decide) rfl rfl ?_
      refine q_iload_n dX11_left_30 rfl rfl ?_
      refine q_iload_n dX11_left_31 rfl rfl ?_
      obtain ⟨q1456, h1457, h⟩ := Option.bind_eq_some_iff.mp h
      refine q_callVi (as := [qi a1, qi a2]) (c := 6) dX11_left_32 ml_X11_385 rfl rfl (hL 6 (by decide)) sh_6 rfl rfl (Nat.le_of_ble_eq_true rfl) (Stays_movedAhead_ok hL d a1 a2 _ _ h1457) rfl ?_
      refine q_isub dX11_left_35 rfl ?_
      cases h
      exact q_ireturn dX11_left_36 rfl hQ
    · rw [if_pos (show q1434.1 = 0 from g)] at h
      refine q_iconst dX11_left_15 rfl rfl ?_
      cases h
      exact q_ireturn dX11_left_16 rfl hQ
set_option maxRecDepth 20000 in
theorem C_movedIn_L10_ok {X : qX} (hL : ∀ c, c < 93 → c ∈ qLs X) (d : Nat) {Q : Option qV → qSto → Prop} : ∀ (n : Nat) (x2 : Int) (x3 : Int) (x4 : Int) (S : qSto) (o : (Int × qSto)), C_movedIn_L10 n x2 x3 x4 S = some o → (qW X (d + 3) yX11_movedIn cX11_movedIn 5 (some .int) 55 [(3, qi o.1)] [] o.2 Q) → qW X (d + 3) yX11_movedIn cX11_movedIn 5 (some .int) 10 [(0, qr 0), (2, qi x2), (3, qi x3), (4, qi x4)] [] S Q := by
  intro n
  induction n with
  | zero =>
    intro x2 x3 x4 S o h
    simp [C_movedIn_L10] at h
  | succ n ih =>
    intro x2 x3 x4 S o h hE
    rw [C_movedIn_L10] at h
    refine q_iload dX11_movedIn_10 rfl rfl ?_
    refine q_aload_n dX11_movedIn_12 rfl rfl ?_
    refine q_getA dX11_movedIn_13 fl_X11_16 (hL 0 (by decide)) sh_0 (by decide) rfl rfl ?_
    refine q_getI dX11_movedIn_16 fl_X11_158 (hL 2 (by decide)) sh_2 (by decide) rfl rfl ?_
    obtain ⟨c1462, h⟩ := qk_some h
    obtain ⟨c1463, h⟩ := qk_some h
    refine q_icmp_ge (tgt := 55) dX11_movedIn_19 (by decide) rfl (qRb_R c1462) (qRb_R c1463) (fun g => ?_) (fun g => ?_)
    · rw [if_pos (show (S 2 12) ≤ x4 from g)] at h
      cases h
      exact q_pick [2] rfl (hE)
    · rw [if_neg (show ¬ ((S 2 12) ≤ x4) from g)] at h
      refine q_iload_n dX11_movedIn_22 rfl rfl ?_
      refine q_aload_n dX11_movedIn_23 rfl rfl ?_
      refine q_getA dX11_movedIn_24 fl_X11_49 (hL 0 (by decide)) sh_0 (by decide) rfl rfl ?_
      refine q_iload dX11_movedIn_27 rfl rfl ?_
      refine q_iload_n dX11_movedIn_29 rfl rfl ?_
      refine q_bipush dX11_movedIn_30 (by decide) rfl ?_
      refine q_iadd dX11_movedIn_32 rfl ?_
      obtain ⟨q1464, h1465, h⟩ := Option.bind_eq_some_iff.mp h
      refine q_callVi (as := [qi x4, qi (x2 + 16)]) (c := 6) dX11_movedIn_33 ml_X11_385 rfl rfl (hL 6 (by decide)) sh_6 rfl rfl (Nat.le_of_ble_eq_true rfl) (Stays_movedAhead_ok hL d x4 (x2 + 16) _ _ h1465) rfl ?_
      refine q_aload_n dX11_movedIn_36 rfl rfl ?_
      refine q_getA dX11_movedIn_37 fl_X11_49 (hL 0 (by decide)) sh_0 (by decide) rfl rfl ?_
      refine q_iload dX11_movedIn_40 rfl rfl ?_
      refine q_iload_n dX11_movedIn_42 rfl rfl ?_
      obtain ⟨q1466, h1467, h⟩ := Option.bind_eq_some_iff.mp h
      refine q_callVi (as := [qi x4, qi x2]) (c := 6) dX11_movedIn_43 ml_X11_385 rfl rfl (hL 6 (by decide)) sh_6 rfl rfl (Nat.le_of_ble_eq_true rfl) (Stays_movedAhead_ok hL d x4 x2 _ _ h1467) rfl ?_
      refine q_isub dX11_movedIn_46 rfl ?_
      refine q_iadd dX11_movedIn_47 rfl ?_
      refine q_istore_n (lv' := [(3, qi (x3 + (q1464.1 - q1466.1))), (0, qr 0), (2, qi x2), (4, qi x4)]) dX11_movedIn_48 (by decide) rfl rfl ?_
      refine q_iinc (lv' := [(4, qi (x4 + 1)), (3, qi (x3 + (q1464.1 - q1466.1))), (0, qr 0), (2, qi x2)]) dX11_movedIn_49 (by decide) rfl rfl rfl ?_
      refine q_goto (pc' := 10) dX11_movedIn_52 (by decide) ?_
      exact q_pick [2, 3, 1, 0] rfl (ih x2 (x3 + (q1464.1 - q1466.1)) (x4 + 1) _ _ h hE)
set_option maxRecDepth 20000 in
theorem C_movedIn_ok {X : qX} (hL : ∀ c, c < 93 → c ∈ qLs X) (d : Nat) (a1 : Int) (S : qSto) (o : (Int × qSto)) (h : C_movedIn a1 S = some o) (Q : Option qV → qSto → Prop) (hQ : Q (some (qi o.1)) o.2) : qC X (d + 3) yX11_movedIn cX11_movedIn 5 (some .int) [qr 0, qi a1] S Q := by
  refine q_entry (lv := [(0, qr 0), (1, qi a1)]) pn_X11 (Nat.le_of_ble_eq_true rfl) rfl ?_
  unfold C_movedIn at h
  refine q_iload_n dX11_movedIn_0 rfl rfl ?_
  refine q_bipush dX11_movedIn_1 (by decide) rfl ?_
  refine q_imul dX11_movedIn_3 rfl ?_
  refine q_istore_n (lv' := [(2, qi (a1 * 16)), (0, qr 0), (1, qi a1)]) dX11_movedIn_4 (by decide) rfl rfl ?_
  refine q_iconst dX11_movedIn_5 rfl rfl ?_
  refine q_istore_n (lv' := [(3, qi 0), (2, qi (a1 * 16)), (0, qr 0), (1, qi a1)]) dX11_movedIn_6 (by decide) rfl rfl ?_
  refine q_iconst dX11_movedIn_7 rfl rfl ?_
  refine q_istore (lv' := [(4, qi 0), (3, qi 0), (2, qi (a1 * 16)), (0, qr 0), (1, qi a1)]) dX11_movedIn_8 (by decide) rfl rfl ?_
  obtain ⟨q1468, h1469, h⟩ := Option.bind_eq_some_iff.mp h
  refine q_pick [3, 2, 1, 0] rfl (C_movedIn_L10_ok hL d qF (a1 * 16) 0 0 _ _ h1469 ?_)
  refine q_iload_n dX11_movedIn_55 rfl rfl ?_
  cases h
  exact q_ireturn dX11_movedIn_56 rfl hQ
set_option maxRecDepth 20000 in
theorem Stays_busiestIn_L5_ok {X : qX} (hL : ∀ c, c < 93 → c ∈ qLs X) (d : Nat) {Q : Option qV → qSto → Prop} : ∀ (n : Nat) (x2 : Int) (x3 : Int) (x4 : Int) (S : qSto) (o : (Int × qSto)), Stays_busiestIn_L5 n x2 x3 x4 S = some o → (qW X (d + 1) yX7_busiestIn cX7_busiestIn 5 (some .int) 29 [(3, qi o.1)] [] o.2 Q) → qW X (d + 1) yX7_busiestIn cX7_busiestIn 5 (some .int) 5 [(0, qr 6), (2, qi x2), (3, qi x3), (4, qi x4)] [] S Q := by
  intro n
  induction n with
  | zero =>
    intro x2 x3 x4 S o h
    simp [Stays_busiestIn_L5] at h
  | succ n ih =>
    intro x2 x3 x4 S o h hE
    rw [Stays_busiestIn_L5] at h
    refine q_iload dX7_busiestIn_5 rfl rfl ?_
    refine q_iload_n dX7_busiestIn_7 rfl rfl ?_
    obtain ⟨c1472, h⟩ := qk_some h
    obtain ⟨c1473, h⟩ := qk_some h
    refine q_icmp_ge (tgt := 29) dX7_busiestIn_8 (by decide) rfl (qRb_R c1472) (qRb_R c1473) (fun g => ?_) (fun g => ?_)
    · rw [if_pos (show x2 ≤ x4 from g)] at h
      cases h
      exact q_pick [2] rfl (hE)
    · rw [if_neg (show ¬ (x2 ≤ x4) from g)] at h
      refine q_iload_n dX7_busiestIn_11 rfl rfl ?_
      refine q_aload_n dX7_busiestIn_12 rfl rfl ?_
      refine q_getA dX7_busiestIn_13 fl_X7_30 (hL 6 (by decide)) sh_6 (by decide) rfl rfl ?_
      refine q_iload dX7_busiestIn_16 rfl rfl ?_
      obtain ⟨c1474, h⟩ := qk_some h
      refine q_iaload dX7_busiestIn_18 (hL 43 (by decide)) sh_43 (qIx_0 c1474) (qIx_1 c1474) rfl ?_
      obtain ⟨q1475, h1476, h⟩ := Option.bind_eq_some_iff.mp h
      refine q_callSi (as := [qi x3, qi (S 43 (Int.toNat x4))]) dX7_busiestIn_19 ml_X7_108 rfl rfl (Nat.le_of_ble_eq_true rfl) (Jm_max_ok hL d x3 (S 43 (Int.toNat x4)) _ _ h1476) rfl ?_
      refine q_istore_n (lv' := [(3, qi q1475.1), (0, qr 6), (2, qi x2), (4, qi x4)]) dX7_busiestIn_22 (by decide) rfl rfl ?_
      refine q_iinc (lv' := [(4, qi (x4 + 1)), (3, qi q1475.1), (0, qr 6), (2, qi x2)]) dX7_busiestIn_23 (by decide) rfl rfl rfl ?_
      refine q_goto (pc' := 5) dX7_busiestIn_26 (by decide) ?_
      exact q_pick [2, 3, 1, 0] rfl (ih x2 q1475.1 (x4 + 1) _ _ h hE)
set_option maxRecDepth 20000 in
theorem Stays_busiestIn_ok {X : qX} (hL : ∀ c, c < 93 → c ∈ qLs X) (d : Nat) (a1 : Int) (a2 : Int) (S : qSto) (o : (Int × qSto)) (h : Stays_busiestIn a1 a2 S = some o) (Q : Option qV → qSto → Prop) (hQ : Q (some (qi o.1)) o.2) : qC X (d + 1) yX7_busiestIn cX7_busiestIn 5 (some .int) [qr 6, qi a1, qi a2] S Q := by
  refine q_entry (lv := [(0, qr 6), (1, qi a1), (2, qi a2)]) pn_X7 (Nat.le_of_ble_eq_true rfl) rfl ?_
  unfold Stays_busiestIn at h
  refine q_iconst dX7_busiestIn_0 rfl rfl ?_
  refine q_istore_n (lv' := [(3, qi 0), (0, qr 6), (1, qi a1), (2, qi a2)]) dX7_busiestIn_1 (by decide) rfl rfl ?_
  refine q_iload_n dX7_busiestIn_2 rfl rfl ?_
  refine q_istore (lv' := [(4, qi a1), (3, qi 0), (0, qr 6), (1, qi a1), (2, qi a2)]) dX7_busiestIn_3 (by decide) rfl rfl ?_
  obtain ⟨q1477, h1478, h⟩ := Option.bind_eq_some_iff.mp h
  refine q_pick [2, 4, 1, 0] rfl (Stays_busiestIn_L5_ok hL d qF a2 0 a1 _ _ h1478 ?_)
  refine q_iload_n dX7_busiestIn_29 rfl rfl ?_
  cases h
  exact q_ireturn dX7_busiestIn_30 rfl hQ
set_option maxRecDepth 20000 in
theorem C_shift_ok {X : qX} (hL : ∀ c, c < 93 → c ∈ qLs X) (d : Nat) (a1 : Int) (a2 : Int) (a3 : Int) (S : qSto) (o : (Int × qSto)) (h : C_shift a1 a2 a3 S = some o) (Q : Option qV → qSto → Prop) (hQ : Q (some (qi o.1)) o.2) : qC X (d + 4) yX11_shift cX11_shift 7 (some .int) [qr 0, qi a1, qi a2, qi a3] S Q := by
  refine q_entry (lv := [(0, qr 0), (1, qi a1), (2, qi a2), (3, qi a3)]) pn_X11 (Nat.le_of_ble_eq_true rfl) rfl ?_
  unfold C_shift at h
  refine q_iload_n dX11_shift_0 rfl rfl ?_
  refine q_iload_n dX11_shift_1 rfl rfl ?_
  obtain ⟨q1458, h1459, h⟩ := Option.bind_eq_some_iff.mp h
  refine q_callSi (as := [qi a1, qi a2]) dX11_shift_2 ml_X11_200 rfl rfl (Nat.le_of_ble_eq_true rfl) (C_isShift_ok hL (d + 3) a1 a2 _ _ h1459) rfl ?_
  obtain ⟨c1460, h⟩ := qk_some h
  refine q_if_ne (tgt := 10) dX11_shift_5 (by decide) rfl (qRb_R c1460)  (fun g => ?_) (fun g => ?_)
  · rw [if_neg (show ¬ (q1458.1 = 0) from g)] at h
    refine q_iload_n dX11_shift_10 rfl rfl ?_
    refine q_iconst dX11_shift_11 rfl rfl ?_
    refine q_imul dX11_shift_12 rfl ?_
    refine q_iload_n dX11_shift_13 rfl rfl ?_
    refine q_iadd dX11_shift_14 rfl ?_
    refine q_istore (lv' := [(4, qi ((a1 * 3) + a2)), (0, qr 0), (1, qi a1), (2, qi a2), (3, qi a3)]) dX11_shift_15 (by decide) rfl rfl ?_
    refine q_iload dX11_shift_17 rfl rfl ?_
    refine q_bipush dX11_shift_19 (by decide) rfl ?_
    refine q_imul dX11_shift_21 rfl ?_
    refine q_istore (lv' := [(5, qi (((a1 * 3) + a2) * 16)), (4, qi ((a1 * 3) + a2)), (0, qr 0), (1, qi a1), (2, qi a2), (3, qi a3)]) dX11_shift_22 (by decide) rfl rfl ?_
    refine q_iload dX11_shift_24 rfl rfl ?_
    refine q_bipush dX11_shift_26 (by decide) rfl ?_
    refine q_iadd dX11_shift_28 rfl ?_
    refine q_istore (lv' := [(6, qi ((((a1 * 3) + a2) * 16) + 16)), (5, qi (((a1 * 3) + a2) * 16)), (4, qi ((a1 * 3) + a2)), (0, qr 0), (1, qi a1), (2, qi a2), (3, qi a3)]) dX11_shift_29 (by decide) rfl rfl ?_
    refine q_iload_n dX11_shift_31 rfl rfl ?_
    obtain ⟨c1461, h⟩ := qk_some h
    by_cases e3819 : a3 = 0
    · rw [if_pos e3819] at h
      refine q_tsw (tgt := 120) dX11_shift_32 (qRb_R c1461) (by decide) (fun g => absurd g (by rw [e3819]; decide)) (fun _ _ => ⟨32, 64, by rw [e3819]; rfl, by decide, ?_⟩)
      refine q_aload_n dX11_shift_64 rfl rfl ?_
      refine q_iload dX11_shift_65 rfl rfl ?_
      obtain ⟨q1470, h1471, h⟩ := Option.bind_eq_some_iff.mp h
      refine q_callVi (as := [qi ((a1 * 3) + a2)]) (c := 0) dX11_shift_67 ml_X11_388 rfl rfl (hL 0 (by decide)) sh_0 rfl rfl (Nat.le_of_ble_eq_true rfl) (C_movedIn_ok hL d ((a1 * 3) + a2) _ _ h1471) rfl ?_
      cases h
      exact q_ireturn dX11_shift_70 rfl hQ
    · rw [if_neg e3819] at h
      by_cases e3820 : a3 = 1
      · rw [if_pos e3820] at h
        refine q_tsw (tgt := 120) dX11_shift_32 (qRb_R c1461) (by decide) (fun g => absurd g (by rw [e3820]; decide)) (fun _ _ => ⟨39, 71, by rw [e3820]; rfl, by decide, ?_⟩)
        refine q_aload_n dX11_shift_71 rfl rfl ?_
        refine q_getA dX11_shift_72 fl_X11_49 (hL 0 (by decide)) sh_0 (by decide) rfl rfl ?_
        refine q_iload dX11_shift_75 rfl rfl ?_
        refine q_iload dX11_shift_77 rfl rfl ?_
        obtain ⟨q1479, h1480, h⟩ := Option.bind_eq_some_iff.mp h
        refine q_callVi (as := [qi (((a1 * 3) + a2) * 16), qi ((((a1 * 3) + a2) * 16) + 16)]) (c := 6) dX11_shift_79 ml_X11_391 rfl rfl (hL 6 (by decide)) sh_6 rfl rfl (Nat.le_of_ble_eq_true rfl) (Stays_busiestIn_ok hL (d + 2) (((a1 * 3) + a2) * 16) ((((a1 * 3) + a2) * 16) + 16) _ _ h1480) rfl ?_
        cases h
        exact q_ireturn dX11_shift_82 rfl hQ
      · rw [if_neg e3820] at h
        by_cases e3821 : a3 = 2
        · rw [if_pos e3821] at h
          refine q_tsw (tgt := 120) dX11_shift_32 (qRb_R c1461) (by decide) (fun g => absurd g (by rw [e3821]; decide)) (fun _ _ => ⟨51, 83, by rw [e3821]; rfl, by decide, ?_⟩)
          refine q_aload_n dX11_shift_83 rfl rfl ?_
          refine q_getA dX11_shift_84 fl_X11_49 (hL 0 (by decide)) sh_0 (by decide) rfl rfl ?_
          refine q_iload dX11_shift_87 rfl rfl ?_
          refine q_iload dX11_shift_89 rfl rfl ?_
          obtain ⟨q1481, h1482, h⟩ := Option.bind_eq_some_iff.mp h
          refine q_callVi (as := [qi (((a1 * 3) + a2) * 16), qi ((((a1 * 3) + a2) * 16) + 16)]) (c := 6) dX11_shift_91 ml_X11_174 rfl rfl (hL 6 (by decide)) sh_6 rfl rfl (Nat.le_of_ble_eq_true rfl) (Stays_busyIn_ok hL (d + 3) (((a1 * 3) + a2) * 16) ((((a1 * 3) + a2) * 16) + 16) _ _ h1482) rfl ?_
          cases h
          exact q_ireturn dX11_shift_94 rfl hQ
        · rw [if_neg e3821] at h
          by_cases e3822 : a3 = 3
          · rw [if_pos e3822] at h
            refine q_tsw (tgt := 120) dX11_shift_32 (qRb_R c1461) (by decide) (fun g => absurd g (by rw [e3822]; decide)) (fun _ _ => ⟨63, 95, by rw [e3822]; rfl, by decide, ?_⟩)
            refine q_bipush dX11_shift_95 (by decide) rfl ?_
            refine q_aload_n dX11_shift_97 rfl rfl ?_
            refine q_getA dX11_shift_98 fl_X11_16 (hL 0 (by decide)) sh_0 (by decide) rfl rfl ?_
            refine q_iload dX11_shift_101 rfl rfl ?_
            obtain ⟨q1483, h1484, h⟩ := Option.bind_eq_some_iff.mp h
            refine q_callVi (as := [qi ((a1 * 3) + a2)]) (c := 2) dX11_shift_103 ml_X11_204 rfl rfl (hL 2 (by decide)) sh_2 rfl rfl (Nat.le_of_ble_eq_true rfl) (Told_gangsIn_ok hL (d + 3) ((a1 * 3) + a2) _ _ h1484) rfl ?_
            refine q_imul dX11_shift_106 rfl ?_
            refine q_aload_n dX11_shift_107 rfl rfl ?_
            refine q_getA dX11_shift_108 fl_X11_49 (hL 0 (by decide)) sh_0 (by decide) rfl rfl ?_
            refine q_iload dX11_shift_111 rfl rfl ?_
            refine q_iload dX11_shift_113 rfl rfl ?_
            obtain ⟨q1485, h1486, h⟩ := Option.bind_eq_some_iff.mp h
            refine q_callVi (as := [qi (((a1 * 3) + a2) * 16), qi ((((a1 * 3) + a2) * 16) + 16)]) (c := 6) dX11_shift_115 ml_X11_174 rfl rfl (hL 6 (by decide)) sh_6 rfl rfl (Nat.le_of_ble_eq_true rfl) (Stays_busyIn_ok hL (d + 3) (((a1 * 3) + a2) * 16) ((((a1 * 3) + a2) * 16) + 16) _ _ h1486) rfl ?_
            refine q_isub dX11_shift_118 rfl ?_
            cases h
            exact q_ireturn dX11_shift_119 rfl hQ
          · rw [if_neg e3822] at h
            refine q_tsw (tgt := 120) dX11_shift_32 (qRb_R c1461) (by decide) (fun _ => ?_) (fun g1 g2 => absurd g1 (by omega))
            refine q_iconst dX11_shift_120 rfl rfl ?_
            cases h
            exact q_ireturn dX11_shift_121 rfl hQ
  · rw [if_pos (show q1458.1 = 0 from g)] at h
    refine q_iconst dX11_shift_8 rfl rfl ?_
    cases h
    exact q_ireturn dX11_shift_9 rfl hQ
set_option maxRecDepth 20000 in
theorem C_busiest_L18_ok {X : qX} (hL : ∀ c, c < 93 → c ∈ qLs X) (d : Nat) {Q : Option qV → qSto → Prop} : ∀ (n : Nat) (x1 : Int) (x2 : Int) (x3 : Int) (x4 : Int) (S : qSto) (o : (Int × Int × qSto)), C_busiest_L18 n x2 x3 x4 S = some o → (qW X (d + 4) yX11_busiest cX11_busiest 6 (some .int) 51 [(1, qi x1), (2, qi o.1), (3, qi o.2.1)] [] o.2.2 Q) → qW X (d + 4) yX11_busiest cX11_busiest 6 (some .int) 18 [(0, qr 0), (1, qi x1), (2, qi x2), (3, qi x3), (4, qi x4)] [] S Q := by
  intro n
  induction n with
  | zero =>
    intro x1 x2 x3 x4 S o h
    simp [C_busiest_L18] at h
  | succ n ih =>
    intro x1 x2 x3 x4 S o h hE
    rw [C_busiest_L18] at h
    refine q_iload dX11_busiest_18 rfl rfl ?_
    refine q_bipush dX11_busiest_20 (by decide) rfl ?_
    obtain ⟨c1489, h⟩ := qk_some h
    refine q_icmp_ge (tgt := 51) dX11_busiest_22 (by decide) rfl (qRb_R c1489) ⟨by decide, by decide⟩ (fun g => ?_) (fun g => ?_)
    · rw [if_pos (show 21 ≤ x4 from g)] at h
      cases h
      exact q_pick [1, 2, 3] rfl (hE)
    · rw [if_neg (show ¬ (21 ≤ x4) from g)] at h
      refine q_aload_n dX11_busiest_25 rfl rfl ?_
      refine q_iload dX11_busiest_26 rfl rfl ?_
      obtain ⟨q1490, h1491, h⟩ := Option.bind_eq_some_iff.mp h
      refine q_callVi (as := [qi x4]) (c := 0) dX11_busiest_28 ml_X11_388 rfl rfl (hL 0 (by decide)) sh_0 rfl rfl (Nat.le_of_ble_eq_true rfl) (C_movedIn_ok hL d x4 _ _ h1491) rfl ?_
      refine q_istore (lv' := [(5, qi q1490.1), (0, qr 0), (1, qi x1), (2, qi x2), (3, qi x3), (4, qi x4)]) dX11_busiest_31 (by decide) rfl rfl ?_
      refine q_iload dX11_busiest_33 rfl rfl ?_
      refine q_iload_n dX11_busiest_35 rfl rfl ?_
      refine q_jn (G := fun (t1494 : (Int × Int)) => qW X (d + 4) yX11_busiest cX11_busiest 6 (some .int) 45 [(0, qr 0), (1, qi x1), (2, qi t1494.1), (3, qi t1494.2), (4, qi x4)] [] q1490.2 Q) h (fun t1494 h => ?_) (fun t1494 h hk3823 => ?_)
      · try dsimp only at h
        refine q_iinc (lv' := [(4, qi (x4 + 1)), (0, qr 0), (1, qi x1), (2, qi t1494.1), (3, qi t1494.2)]) dX11_busiest_45 (by decide) rfl rfl rfl ?_
        refine q_goto (pc' := 18) dX11_busiest_48 (by decide) ?_
        exact q_pick [1, 2, 3, 4, 0] rfl (ih x1 t1494.1 t1494.2 (x4 + 1) _ _ h hE)
      · skip
        obtain ⟨c1492, h⟩ := qk_some h
        obtain ⟨c1493, h⟩ := qk_some h
        refine q_icmp_le (tgt := 45) dX11_busiest_36 (by decide) rfl (qRb_R c1492) (qRb_R c1493) (fun g => ?_) (fun g => ?_)
        · rw [if_pos (show q1490.1 ≤ x3 from g)] at h
          cases h
          exact q_pick [1, 2, 3, 4, 5] rfl hk3823
        · rw [if_neg (show ¬ (q1490.1 ≤ x3) from g)] at h
          refine q_iload dX11_busiest_39 rfl rfl ?_
          refine q_istore_n (lv' := [(2, qi x4), (5, qi q1490.1), (0, qr 0), (1, qi x1), (3, qi x3), (4, qi x4)]) dX11_busiest_41 (by decide) rfl rfl ?_
          refine q_iload dX11_busiest_42 rfl rfl ?_
          refine q_istore_n (lv' := [(3, qi q1490.1), (2, qi x4), (5, qi q1490.1), (0, qr 0), (1, qi x1), (4, qi x4)]) dX11_busiest_44 (by decide) rfl rfl ?_
          cases h
          exact q_pick [3, 4, 1, 0, 5] rfl hk3823
set_option maxRecDepth 20000 in
theorem C_busiest_ok {X : qX} (hL : ∀ c, c < 93 → c ∈ qLs X) (d : Nat) (a1 : Int) (S : qSto) (o : (Int × qSto)) (h : C_busiest a1 S = some o) (Q : Option qV → qSto → Prop) (hQ : Q (some (qi o.1)) o.2) : qC X (d + 4) yX11_busiest cX11_busiest 6 (some .int) [qr 0, qi a1] S Q := by
  refine q_entry (lv := [(0, qr 0), (1, qi a1)]) pn_X11 (Nat.le_of_ble_eq_true rfl) rfl ?_
  unfold C_busiest at h
  refine q_iload_n dX11_busiest_0 rfl rfl ?_
  obtain ⟨c1487, h⟩ := qk_some h
  refine q_if_lt (tgt := 9) dX11_busiest_1 (by decide) rfl (qRb_R c1487)  (fun g => ?_) (fun g => ?_)
  · rw [if_pos (show a1 < 0 from g)] at h
    refine q_iconst dX11_busiest_9 rfl rfl ?_
    cases h
    exact q_ireturn dX11_busiest_10 rfl hQ
  · rw [if_neg (show ¬ (a1 < 0) from g)] at h
    refine q_iload_n dX11_busiest_4 rfl rfl ?_
    refine q_iconst dX11_busiest_5 rfl rfl ?_
    obtain ⟨c1488, h⟩ := qk_some h
    refine q_icmp_le (tgt := 11) dX11_busiest_6 (by decide) rfl (qRb_R c1488) ⟨by decide, by decide⟩ (fun g => ?_) (fun g => ?_)
    · rw [if_pos (show a1 ≤ 1 from g)] at h
      refine q_iconst dX11_busiest_11 rfl rfl ?_
      refine q_istore_n (lv' := [(2, qi 0), (0, qr 0), (1, qi a1)]) dX11_busiest_12 (by decide) rfl rfl ?_
      refine q_iconst dX11_busiest_13 rfl rfl ?_
      refine q_istore_n (lv' := [(3, qi 0), (2, qi 0), (0, qr 0), (1, qi a1)]) dX11_busiest_14 (by decide) rfl rfl ?_
      refine q_iconst dX11_busiest_15 rfl rfl ?_
      refine q_istore (lv' := [(4, qi 0), (3, qi 0), (2, qi 0), (0, qr 0), (1, qi a1)]) dX11_busiest_16 (by decide) rfl rfl ?_
      obtain ⟨q1495, h1496, h⟩ := Option.bind_eq_some_iff.mp h
      refine q_pick [3, 4, 2, 1, 0] rfl (C_busiest_L18_ok hL d qF a1 0 0 0 _ _ h1496 ?_)
      refine q_iload_n dX11_busiest_51 rfl rfl ?_
      obtain ⟨c1497, h⟩ := qk_some h
      refine q_if_ne (tgt := 59) dX11_busiest_52 (by decide) rfl (qRb_R c1497)  (fun g => ?_) (fun g => ?_)
      · rw [if_neg (show ¬ (a1 = 0) from g)] at h
        refine q_iload_n dX11_busiest_59 rfl rfl ?_
        cases h
        exact q_ireturn dX11_busiest_60 rfl hQ
      · rw [if_pos (show a1 = 0 from g)] at h
        refine q_iload_n dX11_busiest_55 rfl rfl ?_
        refine q_goto (pc' := 60) dX11_busiest_56 (by decide) ?_
        cases h
        exact q_ireturn dX11_busiest_60 rfl hQ
    · rw [if_neg (show ¬ (a1 ≤ 1) from g)] at h
      refine q_iconst dX11_busiest_9 rfl rfl ?_
      cases h
      exact q_ireturn dX11_busiest_10 rfl hQ
set_option maxRecDepth 20000 in
theorem C_without_L21_ok {X : qX} (hL : ∀ c, c < 93 → c ∈ qLs X) (d : Nat) {Q : Option qV → qSto → Prop} : ∀ (n : Nat) (x1 : Int) (x2 : Int) (x3 : Int) (S : qSto) (o : (Int × qSto)), C_without_L21 n x1 x2 x3 S = some o → (qW X (d + 2) yX11_without cX11_without 4 (some .int) 61 [(2, qi o.1)] [] o.2 Q) → qW X (d + 2) yX11_without cX11_without 4 (some .int) 21 [(0, qr 0), (1, qi x1), (2, qi x2), (3, qi x3)] [] S Q := by
  intro n
  induction n with
  | zero =>
    intro x1 x2 x3 S o h
    simp [C_without_L21] at h
  | succ n ih =>
    intro x1 x2 x3 S o h hE
    rw [C_without_L21] at h
    refine q_iload_n dX11_without_21 rfl rfl ?_
    refine q_sipush dX11_without_22 (by decide) rfl ?_
    obtain ⟨c1503, h⟩ := qk_some h
    refine q_icmp_ge (tgt := 61) dX11_without_25 (by decide) rfl (qRb_R c1503) ⟨by decide, by decide⟩ (fun g => ?_) (fun g => ?_)
    · rw [if_pos (show 336 ≤ x3 from g)] at h
      cases h
      exact q_pick [2] rfl (hE)
    · rw [if_neg (show ¬ (336 ≤ x3) from g)] at h
      refine q_aload_n dX11_without_28 rfl rfl ?_
      refine q_getA dX11_without_29 fl_X11_49 (hL 0 (by decide)) sh_0 (by decide) rfl rfl ?_
      refine q_getA dX11_without_32 fl_X11_382 (hL 6 (by decide)) sh_6 (by decide) rfl rfl ?_
      refine q_iload_n dX11_without_35 rfl rfl ?_
      obtain ⟨c1504, h⟩ := qk_some h
      refine q_iaload dX11_without_36 (hL 43 (by decide)) sh_43 (qIx_0 c1504) (qIx_1 c1504) rfl ?_
      refine q_jn (G := fun (t1509 : (Int × qSto)) => qW X (d + 2) yX11_without cX11_without 4 (some .int) 55 [(0, qr 0), (1, qi x1), (2, qi t1509.1), (3, qi x3)] [] t1509.2 Q) h (fun t1509 h => ?_) (fun t1509 h hk3824 => ?_)
      · try dsimp only at h
        refine q_iinc (lv' := [(3, qi (x3 + 1)), (0, qr 0), (1, qi x1), (2, qi t1509.1)]) dX11_without_55 (by decide) rfl rfl rfl ?_
        refine q_goto (pc' := 21) dX11_without_58 (by decide) ?_
        exact q_pick [1, 2, 3, 0] rfl (ih x1 t1509.1 (x3 + 1) _ _ h hE)
      · skip
        obtain ⟨c1505, h⟩ := qk_some h
        refine q_if_le (tgt := 55) dX11_without_37 (by decide) rfl (qRb_R c1505)  (fun g => ?_) (fun g => ?_)
        · rw [if_pos (show (S 43 (Int.toNat x3)) ≤ 0 from g)] at h
          cases h
          exact q_pick [0, 1, 2, 3] rfl hk3824
        · rw [if_neg (show ¬ ((S 43 (Int.toNat x3)) ≤ 0) from g)] at h
          refine q_aload_n dX11_without_40 rfl rfl ?_
          refine q_getA dX11_without_41 fl_X11_58 (hL 0 (by decide)) sh_0 (by decide) rfl rfl ?_
          refine q_iload_n dX11_without_44 rfl rfl ?_
          refine q_iload_n dX11_without_45 rfl rfl ?_
          obtain ⟨q1506, h1507, h⟩ := Option.bind_eq_some_iff.mp h
          refine q_callVi (as := [qi x3, qi x1]) (c := 7) dX11_without_46 ml_X11_376 rfl rfl (hL 7 (by decide)) sh_7 rfl rfl (Nat.le_of_ble_eq_true rfl) (Dealer_deal_ok hL d x3 x1 _ _ h1507) rfl ?_
          obtain ⟨c1508, h⟩ := qk_some h
          refine q_if_ne (tgt := 55) dX11_without_49 (by decide) rfl (qRb_R c1508)  (fun g => ?_) (fun g => ?_)
          · rw [if_neg (show ¬ (q1506.1 = 0) from g)] at h
            cases h
            exact q_pick [0, 1, 2, 3] rfl hk3824
          · rw [if_pos (show q1506.1 = 0 from g)] at h
            refine q_iinc (lv' := [(2, qi (x2 + 1)), (0, qr 0), (1, qi x1), (3, qi x3)]) dX11_without_52 (by decide) rfl rfl rfl ?_
            cases h
            exact q_pick [1, 2, 0, 3] rfl hk3824
set_option maxRecDepth 20000 in
theorem C_without_ok {X : qX} (hL : ∀ c, c < 93 → c ∈ qLs X) (d : Nat) (a1 : Int) (S : qSto) (o : (Int × qSto)) (h : C_without a1 S = some o) (Q : Option qV → qSto → Prop) (hQ : Q (some (qi o.1)) o.2) : qC X (d + 2) yX11_without cX11_without 4 (some .int) [qr 0, qi a1] S Q := by
  refine q_entry (lv := [(0, qr 0), (1, qi a1)]) pn_X11 (Nat.le_of_ble_eq_true rfl) rfl ?_
  unfold C_without at h
  refine q_aload_n dX11_without_0 rfl rfl ?_
  refine q_iload_n dX11_without_1 rfl rfl ?_
  obtain ⟨q1498, h1499, h⟩ := Option.bind_eq_some_iff.mp h
  refine q_callVi (as := [qi a1]) (c := 0) dX11_without_2 ml_X11_207 rfl rfl (hL 0 (by decide)) sh_0 rfl rfl (Nat.le_of_ble_eq_true rfl) (C_isCrane_ok hL (d + 1) a1 _ _ h1499) rfl ?_
  obtain ⟨c1500, h⟩ := qk_some h
  refine q_if_ne (tgt := 10) dX11_without_5 (by decide) rfl (qRb_R c1500)  (fun g => ?_) (fun g => ?_)
  · rw [if_neg (show ¬ (q1498.1 = 0) from g)] at h
    refine q_aload_n dX11_without_10 rfl rfl ?_
    refine q_getA dX11_without_11 fl_X11_49 (hL 0 (by decide)) sh_0 (by decide) rfl rfl ?_
    obtain ⟨q1501, h1502, h⟩ := Option.bind_eq_some_iff.mp h
    refine q_callVv (as := []) (c := 6) dX11_without_14 ml_X11_367 rfl rfl (hL 6 (by decide)) sh_6 rfl rfl (Nat.le_of_ble_eq_true rfl) (Stays_lineUp_ok hL d _ _ h1502) rfl ?_
    refine q_iconst dX11_without_17 rfl rfl ?_
    refine q_istore_n (lv' := [(2, qi 0), (0, qr 0), (1, qi a1)]) dX11_without_18 (by decide) rfl rfl ?_
    refine q_iconst dX11_without_19 rfl rfl ?_
    refine q_istore_n (lv' := [(3, qi 0), (2, qi 0), (0, qr 0), (1, qi a1)]) dX11_without_20 (by decide) rfl rfl ?_
    obtain ⟨q1510, h1511, h⟩ := Option.bind_eq_some_iff.mp h
    refine q_pick [2, 3, 1, 0] rfl (C_without_L21_ok hL d qF a1 0 0 _ _ h1511 ?_)
    refine q_iload_n dX11_without_61 rfl rfl ?_
    cases h
    exact q_ireturn dX11_without_62 rfl hQ
  · rw [if_pos (show q1498.1 = 0 from g)] at h
    refine q_iconst dX11_without_8 rfl rfl ?_
    cases h
    exact q_ireturn dX11_without_9 rfl hQ
set_option maxRecDepth 20000 in
theorem Stays_slotsIn_ok {X : qX} (hL : ∀ c, c < 93 → c ∈ qLs X) (d : Nat) (a1 : Int) (a2 : Int) (a3 : Int) (S : qSto) (o : (Int × qSto)) (h : Stays_slotsIn a1 a2 a3 S = some o) (Q : Option qV → qSto → Prop) (hQ : Q (some (qi o.1)) o.2) : qC X (d + 1) yX7_slotsIn cX7_slotsIn 4 (some .int) [qr 6, qi a1, qi a2, qi a3] S Q := by
  refine q_entry (lv := [(0, qr 6), (1, qi a1), (2, qi a2), (3, qi a3)]) pn_X7 (Nat.le_of_ble_eq_true rfl) rfl ?_
  unfold Stays_slotsIn at h
  refine q_aload_n dX7_slotsIn_0 rfl rfl ?_
  refine q_iload_n dX7_slotsIn_1 rfl rfl ?_
  obtain ⟨q1518, h1519, h⟩ := Option.bind_eq_some_iff.mp h
  refine q_callVi (as := [qi a1]) (c := 6) dX7_slotsIn_2 ml_X7_50 rfl rfl (hL 6 (by decide)) sh_6 rfl rfl (Nat.le_of_ble_eq_true rfl) (Stays_has_ok hL d a1 _ _ h1519) rfl ?_
  obtain ⟨c1520, h⟩ := qk_some h
  refine q_if_ne (tgt := 10) dX7_slotsIn_5 (by decide) rfl (qRb_R c1520)  (fun g => ?_) (fun g => ?_)
  · rw [if_neg (show ¬ (q1518.1 = 0) from g)] at h
    refine q_iconst dX7_slotsIn_10 rfl rfl ?_
    refine q_iload_n dX7_slotsIn_11 rfl rfl ?_
    refine q_aload_n dX7_slotsIn_12 rfl rfl ?_
    refine q_getA dX7_slotsIn_13 fl_X7_27 (hL 6 (by decide)) sh_6 (by decide) rfl rfl ?_
    refine q_iload_n dX7_slotsIn_16 rfl rfl ?_
    obtain ⟨c1521, h⟩ := qk_some h
    refine q_iaload dX7_slotsIn_17 (hL 42 (by decide)) sh_42 (qIx_0 c1521) (qIx_1 c1521) rfl ?_
    obtain ⟨q1522, h1523, h⟩ := Option.bind_eq_some_iff.mp h
    refine q_callSi (as := [qi a3, qi (q1518.2 42 (Int.toNat a1))]) dX7_slotsIn_18 ml_X7_74 rfl rfl (Nat.le_of_ble_eq_true rfl) (Jm_min_ok hL d a3 (q1518.2 42 (Int.toNat a1)) _ _ h1523) rfl ?_
    refine q_iload_n dX7_slotsIn_21 rfl rfl ?_
    refine q_aload_n dX7_slotsIn_22 rfl rfl ?_
    refine q_getA dX7_slotsIn_23 fl_X7_18 (hL 6 (by decide)) sh_6 (by decide) rfl rfl ?_
    refine q_iload_n dX7_slotsIn_26 rfl rfl ?_
    obtain ⟨c1524, h⟩ := qk_some h
    refine q_iaload dX7_slotsIn_27 (hL 39 (by decide)) sh_39 (qIx_0 c1524) (qIx_1 c1524) rfl ?_
    obtain ⟨q1525, h1526, h⟩ := Option.bind_eq_some_iff.mp h
    refine q_callSi (as := [qi a2, qi (q1522.2 39 (Int.toNat a1))]) dX7_slotsIn_28 ml_X7_108 rfl rfl (Nat.le_of_ble_eq_true rfl) (Jm_max_ok hL d a2 (q1522.2 39 (Int.toNat a1)) _ _ h1526) rfl ?_
    refine q_isub dX7_slotsIn_31 rfl ?_
    obtain ⟨q1527, h1528, h⟩ := Option.bind_eq_some_iff.mp h
    refine q_callSi (as := [qi 0, qi (q1522.1 - q1525.1)]) dX7_slotsIn_32 ml_X7_108 rfl rfl (Nat.le_of_ble_eq_true rfl) (Jm_max_ok hL d 0 (q1522.1 - q1525.1) _ _ h1528) rfl ?_
    cases h
    exact q_ireturn dX7_slotsIn_35 rfl hQ
  · rw [if_pos (show q1518.1 = 0 from g)] at h
    refine q_iconst dX7_slotsIn_8 rfl rfl ?_
    cases h
    exact q_ireturn dX7_slotsIn_9 rfl hQ
set_option maxRecDepth 20000 in
theorem C_used_L16_ok {X : qX} (hL : ∀ c, c < 93 → c ∈ qLs X) (d : Nat) {Q : Option qV → qSto → Prop} : ∀ (n : Nat) (x1 : Int) (x2 : Int) (x3 : Int) (S : qSto) (o : (Int × qSto)), C_used_L16 n x1 x2 x3 S = some o → (qW X (d + 2) yX11_used cX11_used 4 (some .int) 64 [(0, qr 0), (2, qi o.1)] [] o.2 Q) → qW X (d + 2) yX11_used cX11_used 4 (some .int) 16 [(0, qr 0), (1, qi x1), (2, qi x2), (3, qi x3)] [] S Q := by
  intro n
  induction n with
  | zero =>
    intro x1 x2 x3 S o h
    simp [C_used_L16] at h
  | succ n ih =>
    intro x1 x2 x3 S o h hE
    rw [C_used_L16] at h
    refine q_iload_n dX11_used_16 rfl rfl ?_
    refine q_aload_n dX11_used_17 rfl rfl ?_
    refine q_getA dX11_used_18 fl_X11_16 (hL 0 (by decide)) sh_0 (by decide) rfl rfl ?_
    refine q_getI dX11_used_21 fl_X11_158 (hL 2 (by decide)) sh_2 (by decide) rfl rfl ?_
    obtain ⟨c1514, h⟩ := qk_some h
    obtain ⟨c1515, h⟩ := qk_some h
    refine q_icmp_ge (tgt := 64) dX11_used_24 (by decide) rfl (qRb_R c1514) (qRb_R c1515) (fun g => ?_) (fun g => ?_)
    · rw [if_pos (show (S 2 12) ≤ x3 from g)] at h
      cases h
      exact q_pick [0, 2] rfl (hE)
    · rw [if_neg (show ¬ ((S 2 12) ≤ x3) from g)] at h
      refine q_iload_n dX11_used_27 rfl rfl ?_
      refine q_aload_n dX11_used_28 rfl rfl ?_
      refine q_getA dX11_used_29 fl_X11_16 (hL 0 (by decide)) sh_0 (by decide) rfl rfl ?_
      refine q_iload_n dX11_used_32 rfl rfl ?_
      refine q_iconst dX11_used_33 rfl rfl ?_
      obtain ⟨q1516, h1517, h⟩ := Option.bind_eq_some_iff.mp h
      refine q_callVi (as := [qi x3, qi 0]) (c := 2) dX11_used_34 ml_X11_219 rfl rfl (hL 2 (by decide)) sh_2 rfl rfl (Nat.le_of_ble_eq_true rfl) (Told_contractOf_ok hL (d + 1) x3 0 _ _ h1517) rfl ?_
      refine q_aload_n dX11_used_37 rfl rfl ?_
      refine q_getA dX11_used_38 fl_X11_49 (hL 0 (by decide)) sh_0 (by decide) rfl rfl ?_
      refine q_iload_n dX11_used_41 rfl rfl ?_
      refine q_iload_n dX11_used_42 rfl rfl ?_
      refine q_bipush dX11_used_43 (by decide) rfl ?_
      refine q_imul dX11_used_45 rfl ?_
      refine q_iload_n dX11_used_46 rfl rfl ?_
      refine q_iconst dX11_used_47 rfl rfl ?_
      refine q_iadd dX11_used_48 rfl ?_
      refine q_bipush dX11_used_49 (by decide) rfl ?_
      refine q_imul dX11_used_51 rfl ?_
      obtain ⟨q1529, h1530, h⟩ := Option.bind_eq_some_iff.mp h
      refine q_callVi (as := [qi x3, qi (x1 * 48), qi ((x1 + 1) * 48)]) (c := 6) dX11_used_52 ml_X11_394 rfl rfl (hL 6 (by decide)) sh_6 rfl rfl (Nat.le_of_ble_eq_true rfl) (Stays_slotsIn_ok hL d x3 (x1 * 48) ((x1 + 1) * 48) _ _ h1530) rfl ?_
      refine q_imul dX11_used_55 rfl ?_
      refine q_iadd dX11_used_56 rfl ?_
      refine q_istore_n (lv' := [(2, qi (x2 + (q1516.1 * q1529.1))), (0, qr 0), (1, qi x1), (3, qi x3)]) dX11_used_57 (by decide) rfl rfl ?_
      refine q_iinc (lv' := [(3, qi (x3 + 1)), (2, qi (x2 + (q1516.1 * q1529.1))), (0, qr 0), (1, qi x1)]) dX11_used_58 (by decide) rfl rfl rfl ?_
      refine q_goto (pc' := 16) dX11_used_61 (by decide) ?_
      exact q_pick [2, 3, 1, 0] rfl (ih x1 (x2 + (q1516.1 * q1529.1)) (x3 + 1) _ _ h hE)
set_option maxRecDepth 20000 in
theorem C_used_ok {X : qX} (hL : ∀ c, c < 93 → c ∈ qLs X) (d : Nat) (a1 : Int) (S : qSto) (o : (Int × qSto)) (h : C_used a1 S = some o) (Q : Option qV → qSto → Prop) (hQ : Q (some (qi o.1)) o.2) : qC X (d + 2) yX11_used cX11_used 4 (some .int) [qr 0, qi a1] S Q := by
  refine q_entry (lv := [(0, qr 0), (1, qi a1)]) pn_X11 (Nat.le_of_ble_eq_true rfl) rfl ?_
  unfold C_used at h
  refine q_iload_n dX11_used_0 rfl rfl ?_
  obtain ⟨c1512, h⟩ := qk_some h
  refine q_if_lt (tgt := 10) dX11_used_1 (by decide) rfl (qRb_R c1512)  (fun g => ?_) (fun g => ?_)
  · rw [if_pos (show a1 < 0 from g)] at h
    refine q_iconst dX11_used_10 rfl rfl ?_
    cases h
    exact q_ireturn dX11_used_11 rfl hQ
  · rw [if_neg (show ¬ (a1 < 0) from g)] at h
    refine q_iload_n dX11_used_4 rfl rfl ?_
    refine q_bipush dX11_used_5 (by decide) rfl ?_
    obtain ⟨c1513, h⟩ := qk_some h
    refine q_icmp_lt (tgt := 12) dX11_used_7 (by decide) rfl (qRb_R c1513) ⟨by decide, by decide⟩ (fun g => ?_) (fun g => ?_)
    · rw [if_pos (show a1 < 7 from g)] at h
      refine q_iconst dX11_used_12 rfl rfl ?_
      refine q_istore_n (lv' := [(2, qi 0), (0, qr 0), (1, qi a1)]) dX11_used_13 (by decide) rfl rfl ?_
      refine q_iconst dX11_used_14 rfl rfl ?_
      refine q_istore_n (lv' := [(3, qi 0), (2, qi 0), (0, qr 0), (1, qi a1)]) dX11_used_15 (by decide) rfl rfl ?_
      obtain ⟨q1531, h1532, h⟩ := Option.bind_eq_some_iff.mp h
      refine q_pick [2, 3, 1, 0] rfl (C_used_L16_ok hL d qF a1 0 0 _ _ h1532 ?_)
      refine q_iload_n dX11_used_64 rfl rfl ?_
      refine q_bipush dX11_used_65 (by decide) rfl ?_
      refine q_imul dX11_used_67 rfl ?_
      refine q_iconst dX11_used_68 rfl rfl ?_
      refine q_aload_n dX11_used_69 rfl rfl ?_
      refine q_getA dX11_used_70 fl_X11_16 (hL 0 (by decide)) sh_0 (by decide) rfl rfl ?_
      refine q_getA dX11_used_73 fl_X11_146 (hL 2 (by decide)) sh_2 (by decide) rfl rfl ?_
      refine q_iconst dX11_used_76 rfl rfl ?_
      refine q_iaload dX11_used_77 (hL 15 (by decide)) sh_15 (by decide) (by decide) rfl ?_
      obtain ⟨q1533, h1534, h⟩ := Option.bind_eq_some_iff.mp h
      refine q_callSi (as := [qi 1, qi (q1531.2 15 0)]) dX11_used_78 ml_X11_397 rfl rfl (Nat.le_of_ble_eq_true rfl) (Jm_max_ok hL (d + 1) 1 (q1531.2 15 0) _ _ h1534) rfl ?_
      refine q_bipush dX11_used_81 (by decide) rfl ?_
      refine q_imul dX11_used_83 rfl ?_
      obtain ⟨c1535, h⟩ := qk_some h
      obtain ⟨c1536, h⟩ := qk_some h
      obtain ⟨c1537, h⟩ := qk_some h
      refine q_idiv dX11_used_84 (qRb_R c1535) (qRb_R c1536) (qNz_ne c1537) rfl ?_
      cases h
      exact q_ireturn dX11_used_85 rfl hQ
    · rw [if_neg (show ¬ (a1 < 7) from g)] at h
      refine q_iconst dX11_used_10 rfl rfl ?_
      cases h
      exact q_ireturn dX11_used_11 rfl hQ
set_option maxRecDepth 20000 in
theorem C_rankShare_ok {X : qX} (hL : ∀ c, c < 93 → c ∈ qLs X) (d : Nat) (a1 : Int) (a2 : Int) (S : qSto) (o : (Int × qSto)) (h : C_rankShare a1 a2 S = some o) (Q : Option qV → qSto → Prop) (hQ : Q (some (qi o.1)) o.2) : qC X (d + 3) yX11_rankShare cX11_rankShare 3 (some .int) [qr 0, qi a1, qi a2] S Q := by
  refine q_entry (lv := [(0, qr 0), (1, qi a1), (2, qi a2)]) pn_X11 (Nat.le_of_ble_eq_true rfl) rfl ?_
  unfold C_rankShare at h
  refine q_iload_n dX11_rankShare_0 rfl rfl ?_
  obtain ⟨c1549, h⟩ := qk_some h
  by_cases e3825 : a2 = 2
  · rw [if_pos e3825] at h
    refine q_lsw (tgt := 28) (off := 27) dX11_rankShare_1 (by decide) (qRb_R c1549) (by rw [e3825]; rfl) (by decide) ?_
    refine q_aload_n dX11_rankShare_28 rfl rfl ?_
    refine q_getA dX11_rankShare_29 fl_X11_49 (hL 0 (by decide)) sh_0 (by decide) rfl rfl ?_
    refine q_iload_n dX11_rankShare_32 rfl rfl ?_
    obtain ⟨q1550, h1551, h⟩ := Option.bind_eq_some_iff.mp h
    refine q_callVi (as := [qi a1]) (c := 6) dX11_rankShare_33 ml_X11_239 rfl rfl (hL 6 (by decide)) sh_6 rfl rfl (Nat.le_of_ble_eq_true rfl) (Stays_lateOf_ok hL (d + 1) a1 _ _ h1551) rfl ?_
    cases h
    exact q_ireturn dX11_rankShare_36 rfl hQ
  · rw [if_neg e3825] at h
    by_cases e3826 : a2 = 4
    · rw [if_pos e3826] at h
      refine q_lsw (tgt := 37) (off := 36) dX11_rankShare_1 (by decide) (qRb_R c1549) (by rw [e3826]; rfl) (by decide) ?_
      refine q_aload_n dX11_rankShare_37 rfl rfl ?_
      refine q_getA dX11_rankShare_38 fl_X11_49 (hL 0 (by decide)) sh_0 (by decide) rfl rfl ?_
      refine q_iload_n dX11_rankShare_41 rfl rfl ?_
      obtain ⟨q1552, h1553, h⟩ := Option.bind_eq_some_iff.mp h
      refine q_callVi (as := [qi a1]) (c := 6) dX11_rankShare_42 ml_X11_182 rfl rfl (hL 6 (by decide)) sh_6 rfl rfl (Nat.le_of_ble_eq_true rfl) (Stays_costOf_ok hL d a1 _ _ h1553) rfl ?_
      cases h
      exact q_ireturn dX11_rankShare_45 rfl hQ
    · rw [if_neg e3826] at h
      refine q_lsw (tgt := 46) (off := 45) dX11_rankShare_1 (by decide) (qRb_R c1549) (by simp [Op.lookupswitch.offset, show ¬ (2 = a2) from fun z => e3825 z.symm, show ¬ (4 = a2) from fun z => e3826 z.symm]) (by decide) ?_
      refine q_iconst dX11_rankShare_46 rfl rfl ?_
      cases h
      exact q_ireturn dX11_rankShare_47 rfl hQ
set_option maxRecDepth 20000 in
theorem C_rank_L28_ok {X : qX} (hL : ∀ c, c < 93 → c ∈ qLs X) (d : Nat) {Q : Option qV → qSto → Prop} : ∀ (n : Nat) (x1 : Int) (x2 : Int) (x3 : Int) (x4 : Int) (x5 : Int) (S : qSto) (o : (Int × Int × qSto)), C_rank_L28 n x1 x2 x3 x4 x5 S = some o → (qW X (d + 4) yX11_rank cX11_rank 6 (some .int) 103 [(2, qi x2), (3, qi o.1), (4, qi o.2.1)] [] o.2.2 Q) → qW X (d + 4) yX11_rank cX11_rank 6 (some .int) 28 [(0, qr 0), (1, qi x1), (2, qi x2), (3, qi x3), (4, qi x4), (5, qi x5)] [] S Q := by
  intro n
  induction n with
  | zero =>
    intro x1 x2 x3 x4 x5 S o h
    simp [C_rank_L28] at h
  | succ n ih =>
    intro x1 x2 x3 x4 x5 S o h hE
    rw [C_rank_L28] at h
    refine q_iload dX11_rank_28 rfl rfl ?_
    refine q_aload_n dX11_rank_30 rfl rfl ?_
    refine q_getA dX11_rank_31 fl_X11_16 (hL 0 (by decide)) sh_0 (by decide) rfl rfl ?_
    refine q_getI dX11_rank_34 fl_X11_158 (hL 2 (by decide)) sh_2 (by decide) rfl rfl ?_
    obtain ⟨c1542, h⟩ := qk_some h
    obtain ⟨c1543, h⟩ := qk_some h
    refine q_icmp_ge (tgt := 103) dX11_rank_37 (by decide) rfl (qRb_R c1542) (qRb_R c1543) (fun g => ?_) (fun g => ?_)
    · rw [if_pos (show (S 2 12) ≤ x5 from g)] at h
      cases h
      exact q_pick [2, 3, 4] rfl (hE)
    · rw [if_neg (show ¬ ((S 2 12) ≤ x5) from g)] at h
      refine q_aload_n dX11_rank_40 rfl rfl ?_
      refine q_getA dX11_rank_41 fl_X11_16 (hL 0 (by decide)) sh_0 (by decide) rfl rfl ?_
      refine q_iload dX11_rank_44 rfl rfl ?_
      refine q_bipush dX11_rank_46 (by decide) rfl ?_
      obtain ⟨q1544, h1545, h⟩ := Option.bind_eq_some_iff.mp h
      refine q_callVi (as := [qi x5, qi 6]) (c := 2) dX11_rank_48 ml_X11_219 rfl rfl (hL 2 (by decide)) sh_2 rfl rfl (Nat.le_of_ble_eq_true rfl) (Told_contractOf_ok hL (d + 3) x5 6 _ _ h1545) rfl ?_
      refine q_iload_n dX11_rank_51 rfl rfl ?_
      refine q_jn (G := fun (t1569 : (Int × Int × qSto)) => qW X (d + 4) yX11_rank cX11_rank 6 (some .int) 97 [(0, qr 0), (1, qi x1), (2, qi x2), (3, qi t1569.1), (4, qi t1569.2.1), (5, qi x5)] [] t1569.2.2 Q) h (fun t1569 h => ?_) (fun t1569 h hk3827 => ?_)
      · try dsimp only at h
        refine q_iinc (lv' := [(5, qi (x5 + 1)), (0, qr 0), (1, qi x1), (2, qi x2), (3, qi t1569.1), (4, qi t1569.2.1)]) dX11_rank_97 (by decide) rfl rfl rfl ?_
        refine q_goto (pc' := 28) dX11_rank_100 (by decide) ?_
        exact q_pick [1, 2, 3, 4, 5, 0] rfl (ih x1 x2 t1569.1 t1569.2.1 (x5 + 1) _ _ h hE)
      · skip
        obtain ⟨c1546, h⟩ := qk_some h
        obtain ⟨c1547, h⟩ := qk_some h
        refine q_icmp_ne (tgt := 97) dX11_rank_52 (by decide) rfl (qRb_R c1546) (qRb_R c1547) (fun g => ?_) (fun g => ?_)
        · rw [if_neg (show ¬ (q1544.1 = x1) from g)] at h
          cases h
          exact q_pick [0, 1, 2, 3, 4, 5] rfl hk3827
        · rw [if_pos (show q1544.1 = x1 from g)] at h
          refine q_iload_n dX11_rank_55 rfl rfl ?_
          obtain ⟨c1548, h⟩ := qk_some h
          refine q_if_eq (tgt := 71) dX11_rank_56 (by decide) rfl (qRb_R c1548)  (fun g => ?_) (fun g => ?_)
          · rw [if_pos (show x2 = 0 from g)] at h
            refine q_iload_n dX11_rank_71 rfl rfl ?_
            refine q_aload_n dX11_rank_72 rfl rfl ?_
            refine q_iload dX11_rank_73 rfl rfl ?_
            refine q_iload_n dX11_rank_75 rfl rfl ?_
            obtain ⟨q1554, h1555, h⟩ := Option.bind_eq_some_iff.mp h
            refine q_callVi (as := [qi x5, qi x2]) (c := 0) dX11_rank_76 ml_X11_399 rfl rfl (hL 0 (by decide)) sh_0 rfl rfl (Nat.le_of_ble_eq_true rfl) (C_rankShare_ok hL d x5 x2 _ _ h1555) rfl ?_
            refine q_iadd dX11_rank_79 rfl ?_
            refine q_istore_n (lv' := [(3, qi (x3 + q1554.1)), (0, qr 0), (1, qi x1), (2, qi x2), (4, qi x4), (5, qi x5)]) dX11_rank_80 (by decide) rfl rfl ?_
            refine q_iload dX11_rank_81 rfl rfl ?_
            refine q_aload_n dX11_rank_83 rfl rfl ?_
            refine q_getA dX11_rank_84 fl_X11_49 (hL 0 (by decide)) sh_0 (by decide) rfl rfl ?_
            refine q_iload dX11_rank_87 rfl rfl ?_
            obtain ⟨q1556, h1557, h⟩ := Option.bind_eq_some_iff.mp h
            refine q_callVi (as := [qi x5]) (c := 6) dX11_rank_89 ml_X11_239 rfl rfl (hL 6 (by decide)) sh_6 rfl rfl (Nat.le_of_ble_eq_true rfl) (Stays_lateOf_ok hL (d + 2) x5 _ _ h1557) rfl ?_
            obtain ⟨q1558, h1559, h⟩ := Option.bind_eq_some_iff.mp h
            refine q_callSi (as := [qi x4, qi q1556.1]) dX11_rank_92 ml_X11_397 rfl rfl (Nat.le_of_ble_eq_true rfl) (Jm_max_ok hL (d + 3) x4 q1556.1 _ _ h1559) rfl ?_
            refine q_istore (lv' := [(4, qi q1558.1), (3, qi (x3 + q1554.1)), (0, qr 0), (1, qi x1), (2, qi x2), (5, qi x5)]) dX11_rank_95 (by decide) rfl rfl ?_
            cases h
            exact q_pick [2, 3, 4, 1, 0, 5] rfl hk3827
          · rw [if_neg (show ¬ (x2 = 0) from g)] at h
            refine q_aload_n dX11_rank_59 rfl rfl ?_
            refine q_getA dX11_rank_60 fl_X11_49 (hL 0 (by decide)) sh_0 (by decide) rfl rfl ?_
            refine q_iload dX11_rank_63 rfl rfl ?_
            obtain ⟨q1560, h1561, h⟩ := Option.bind_eq_some_iff.mp h
            refine q_callVi (as := [qi x5]) (c := 6) dX11_rank_65 ml_X11_178 rfl rfl (hL 6 (by decide)) sh_6 rfl rfl (Nat.le_of_ble_eq_true rfl) (Stays_has_ok hL (d + 3) x5 _ _ h1561) rfl ?_
            obtain ⟨c1562, h⟩ := qk_some h
            refine q_if_eq (tgt := 97) dX11_rank_68 (by decide) rfl (qRb_R c1562)  (fun g => ?_) (fun g => ?_)
            · rw [if_pos (show q1560.1 = 0 from g)] at h
              cases h
              exact q_pick [0, 1, 2, 3, 4, 5] rfl hk3827
            · rw [if_neg (show ¬ (q1560.1 = 0) from g)] at h
              refine q_iload_n dX11_rank_71 rfl rfl ?_
              refine q_aload_n dX11_rank_72 rfl rfl ?_
              refine q_iload dX11_rank_73 rfl rfl ?_
              refine q_iload_n dX11_rank_75 rfl rfl ?_
              obtain ⟨q1563, h1564, h⟩ := Option.bind_eq_some_iff.mp h
              refine q_callVi (as := [qi x5, qi x2]) (c := 0) dX11_rank_76 ml_X11_399 rfl rfl (hL 0 (by decide)) sh_0 rfl rfl (Nat.le_of_ble_eq_true rfl) (C_rankShare_ok hL d x5 x2 _ _ h1564) rfl ?_
              refine q_iadd dX11_rank_79 rfl ?_
              refine q_istore_n (lv' := [(3, qi (x3 + q1563.1)), (0, qr 0), (1, qi x1), (2, qi x2), (4, qi x4), (5, qi x5)]) dX11_rank_80 (by decide) rfl rfl ?_
              refine q_iload dX11_rank_81 rfl rfl ?_
              refine q_aload_n dX11_rank_83 rfl rfl ?_
              refine q_getA dX11_rank_84 fl_X11_49 (hL 0 (by decide)) sh_0 (by decide) rfl rfl ?_
              refine q_iload dX11_rank_87 rfl rfl ?_
              obtain ⟨q1565, h1566, h⟩ := Option.bind_eq_some_iff.mp h
              refine q_callVi (as := [qi x5]) (c := 6) dX11_rank_89 ml_X11_239 rfl rfl (hL 6 (by decide)) sh_6 rfl rfl (Nat.le_of_ble_eq_true rfl) (Stays_lateOf_ok hL (d + 2) x5 _ _ h1566) rfl ?_
              obtain ⟨q1567, h1568, h⟩ := Option.bind_eq_some_iff.mp h
              refine q_callSi (as := [qi x4, qi q1565.1]) dX11_rank_92 ml_X11_397 rfl rfl (Nat.le_of_ble_eq_true rfl) (Jm_max_ok hL (d + 3) x4 q1565.1 _ _ h1568) rfl ?_
              refine q_istore (lv' := [(4, qi q1567.1), (3, qi (x3 + q1563.1)), (0, qr 0), (1, qi x1), (2, qi x2), (5, qi x5)]) dX11_rank_95 (by decide) rfl rfl ?_
              cases h
              exact q_pick [2, 3, 4, 1, 0, 5] rfl hk3827
set_option maxRecDepth 20000 in
theorem C_rank_ok {X : qX} (hL : ∀ c, c < 93 → c ∈ qLs X) (d : Nat) (a1 : Int) (a2 : Int) (S : qSto) (o : (Int × qSto)) (h : C_rank a1 a2 S = some o) (Q : Option qV → qSto → Prop) (hQ : Q (some (qi o.1)) o.2) : qC X (d + 4) yX11_rank cX11_rank 6 (some .int) [qr 0, qi a1, qi a2] S Q := by
  refine q_entry (lv := [(0, qr 0), (1, qi a1), (2, qi a2)]) pn_X11 (Nat.le_of_ble_eq_true rfl) rfl ?_
  unfold C_rank at h
  refine q_iload_n dX11_rank_0 rfl rfl ?_
  obtain ⟨c1538, h⟩ := qk_some h
  refine q_if_lt (tgt := 18) dX11_rank_1 (by decide) rfl (qRb_R c1538)  (fun g => ?_) (fun g => ?_)
  · rw [if_pos (show a1 < 0 from g)] at h
    refine q_iconst dX11_rank_18 rfl rfl ?_
    cases h
    exact q_ireturn dX11_rank_19 rfl hQ
  · rw [if_neg (show ¬ (a1 < 0) from g)] at h
    refine q_iload_n dX11_rank_4 rfl rfl ?_
    refine q_iconst dX11_rank_5 rfl rfl ?_
    obtain ⟨c1539, h⟩ := qk_some h
    refine q_icmp_ge (tgt := 18) dX11_rank_6 (by decide) rfl (qRb_R c1539) ⟨by decide, by decide⟩ (fun g => ?_) (fun g => ?_)
    · rw [if_pos (show 4 ≤ a1 from g)] at h
      refine q_iconst dX11_rank_18 rfl rfl ?_
      cases h
      exact q_ireturn dX11_rank_19 rfl hQ
    · rw [if_neg (show ¬ (4 ≤ a1) from g)] at h
      refine q_iload_n dX11_rank_9 rfl rfl ?_
      obtain ⟨c1540, h⟩ := qk_some h
      refine q_if_lt (tgt := 18) dX11_rank_10 (by decide) rfl (qRb_R c1540)  (fun g => ?_) (fun g => ?_)
      · rw [if_pos (show a2 < 0 from g)] at h
        refine q_iconst dX11_rank_18 rfl rfl ?_
        cases h
        exact q_ireturn dX11_rank_19 rfl hQ
      · rw [if_neg (show ¬ (a2 < 0) from g)] at h
        refine q_iload_n dX11_rank_13 rfl rfl ?_
        refine q_iconst dX11_rank_14 rfl rfl ?_
        obtain ⟨c1541, h⟩ := qk_some h
        refine q_icmp_le (tgt := 20) dX11_rank_15 (by decide) rfl (qRb_R c1541) ⟨by decide, by decide⟩ (fun g => ?_) (fun g => ?_)
        · rw [if_pos (show a2 ≤ 4 from g)] at h
          refine q_iconst dX11_rank_20 rfl rfl ?_
          refine q_istore_n (lv' := [(3, qi 0), (0, qr 0), (1, qi a1), (2, qi a2)]) dX11_rank_21 (by decide) rfl rfl ?_
          refine q_iconst dX11_rank_22 rfl rfl ?_
          refine q_istore (lv' := [(4, qi 0), (3, qi 0), (0, qr 0), (1, qi a1), (2, qi a2)]) dX11_rank_23 (by decide) rfl rfl ?_
          refine q_iconst dX11_rank_25 rfl rfl ?_
          refine q_istore (lv' := [(5, qi 0), (4, qi 0), (3, qi 0), (0, qr 0), (1, qi a1), (2, qi a2)]) dX11_rank_26 (by decide) rfl rfl ?_
          obtain ⟨q1570, h1571, h⟩ := Option.bind_eq_some_iff.mp h
          refine q_pick [3, 4, 5, 2, 1, 0] rfl (C_rank_L28_ok hL d qF a1 a2 0 0 0 _ _ h1571 ?_)
          refine q_iload_n dX11_rank_103 rfl rfl ?_
          refine q_iconst dX11_rank_104 rfl rfl ?_
          obtain ⟨c1572, h⟩ := qk_some h
          refine q_icmp_ne (tgt := 113) dX11_rank_105 (by decide) rfl (qRb_R c1572) ⟨by decide, by decide⟩ (fun g => ?_) (fun g => ?_)
          · rw [if_neg (show ¬ (a2 = 3) from g)] at h
            refine q_iload_n dX11_rank_113 rfl rfl ?_
            cases h
            exact q_ireturn dX11_rank_114 rfl hQ
          · rw [if_pos (show a2 = 3 from g)] at h
            refine q_iload dX11_rank_108 rfl rfl ?_
            refine q_goto (pc' := 114) dX11_rank_110 (by decide) ?_
            cases h
            exact q_ireturn dX11_rank_114 rfl hQ
        · rw [if_neg (show ¬ (a2 ≤ 4) from g)] at h
          refine q_iconst dX11_rank_18 rfl rfl ?_
          cases h
          exact q_ireturn dX11_rank_19 rfl hQ
set_option maxRecDepth 20000 in
theorem C_leaversAhead_L4_ok {X : qX} (hL : ∀ c, c < 93 → c ∈ qLs X) (d : Nat) {Q : Option qV → qSto → Prop} : ∀ (n : Nat) (x1 : Int) (x2 : Int) (x3 : Int) (S : qSto) (o : (Int × qSto)), C_leaversAhead_L4 n x1 x2 x3 S = some o → (qW X (d + 1) yX11_leaversAhead cX11_leaversAhead 5 (some .int) 94 [(2, qi o.1)] [] o.2 Q) → qW X (d + 1) yX11_leaversAhead cX11_leaversAhead 5 (some .int) 4 [(0, qr 0), (1, qi x1), (2, qi x2), (3, qi x3)] [] S Q := by
  intro n
  induction n with
  | zero =>
    intro x1 x2 x3 S o h
    simp [C_leaversAhead_L4] at h
  | succ n ih =>
    intro x1 x2 x3 S o h hE
    rw [C_leaversAhead_L4] at h
    refine q_iload_n dX11_leaversAhead_4 rfl rfl ?_
    refine q_aload_n dX11_leaversAhead_5 rfl rfl ?_
    refine q_getA dX11_leaversAhead_6 fl_X11_16 (hL 0 (by decide)) sh_0 (by decide) rfl rfl ?_
    refine q_getI dX11_leaversAhead_9 fl_X11_158 (hL 2 (by decide)) sh_2 (by decide) rfl rfl ?_
    obtain ⟨c1579, h⟩ := qk_some h
    obtain ⟨c1580, h⟩ := qk_some h
    refine q_icmp_ge (tgt := 94) dX11_leaversAhead_12 (by decide) rfl (qRb_R c1579) (qRb_R c1580) (fun g => ?_) (fun g => ?_)
    · rw [if_pos (show (S 2 12) ≤ x3 from g)] at h
      cases h
      exact q_pick [2] rfl (hE)
    · rw [if_neg (show ¬ ((S 2 12) ≤ x3) from g)] at h
      refine q_aload_n dX11_leaversAhead_15 rfl rfl ?_
      refine q_getA dX11_leaversAhead_16 fl_X11_49 (hL 0 (by decide)) sh_0 (by decide) rfl rfl ?_
      refine q_getA dX11_leaversAhead_19 fl_X11_236 (hL 6 (by decide)) sh_6 (by decide) rfl rfl ?_
      refine q_iload_n dX11_leaversAhead_22 rfl rfl ?_
      obtain ⟨c1581, h⟩ := qk_some h
      refine q_iaload dX11_leaversAhead_23 (hL 42 (by decide)) sh_42 (qIx_0 c1581) (qIx_1 c1581) rfl ?_
      refine q_aload_n dX11_leaversAhead_24 rfl rfl ?_
      refine q_getA dX11_leaversAhead_25 fl_X11_49 (hL 0 (by decide)) sh_0 (by decide) rfl rfl ?_
      refine q_getA dX11_leaversAhead_28 fl_X11_236 (hL 6 (by decide)) sh_6 (by decide) rfl rfl ?_
      refine q_iload_n dX11_leaversAhead_31 rfl rfl ?_
      obtain ⟨c1582, h⟩ := qk_some h
      refine q_iaload dX11_leaversAhead_32 (hL 42 (by decide)) sh_42 (qIx_0 c1582) (qIx_1 c1582) rfl ?_
      refine q_jn (G := fun (t1591 : Int) => qW X (d + 1) yX11_leaversAhead cX11_leaversAhead 5 (some .int) 67 [(0, qr 0), (1, qi x1), (2, qi x2), (3, qi x3)] [qi t1591] S Q) h (fun t1591 h => ?_) (fun t1591 h hk3828 => ?_)
      · try dsimp only at h
        refine q_istore (lv' := [(4, qi t1591), (0, qr 0), (1, qi x1), (2, qi x2), (3, qi x3)]) dX11_leaversAhead_67 (by decide) rfl rfl ?_
        refine q_aload_n dX11_leaversAhead_69 rfl rfl ?_
        refine q_getA dX11_leaversAhead_70 fl_X11_49 (hL 0 (by decide)) sh_0 (by decide) rfl rfl ?_
        refine q_iload_n dX11_leaversAhead_73 rfl rfl ?_
        obtain ⟨q1592, h1593, h⟩ := Option.bind_eq_some_iff.mp h
        refine q_callVi (as := [qi x3]) (c := 6) dX11_leaversAhead_74 ml_X11_178 rfl rfl (hL 6 (by decide)) sh_6 rfl rfl (Nat.le_of_ble_eq_true rfl) (Stays_has_ok hL d x3 _ _ h1593) rfl ?_
        refine q_jn (G := fun (t1596 : Int) => qW X (d + 1) yX11_leaversAhead cX11_leaversAhead 5 (some .int) 88 [(0, qr 0), (1, qi x1), (2, qi t1596), (3, qi x3)] [] q1592.2 Q) h (fun t1596 h => ?_) (fun t1596 h hk3829 => ?_)
        · try dsimp only at h
          refine q_iinc (lv' := [(3, qi (x3 + 1)), (0, qr 0), (1, qi x1), (2, qi t1596)]) dX11_leaversAhead_88 (by decide) rfl rfl rfl ?_
          refine q_goto (pc' := 4) dX11_leaversAhead_91 (by decide) ?_
          exact q_pick [1, 2, 3, 0] rfl (ih x1 t1596 (x3 + 1) _ _ h hE)
        · skip
          obtain ⟨c1594, h⟩ := qk_some h
          refine q_if_eq (tgt := 88) dX11_leaversAhead_77 (by decide) rfl (qRb_R c1594)  (fun g => ?_) (fun g => ?_)
          · rw [if_pos (show q1592.1 = 0 from g)] at h
            cases h
            exact q_pick [1, 2, 3, 4] rfl hk3829
          · rw [if_neg (show ¬ (q1592.1 = 0) from g)] at h
            refine q_iload dX11_leaversAhead_80 rfl rfl ?_
            obtain ⟨c1595, h⟩ := qk_some h
            refine q_if_eq (tgt := 88) dX11_leaversAhead_82 (by decide) rfl (qRb_R c1595)  (fun g => ?_) (fun g => ?_)
            · rw [if_pos (show t1591 = 0 from g)] at h
              cases h
              exact q_pick [1, 2, 3, 4] rfl hk3829
            · rw [if_neg (show ¬ (t1591 = 0) from g)] at h
              refine q_iinc (lv' := [(2, qi (x2 + 1)), (4, qi t1591), (0, qr 0), (1, qi x1), (3, qi x3)]) dX11_leaversAhead_85 (by decide) rfl rfl rfl ?_
              cases h
              exact q_pick [2, 3, 0, 4] rfl hk3829
      · skip
        obtain ⟨c1583, h⟩ := qk_some h
        obtain ⟨c1584, h⟩ := qk_some h
        refine q_icmp_lt (tgt := 62) dX11_leaversAhead_33 (by decide) rfl (qRb_R c1583) (qRb_R c1584) (fun g => ?_) (fun g => ?_)
        · rw [if_pos (show (S 42 (Int.toNat x3)) < (S 42 (Int.toNat x1)) from g)] at h
          refine q_iconst dX11_leaversAhead_62 rfl rfl ?_
          refine q_goto (pc' := 67) dX11_leaversAhead_63 (by decide) ?_
          cases h
          exact q_pick [0, 1, 2, 3] rfl hk3828
        · rw [if_neg (show ¬ ((S 42 (Int.toNat x3)) < (S 42 (Int.toNat x1))) from g)] at h
          refine q_aload_n dX11_leaversAhead_36 rfl rfl ?_
          refine q_getA dX11_leaversAhead_37 fl_X11_49 (hL 0 (by decide)) sh_0 (by decide) rfl rfl ?_
          refine q_getA dX11_leaversAhead_40 fl_X11_236 (hL 6 (by decide)) sh_6 (by decide) rfl rfl ?_
          refine q_iload_n dX11_leaversAhead_43 rfl rfl ?_
          obtain ⟨c1585, h⟩ := qk_some h
          refine q_iaload dX11_leaversAhead_44 (hL 42 (by decide)) sh_42 (qIx_0 c1585) (qIx_1 c1585) rfl ?_
          refine q_aload_n dX11_leaversAhead_45 rfl rfl ?_
          refine q_getA dX11_leaversAhead_46 fl_X11_49 (hL 0 (by decide)) sh_0 (by decide) rfl rfl ?_
          refine q_getA dX11_leaversAhead_49 fl_X11_236 (hL 6 (by decide)) sh_6 (by decide) rfl rfl ?_
          refine q_iload_n dX11_leaversAhead_52 rfl rfl ?_
          obtain ⟨c1586, h⟩ := qk_some h
          refine q_iaload dX11_leaversAhead_53 (hL 42 (by decide)) sh_42 (qIx_0 c1586) (qIx_1 c1586) rfl ?_
          obtain ⟨c1587, h⟩ := qk_some h
          obtain ⟨c1588, h⟩ := qk_some h
          refine q_icmp_ne (tgt := 66) dX11_leaversAhead_54 (by decide) rfl (qRb_R c1587) (qRb_R c1588) (fun g => ?_) (fun g => ?_)
          · rw [if_neg (show ¬ ((S 42 (Int.toNat x3)) = (S 42 (Int.toNat x1))) from g)] at h
            refine q_iconst dX11_leaversAhead_66 rfl rfl ?_
            cases h
            exact q_pick [0, 1, 2, 3] rfl hk3828
          · rw [if_pos (show (S 42 (Int.toNat x3)) = (S 42 (Int.toNat x1)) from g)] at h
            refine q_iload_n dX11_leaversAhead_57 rfl rfl ?_
            refine q_iload_n dX11_leaversAhead_58 rfl rfl ?_
            obtain ⟨c1589, h⟩ := qk_some h
            obtain ⟨c1590, h⟩ := qk_some h
            refine q_icmp_ge (tgt := 66) dX11_leaversAhead_59 (by decide) rfl (qRb_R c1589) (qRb_R c1590) (fun g => ?_) (fun g => ?_)
            · rw [if_pos (show x1 ≤ x3 from g)] at h
              refine q_iconst dX11_leaversAhead_66 rfl rfl ?_
              cases h
              exact q_pick [0, 1, 2, 3] rfl hk3828
            · rw [if_neg (show ¬ (x1 ≤ x3) from g)] at h
              refine q_iconst dX11_leaversAhead_62 rfl rfl ?_
              refine q_goto (pc' := 67) dX11_leaversAhead_63 (by decide) ?_
              cases h
              exact q_pick [0, 1, 2, 3] rfl hk3828
set_option maxRecDepth 20000 in
theorem C_leaversAhead_ok {X : qX} (hL : ∀ c, c < 93 → c ∈ qLs X) (d : Nat) (a1 : Int) (S : qSto) (o : (Int × qSto)) (h : C_leaversAhead a1 S = some o) (Q : Option qV → qSto → Prop) (hQ : Q (some (qi o.1)) o.2) : qC X (d + 1) yX11_leaversAhead cX11_leaversAhead 5 (some .int) [qr 0, qi a1] S Q := by
  refine q_entry (lv := [(0, qr 0), (1, qi a1)]) pn_X11 (Nat.le_of_ble_eq_true rfl) rfl ?_
  unfold C_leaversAhead at h
  refine q_iconst dX11_leaversAhead_0 rfl rfl ?_
  refine q_istore_n (lv' := [(2, qi 0), (0, qr 0), (1, qi a1)]) dX11_leaversAhead_1 (by decide) rfl rfl ?_
  refine q_iconst dX11_leaversAhead_2 rfl rfl ?_
  refine q_istore_n (lv' := [(3, qi 0), (2, qi 0), (0, qr 0), (1, qi a1)]) dX11_leaversAhead_3 (by decide) rfl rfl ?_
  obtain ⟨q1597, h1598, h⟩ := Option.bind_eq_some_iff.mp h
  refine q_pick [2, 3, 1, 0] rfl (C_leaversAhead_L4_ok hL d qF a1 0 0 _ _ h1598 ?_)
  refine q_iload_n dX11_leaversAhead_94 rfl rfl ?_
  cases h
  exact q_ireturn dX11_leaversAhead_95 rfl hQ
