set_option maxRecDepth 20000 in
theorem Told_takeOver_3_ok {X : qX} (hL : ∀ c, c < 93 → c ∈ qLs X) (d : Nat) (S : qSto) (o : qSto) (h : Told_takeOver_3 S = some o) (Q : Option qV → qSto → Prop) (hQ : Q none o) : qC X d yX8_takeOver cX8_takeOver 2 none [qr 2, qr 3] S Q := by
  refine q_entry (lv := [(0, qr 2), (1, qr 3)]) pn_X8 (Nat.le_of_ble_eq_true rfl) rfl ?_
  unfold Told_takeOver_3 at h
  refine q_aload_n dX8_takeOver_0 rfl rfl ?_
  refine q_getA dX8_takeOver_1 fl_X8_9 (hL 3 (by decide)) sh_3 (by decide) rfl rfl ?_
  refine q_iconst dX8_takeOver_4 rfl rfl ?_
  refine q_aload_n dX8_takeOver_5 rfl rfl ?_
  refine q_getA dX8_takeOver_6 fl_X8_9 (hL 2 (by decide)) sh_2 (by decide) rfl rfl ?_
  refine q_iconst dX8_takeOver_9 rfl rfl ?_
  refine q_bipush dX8_takeOver_10 (by decide) rfl ?_
  refine q_copy dX8_takeOver_12 cw_X8_45 (hL 25 (by decide)) (hL 15 (by decide)) sh_25 sh_15 (by decide) (by decide) (by decide) (by decide) (by decide) (Nat.le_of_ble_eq_true rfl) rfl ?_
  refine q_aload_n dX8_takeOver_15 rfl rfl ?_
  refine q_aload_n dX8_takeOver_16 rfl rfl ?_
  refine q_getI dX8_takeOver_17 fl_X8_51 (hL 3 (by decide)) sh_3 (by decide) rfl rfl ?_
  refine q_putI dX8_takeOver_20 fl_X8_51 (hL 2 (by decide)) sh_2 (by decide) pf_8_1 pt_8_1 rfl rfl ?_
  refine q_aload_n dX8_takeOver_23 rfl rfl ?_
  refine q_aload_n dX8_takeOver_24 rfl rfl ?_
  refine q_getI dX8_takeOver_25 fl_X8_55 (hL 3 (by decide)) sh_3 (by decide) rfl rfl ?_
  refine q_putI dX8_takeOver_28 fl_X8_55 (hL 2 (by decide)) sh_2 (by decide) pf_8_2 pt_8_2 rfl rfl ?_
  refine q_aload_n dX8_takeOver_31 rfl rfl ?_
  refine q_getA dX8_takeOver_32 fl_X8_15 (hL 3 (by decide)) sh_3 (by decide) rfl rfl ?_
  refine q_iconst dX8_takeOver_35 rfl rfl ?_
  refine q_aload_n dX8_takeOver_36 rfl rfl ?_
  refine q_getA dX8_takeOver_37 fl_X8_15 (hL 2 (by decide)) sh_2 (by decide) rfl rfl ?_
  refine q_iconst dX8_takeOver_40 rfl rfl ?_
  refine q_bipush dX8_takeOver_41 (by decide) rfl ?_
  refine q_copy dX8_takeOver_43 cw_X8_45 (hL 26 (by decide)) (hL 16 (by decide)) sh_26 sh_16 (by decide) (by decide) (by decide) (by decide) (by decide) (Nat.le_of_ble_eq_true rfl) rfl ?_
  refine q_aload_n dX8_takeOver_46 rfl rfl ?_
  refine q_getA dX8_takeOver_47 fl_X8_18 (hL 3 (by decide)) sh_3 (by decide) rfl rfl ?_
  refine q_iconst dX8_takeOver_50 rfl rfl ?_
  refine q_aload_n dX8_takeOver_51 rfl rfl ?_
  refine q_getA dX8_takeOver_52 fl_X8_18 (hL 2 (by decide)) sh_2 (by decide) rfl rfl ?_
  refine q_iconst dX8_takeOver_55 rfl rfl ?_
  refine q_bipush dX8_takeOver_56 (by decide) rfl ?_
  refine q_copy dX8_takeOver_58 cw_X8_45 (hL 27 (by decide)) (hL 17 (by decide)) sh_27 sh_17 (by decide) (by decide) (by decide) (by decide) (by decide) (Nat.le_of_ble_eq_true rfl) rfl ?_
  refine q_aload_n dX8_takeOver_61 rfl rfl ?_
  refine q_aload_n dX8_takeOver_62 rfl rfl ?_
  refine q_getI dX8_takeOver_63 fl_X8_58 (hL 3 (by decide)) sh_3 (by decide) rfl rfl ?_
  refine q_putI dX8_takeOver_66 fl_X8_58 (hL 2 (by decide)) sh_2 (by decide) pf_8_5 pt_8_5 rfl rfl ?_
  refine q_aload_n dX8_takeOver_69 rfl rfl ?_
  refine q_getA dX8_takeOver_70 fl_X8_21 (hL 3 (by decide)) sh_3 (by decide) rfl rfl ?_
  refine q_iconst dX8_takeOver_73 rfl rfl ?_
  refine q_aload_n dX8_takeOver_74 rfl rfl ?_
  refine q_getA dX8_takeOver_75 fl_X8_21 (hL 2 (by decide)) sh_2 (by decide) rfl rfl ?_
  refine q_iconst dX8_takeOver_78 rfl rfl ?_
  refine q_bipush dX8_takeOver_79 (by decide) rfl ?_
  refine q_copy dX8_takeOver_81 cw_X8_45 (hL 28 (by decide)) (hL 18 (by decide)) sh_28 sh_18 (by decide) (by decide) (by decide) (by decide) (by decide) (Nat.le_of_ble_eq_true rfl) rfl ?_
  refine q_aload_n dX8_takeOver_84 rfl rfl ?_
  refine q_getA dX8_takeOver_85 fl_X8_24 (hL 3 (by decide)) sh_3 (by decide) rfl rfl ?_
  refine q_iconst dX8_takeOver_88 rfl rfl ?_
  refine q_aload_n dX8_takeOver_89 rfl rfl ?_
  refine q_getA dX8_takeOver_90 fl_X8_24 (hL 2 (by decide)) sh_2 (by decide) rfl rfl ?_
  refine q_iconst dX8_takeOver_93 rfl rfl ?_
  refine q_bipush dX8_takeOver_94 (by decide) rfl ?_
  refine q_copy dX8_takeOver_96 cw_X8_45 (hL 29 (by decide)) (hL 19 (by decide)) sh_29 sh_19 (by decide) (by decide) (by decide) (by decide) (by decide) (Nat.le_of_ble_eq_true rfl) rfl ?_
  refine q_aload_n dX8_takeOver_99 rfl rfl ?_
  refine q_aload_n dX8_takeOver_100 rfl rfl ?_
  refine q_getI dX8_takeOver_101 fl_X8_61 (hL 3 (by decide)) sh_3 (by decide) rfl rfl ?_
  refine q_putI dX8_takeOver_104 fl_X8_61 (hL 2 (by decide)) sh_2 (by decide) pf_8_8 pt_8_8 rfl rfl ?_
  refine q_aload_n dX8_takeOver_107 rfl rfl ?_
  refine q_getA dX8_takeOver_108 fl_X8_27 (hL 3 (by decide)) sh_3 (by decide) rfl rfl ?_
  refine q_iconst dX8_takeOver_111 rfl rfl ?_
  refine q_aload_n dX8_takeOver_112 rfl rfl ?_
  refine q_getA dX8_takeOver_113 fl_X8_27 (hL 2 (by decide)) sh_2 (by decide) rfl rfl ?_
  refine q_iconst dX8_takeOver_116 rfl rfl ?_
  refine q_bipush dX8_takeOver_117 (by decide) rfl ?_
  refine q_copy dX8_takeOver_119 cw_X8_45 (hL 30 (by decide)) (hL 20 (by decide)) sh_30 sh_20 (by decide) (by decide) (by decide) (by decide) (by decide) (Nat.le_of_ble_eq_true rfl) rfl ?_
  refine q_aload_n dX8_takeOver_122 rfl rfl ?_
  refine q_getA dX8_takeOver_123 fl_X8_30 (hL 3 (by decide)) sh_3 (by decide) rfl rfl ?_
  refine q_iconst dX8_takeOver_126 rfl rfl ?_
  refine q_aload_n dX8_takeOver_127 rfl rfl ?_
  refine q_getA dX8_takeOver_128 fl_X8_30 (hL 2 (by decide)) sh_2 (by decide) rfl rfl ?_
  refine q_iconst dX8_takeOver_131 rfl rfl ?_
  refine q_bipush dX8_takeOver_132 (by decide) rfl ?_
  refine q_copy dX8_takeOver_134 cw_X8_45 (hL 31 (by decide)) (hL 21 (by decide)) sh_31 sh_21 (by decide) (by decide) (by decide) (by decide) (by decide) (Nat.le_of_ble_eq_true rfl) rfl ?_
  refine q_aload_n dX8_takeOver_137 rfl rfl ?_
  refine q_getA dX8_takeOver_138 fl_X8_33 (hL 3 (by decide)) sh_3 (by decide) rfl rfl ?_
  refine q_iconst dX8_takeOver_141 rfl rfl ?_
  refine q_aload_n dX8_takeOver_142 rfl rfl ?_
  refine q_getA dX8_takeOver_143 fl_X8_33 (hL 2 (by decide)) sh_2 (by decide) rfl rfl ?_
  refine q_iconst dX8_takeOver_146 rfl rfl ?_
  refine q_bipush dX8_takeOver_147 (by decide) rfl ?_
  refine q_copy dX8_takeOver_149 cw_X8_45 (hL 32 (by decide)) (hL 22 (by decide)) sh_32 sh_22 (by decide) (by decide) (by decide) (by decide) (by decide) (Nat.le_of_ble_eq_true rfl) rfl ?_
  refine q_aload_n dX8_takeOver_152 rfl rfl ?_
  refine q_aload_n dX8_takeOver_153 rfl rfl ?_
  refine q_getI dX8_takeOver_154 fl_X8_70 (hL 3 (by decide)) sh_3 (by decide) rfl rfl ?_
  refine q_putI dX8_takeOver_157 fl_X8_70 (hL 2 (by decide)) sh_2 (by decide) pf_8_12 pt_8_12 rfl rfl ?_
  refine q_aload_n dX8_takeOver_160 rfl rfl ?_
  refine q_getA dX8_takeOver_161 fl_X8_36 (hL 3 (by decide)) sh_3 (by decide) rfl rfl ?_
  refine q_iconst dX8_takeOver_164 rfl rfl ?_
  refine q_aload_n dX8_takeOver_165 rfl rfl ?_
  refine q_getA dX8_takeOver_166 fl_X8_36 (hL 2 (by decide)) sh_2 (by decide) rfl rfl ?_
  refine q_iconst dX8_takeOver_169 rfl rfl ?_
  refine q_bipush dX8_takeOver_170 (by decide) rfl ?_
  refine q_copy dX8_takeOver_172 cw_X8_45 (hL 33 (by decide)) (hL 23 (by decide)) sh_33 sh_23 (by decide) (by decide) (by decide) (by decide) (by decide) (Nat.le_of_ble_eq_true rfl) rfl ?_
  refine q_aload_n dX8_takeOver_175 rfl rfl ?_
  refine q_getA dX8_takeOver_176 fl_X8_39 (hL 3 (by decide)) sh_3 (by decide) rfl rfl ?_
  refine q_iconst dX8_takeOver_179 rfl rfl ?_
  refine q_aload_n dX8_takeOver_180 rfl rfl ?_
  refine q_getA dX8_takeOver_181 fl_X8_39 (hL 2 (by decide)) sh_2 (by decide) rfl rfl ?_
  refine q_iconst dX8_takeOver_184 rfl rfl ?_
  refine q_bipush dX8_takeOver_185 (by decide) rfl ?_
  refine q_copy dX8_takeOver_187 cw_X8_45 (hL 34 (by decide)) (hL 24 (by decide)) sh_34 sh_24 (by decide) (by decide) (by decide) (by decide) (by decide) (Nat.le_of_ble_eq_true rfl) rfl ?_
  cases h
  exact q_return dX8_takeOver_190 rfl hQ
set_option maxRecDepth 20000 in
theorem Jm_max_ok {X : qX} (hL : ∀ c, c < 93 → c ∈ qLs X) (d : Nat) (a0 : Int) (a1 : Int) (S : qSto) (o : (Int × qSto)) (h : Jm_max a0 a1 S = some o) (Q : Option qV → qSto → Prop) (hQ : Q (some (qi o.1)) o.2) : qC X d yJ9_max_7cf53 cJ9_max_7cf53 2 (some .int) [qi a0, qi a1] S Q := by
  refine q_entryF (lv := [(0, qi a0), (1, qi a1)]) pn_J9_max_7cf53 (Nat.le_of_ble_eq_true rfl) rfl ?_
  unfold Jm_max at h
  refine q_iload_n dJ9_max_7cf53_0 rfl rfl ?_
  refine q_iload_n dJ9_max_7cf53_1 rfl rfl ?_
  obtain ⟨c341, h⟩ := qk_some h
  obtain ⟨c342, h⟩ := qk_some h
  refine q_icmp_lt (tgt := 9) dJ9_max_7cf53_2 (by decide) rfl (qRb_R c341) (qRb_R c342) (fun g => ?_) (fun g => ?_)
  · rw [if_pos (show a0 < a1 from g)] at h
    refine q_iload_n dJ9_max_7cf53_9 rfl rfl ?_
    cases h
    exact q_ireturn dJ9_max_7cf53_10 rfl hQ
  · rw [if_neg (show ¬ (a0 < a1) from g)] at h
    refine q_iload_n dJ9_max_7cf53_5 rfl rfl ?_
    refine q_goto (pc' := 10) dJ9_max_7cf53_6 (by decide) ?_
    cases h
    exact q_ireturn dJ9_max_7cf53_10 rfl hQ
set_option maxRecDepth 20000 in
theorem Jm_floorDiv_ok {X : qX} (hL : ∀ c, c < 93 → c ∈ qLs X) (d : Nat) (a0 : Int) (a1 : Int) (S : qSto) (o : (Int × qSto)) (h : Jm_floorDiv a0 a1 S = some o) (Q : Option qV → qSto → Prop) (hQ : Q (some (qi o.1)) o.2) : qC X d yJ9_floorDiv_7cf53 cJ9_floorDiv_7cf53 3 (some .int) [qi a0, qi a1] S Q := by
  refine q_entryF (lv := [(0, qi a0), (1, qi a1)]) pn_J9_floorDiv_7cf53 (Nat.le_of_ble_eq_true rfl) rfl ?_
  unfold Jm_floorDiv at h
  refine q_iload_n dJ9_floorDiv_7cf53_0 rfl rfl ?_
  refine q_iload_n dJ9_floorDiv_7cf53_1 rfl rfl ?_
  obtain ⟨c349, h⟩ := qk_some h
  obtain ⟨c350, h⟩ := qk_some h
  obtain ⟨c351, h⟩ := qk_some h
  refine q_idiv dJ9_floorDiv_7cf53_2 (qRb_R c349) (qRb_R c350) (qNz_ne c351) rfl ?_
  refine q_istore_n (lv' := [(2, qi (Int.tdiv a0 a1)), (0, qi a0), (1, qi a1)]) dJ9_floorDiv_7cf53_3 (by decide) rfl rfl ?_
  refine q_iload_n dJ9_floorDiv_7cf53_4 rfl rfl ?_
  refine q_iload_n dJ9_floorDiv_7cf53_5 rfl rfl ?_
  refine q_ixor dJ9_floorDiv_7cf53_6 rfl ?_
  obtain ⟨c352, h⟩ := qk_some h
  refine q_if_ge (tgt := 21) dJ9_floorDiv_7cf53_7 (by decide) rfl (qRb_R c352)  (fun g => ?_) (fun g => ?_)
  · rw [if_pos (show 0 ≤ (qb_ixor a0 a1) from g)] at h
    refine q_iload_n dJ9_floorDiv_7cf53_21 rfl rfl ?_
    cases h
    exact q_ireturn dJ9_floorDiv_7cf53_22 rfl hQ
  · rw [if_neg (show ¬ (0 ≤ (qb_ixor a0 a1)) from g)] at h
    refine q_iload_n dJ9_floorDiv_7cf53_10 rfl rfl ?_
    refine q_iload_n dJ9_floorDiv_7cf53_11 rfl rfl ?_
    refine q_imul dJ9_floorDiv_7cf53_12 rfl ?_
    refine q_iload_n dJ9_floorDiv_7cf53_13 rfl rfl ?_
    obtain ⟨c353, h⟩ := qk_some h
    obtain ⟨c354, h⟩ := qk_some h
    refine q_icmp_eq (tgt := 21) dJ9_floorDiv_7cf53_14 (by decide) rfl (qRb_R c353) (qRb_R c354) (fun g => ?_) (fun g => ?_)
    · rw [if_pos (show ((Int.tdiv a0 a1) * a1) = a0 from g)] at h
      refine q_iload_n dJ9_floorDiv_7cf53_21 rfl rfl ?_
      cases h
      exact q_ireturn dJ9_floorDiv_7cf53_22 rfl hQ
    · rw [if_neg (show ¬ (((Int.tdiv a0 a1) * a1) = a0) from g)] at h
      refine q_iload_n dJ9_floorDiv_7cf53_17 rfl rfl ?_
      refine q_iconst dJ9_floorDiv_7cf53_18 rfl rfl ?_
      refine q_isub dJ9_floorDiv_7cf53_19 rfl ?_
      cases h
      exact q_ireturn dJ9_floorDiv_7cf53_20 rfl hQ
set_option maxRecDepth 20000 in
theorem Waters_between_ok {X : qX} (hL : ∀ c, c < 93 → c ∈ qLs X) (d : Nat) (a1 : Int) (a2 : Int) (a3 : Int) (S : qSto) (o : (Int × qSto)) (h : Waters_between a1 a2 a3 S = some o) (Q : Option qV → qSto → Prop) (hQ : Q (some (qi o.1)) o.2) : qC X (d + 1) yX9_between cX9_between 7 (some .int) [qr 5, qi a1, qi a2, qi a3] S Q := by
  refine q_entry (lv := [(0, qr 5), (1, qi a1), (2, qi a2), (3, qi a3)]) pn_X9 (Nat.le_of_ble_eq_true rfl) rfl ?_
  unfold Waters_between at h
  refine q_iconst dX9_between_0 rfl rfl ?_
  refine q_aload_n dX9_between_1 rfl rfl ?_
  refine q_getA dX9_between_2 fl_X9_15 (hL 5 (by decide)) sh_5 (by decide) rfl rfl ?_
  refine q_getA dX9_between_5 fl_X9_29 (hL 2 (by decide)) sh_2 (by decide) rfl rfl ?_
  refine q_iload_n dX9_between_8 rfl rfl ?_
  obtain ⟨c339, h⟩ := qk_some h
  refine q_iaload dX9_between_9 (hL 20 (by decide)) sh_20 (qIx_0 c339) (qIx_1 c339) rfl ?_
  refine q_aload_n dX9_between_10 rfl rfl ?_
  refine q_getA dX9_between_11 fl_X9_15 (hL 5 (by decide)) sh_5 (by decide) rfl rfl ?_
  refine q_getA dX9_between_14 fl_X9_29 (hL 2 (by decide)) sh_2 (by decide) rfl rfl ?_
  refine q_iload_n dX9_between_17 rfl rfl ?_
  obtain ⟨c340, h⟩ := qk_some h
  refine q_iaload dX9_between_18 (hL 20 (by decide)) sh_20 (qIx_0 c340) (qIx_1 c340) rfl ?_
  refine q_isub dX9_between_19 rfl ?_
  obtain ⟨q343, h344, h⟩ := Option.bind_eq_some_iff.mp h
  refine q_callSi (as := [qi 1, qi ((S 20 (Int.toNat a2)) - (S 20 (Int.toNat a1)))]) dX9_between_20 ml_X9_39 rfl rfl (Nat.le_of_ble_eq_true rfl) (Jm_max_ok hL d 1 ((S 20 (Int.toNat a2)) - (S 20 (Int.toNat a1))) _ _ h344) rfl ?_
  refine q_istore (lv' := [(4, qi q343.1), (0, qr 5), (1, qi a1), (2, qi a2), (3, qi a3)]) dX9_between_23 (by decide) rfl rfl ?_
  refine q_aload_n dX9_between_25 rfl rfl ?_
  refine q_getA dX9_between_26 fl_X9_15 (hL 5 (by decide)) sh_5 (by decide) rfl rfl ?_
  refine q_getA dX9_between_29 fl_X9_32 (hL 2 (by decide)) sh_2 (by decide) rfl rfl ?_
  refine q_iload_n dX9_between_32 rfl rfl ?_
  obtain ⟨c345, h⟩ := qk_some h
  refine q_iaload dX9_between_33 (hL 21 (by decide)) sh_21 (qIx_0 c345) (qIx_1 c345) rfl ?_
  refine q_aload_n dX9_between_34 rfl rfl ?_
  refine q_getA dX9_between_35 fl_X9_15 (hL 5 (by decide)) sh_5 (by decide) rfl rfl ?_
  refine q_getA dX9_between_38 fl_X9_32 (hL 2 (by decide)) sh_2 (by decide) rfl rfl ?_
  refine q_iload_n dX9_between_41 rfl rfl ?_
  obtain ⟨c346, h⟩ := qk_some h
  refine q_iaload dX9_between_42 (hL 21 (by decide)) sh_21 (qIx_0 c346) (qIx_1 c346) rfl ?_
  refine q_isub dX9_between_43 rfl ?_
  refine q_istore (lv' := [(5, qi ((q343.2 21 (Int.toNat a2)) - (q343.2 21 (Int.toNat a1)))), (4, qi q343.1), (0, qr 5), (1, qi a1), (2, qi a2), (3, qi a3)]) dX9_between_44 (by decide) rfl rfl ?_
  refine q_iload_n dX9_between_46 rfl rfl ?_
  refine q_aload_n dX9_between_47 rfl rfl ?_
  refine q_getA dX9_between_48 fl_X9_15 (hL 5 (by decide)) sh_5 (by decide) rfl rfl ?_
  refine q_getA dX9_between_51 fl_X9_29 (hL 2 (by decide)) sh_2 (by decide) rfl rfl ?_
  refine q_iload_n dX9_between_54 rfl rfl ?_
  obtain ⟨c347, h⟩ := qk_some h
  refine q_iaload dX9_between_55 (hL 20 (by decide)) sh_20 (qIx_0 c347) (qIx_1 c347) rfl ?_
  refine q_isub dX9_between_56 rfl ?_
  refine q_istore (lv' := [(6, qi (a3 - (q343.2 20 (Int.toNat a1)))), (5, qi ((q343.2 21 (Int.toNat a2)) - (q343.2 21 (Int.toNat a1)))), (4, qi q343.1), (0, qr 5), (1, qi a1), (2, qi a2), (3, qi a3)]) dX9_between_57 (by decide) rfl rfl ?_
  refine q_aload_n dX9_between_59 rfl rfl ?_
  refine q_getA dX9_between_60 fl_X9_15 (hL 5 (by decide)) sh_5 (by decide) rfl rfl ?_
  refine q_getA dX9_between_63 fl_X9_32 (hL 2 (by decide)) sh_2 (by decide) rfl rfl ?_
  refine q_iload_n dX9_between_66 rfl rfl ?_
  obtain ⟨c348, h⟩ := qk_some h
  refine q_iaload dX9_between_67 (hL 21 (by decide)) sh_21 (qIx_0 c348) (qIx_1 c348) rfl ?_
  refine q_iload dX9_between_68 rfl rfl ?_
  refine q_iload dX9_between_70 rfl rfl ?_
  refine q_imul dX9_between_72 rfl ?_
  refine q_iload dX9_between_73 rfl rfl ?_
  obtain ⟨q355, h356, h⟩ := Option.bind_eq_some_iff.mp h
  refine q_callSi (as := [qi (((q343.2 21 (Int.toNat a2)) - (q343.2 21 (Int.toNat a1))) * (a3 - (q343.2 20 (Int.toNat a1)))), qi q343.1]) dX9_between_75 ml_X9_45 rfl rfl (Nat.le_of_ble_eq_true rfl) (Jm_floorDiv_ok hL d (((q343.2 21 (Int.toNat a2)) - (q343.2 21 (Int.toNat a1))) * (a3 - (q343.2 20 (Int.toNat a1)))) q343.1 _ _ h356) rfl ?_
  refine q_iadd dX9_between_78 rfl ?_
  cases h
  exact q_ireturn dX9_between_79 rfl hQ
set_option maxRecDepth 20000 in
theorem Waters_levelAt_L7_ok {X : qX} (hL : ∀ c, c < 93 → c ∈ qLs X) (d : Nat) {Q : Option qV → qSto → Prop} : ∀ (n : Nat) (x1 : Int) (x2 : Int) (x3 : Int) (x4 : Int) (S : qSto) (o : (Int × Int × qSto)), Waters_levelAt_L7 n x1 x2 x3 x4 S = some o → (qW X (d + 2) yX9_levelAt cX9_levelAt 6 (some .int) 93 [(0, qr 5), (1, qi x1), (2, qi o.1), (3, qi o.2.1)] [] o.2.2 Q) → qW X (d + 2) yX9_levelAt cX9_levelAt 6 (some .int) 7 [(0, qr 5), (1, qi x1), (2, qi x2), (3, qi x3), (4, qi x4)] [] S Q := by
  intro n
  induction n with
  | zero =>
    intro x1 x2 x3 x4 S o h
    simp [Waters_levelAt_L7] at h
  | succ n ih =>
    intro x1 x2 x3 x4 S o h hE
    rw [Waters_levelAt_L7] at h
    refine q_iload dX9_levelAt_7 rfl rfl ?_
    refine q_aload_n dX9_levelAt_9 rfl rfl ?_
    refine q_getA dX9_levelAt_10 fl_X9_15 (hL 5 (by decide)) sh_5 (by decide) rfl rfl ?_
    refine q_getI dX9_levelAt_13 fl_X9_23 (hL 2 (by decide)) sh_2 (by decide) rfl rfl ?_
    obtain ⟨c318, h⟩ := qk_some h
    obtain ⟨c319, h⟩ := qk_some h
    refine q_icmp_ge (tgt := 93) dX9_levelAt_16 (by decide) rfl (qRb_R c318) (qRb_R c319) (fun g => ?_) (fun g => ?_)
    · rw [if_pos (show (S 2 8) ≤ x4 from g)] at h
      cases h
      exact q_pick [0, 1, 2, 3] rfl (hE)
    · rw [if_neg (show ¬ ((S 2 8) ≤ x4) from g)] at h
      refine q_aload_n dX9_levelAt_19 rfl rfl ?_
      refine q_getA dX9_levelAt_20 fl_X9_15 (hL 5 (by decide)) sh_5 (by decide) rfl rfl ?_
      refine q_getA dX9_levelAt_23 fl_X9_29 (hL 2 (by decide)) sh_2 (by decide) rfl rfl ?_
      refine q_iload dX9_levelAt_26 rfl rfl ?_
      obtain ⟨c320, h⟩ := qk_some h
      refine q_iaload dX9_levelAt_28 (hL 20 (by decide)) sh_20 (qIx_0 c320) (qIx_1 c320) rfl ?_
      refine q_istore (lv' := [(5, qi (S 20 (Int.toNat x4))), (0, qr 5), (1, qi x1), (2, qi x2), (3, qi x3), (4, qi x4)]) dX9_levelAt_29 (by decide) rfl rfl ?_
      refine q_iload dX9_levelAt_31 rfl rfl ?_
      refine q_iload_n dX9_levelAt_33 rfl rfl ?_
      refine q_jn (G := fun (t327 : Int) => qW X (d + 2) yX9_levelAt cX9_levelAt 6 (some .int) 59 [(0, qr 5), (1, qi x1), (2, qi t327), (3, qi x3), (4, qi x4), (5, qi (S 20 (Int.toNat x4)))] [] S Q) h (fun t327 h => ?_) (fun t327 h hk4061 => ?_)
      · try dsimp only at h
        refine q_iload dX9_levelAt_59 rfl rfl ?_
        refine q_iload_n dX9_levelAt_61 rfl rfl ?_
        refine q_jn (G := fun (t334 : Int) => qW X (d + 2) yX9_levelAt cX9_levelAt 6 (some .int) 87 [(0, qr 5), (1, qi x1), (2, qi t327), (3, qi t334), (4, qi x4)] [] S Q) h (fun t334 h => ?_) (fun t334 h hk4062 => ?_)
        · try dsimp only at h
          refine q_iinc (lv' := [(4, qi (x4 + 1)), (0, qr 5), (1, qi x1), (2, qi t327), (3, qi t334)]) dX9_levelAt_87 (by decide) rfl rfl rfl ?_
          refine q_goto (pc' := 7) dX9_levelAt_90 (by decide) ?_
          exact q_pick [1, 2, 3, 4, 0] rfl (ih x1 t327 t334 (x4 + 1) _ _ h hE)
        · skip
          obtain ⟨c328, h⟩ := qk_some h
          obtain ⟨c329, h⟩ := qk_some h
          refine q_icmp_le (tgt := 87) dX9_levelAt_62 (by decide) rfl (qRb_R c328) (qRb_R c329) (fun g => ?_) (fun g => ?_)
          · rw [if_pos (show (S 20 (Int.toNat x4)) ≤ x1 from g)] at h
            cases h
            exact q_pick [0, 1, 2, 3, 4] rfl hk4062
          · rw [if_neg (show ¬ ((S 20 (Int.toNat x4)) ≤ x1) from g)] at h
            refine q_iload_n dX9_levelAt_65 rfl rfl ?_
            refine q_iconst dX9_levelAt_66 rfl rfl ?_
            obtain ⟨c330, h⟩ := qk_some h
            refine q_icmp_eq (tgt := 84) dX9_levelAt_67 (by decide) rfl (qRb_R c330) ⟨by decide, by decide⟩ (fun g => ?_) (fun g => ?_)
            · rw [if_pos (show x3 = (-1) from g)] at h
              refine q_iload dX9_levelAt_84 rfl rfl ?_
              refine q_istore_n (lv' := [(3, qi x4), (0, qr 5), (1, qi x1), (2, qi t327), (4, qi x4), (5, qi (S 20 (Int.toNat x4)))]) dX9_levelAt_86 (by decide) rfl rfl ?_
              cases h
              exact q_pick [1, 2, 3, 0, 4] rfl hk4062
            · rw [if_neg (show ¬ (x3 = (-1)) from g)] at h
              refine q_iload dX9_levelAt_70 rfl rfl ?_
              refine q_aload_n dX9_levelAt_72 rfl rfl ?_
              refine q_getA dX9_levelAt_73 fl_X9_15 (hL 5 (by decide)) sh_5 (by decide) rfl rfl ?_
              refine q_getA dX9_levelAt_76 fl_X9_29 (hL 2 (by decide)) sh_2 (by decide) rfl rfl ?_
              refine q_iload_n dX9_levelAt_79 rfl rfl ?_
              obtain ⟨c331, h⟩ := qk_some h
              refine q_iaload dX9_levelAt_80 (hL 20 (by decide)) sh_20 (qIx_0 c331) (qIx_1 c331) rfl ?_
              obtain ⟨c332, h⟩ := qk_some h
              obtain ⟨c333, h⟩ := qk_some h
              refine q_icmp_ge (tgt := 87) dX9_levelAt_81 (by decide) rfl (qRb_R c332) (qRb_R c333) (fun g => ?_) (fun g => ?_)
              · rw [if_pos (show (S 20 (Int.toNat x3)) ≤ (S 20 (Int.toNat x4)) from g)] at h
                cases h
                exact q_pick [0, 1, 2, 3, 4] rfl hk4062
              · rw [if_neg (show ¬ ((S 20 (Int.toNat x3)) ≤ (S 20 (Int.toNat x4))) from g)] at h
                refine q_iload dX9_levelAt_84 rfl rfl ?_
                refine q_istore_n (lv' := [(3, qi x4), (0, qr 5), (1, qi x1), (2, qi t327), (4, qi x4), (5, qi (S 20 (Int.toNat x4)))]) dX9_levelAt_86 (by decide) rfl rfl ?_
                cases h
                exact q_pick [1, 2, 3, 0, 4] rfl hk4062
      · skip
        obtain ⟨c321, h⟩ := qk_some h
        obtain ⟨c322, h⟩ := qk_some h
        refine q_icmp_gt (tgt := 59) dX9_levelAt_34 (by decide) rfl (qRb_R c321) (qRb_R c322) (fun g => ?_) (fun g => ?_)
        · rw [if_pos (show x1 < (S 20 (Int.toNat x4)) from g)] at h
          cases h
          exact q_pick [1, 2, 3, 4, 5, 0] rfl hk4061
        · rw [if_neg (show ¬ (x1 < (S 20 (Int.toNat x4))) from g)] at h
          refine q_iload_n dX9_levelAt_37 rfl rfl ?_
          refine q_iconst dX9_levelAt_38 rfl rfl ?_
          obtain ⟨c323, h⟩ := qk_some h
          refine q_icmp_eq (tgt := 56) dX9_levelAt_39 (by decide) rfl (qRb_R c323) ⟨by decide, by decide⟩ (fun g => ?_) (fun g => ?_)
          · rw [if_pos (show x2 = (-1) from g)] at h
            refine q_iload dX9_levelAt_56 rfl rfl ?_
            refine q_istore_n (lv' := [(2, qi x4), (5, qi (S 20 (Int.toNat x4))), (0, qr 5), (1, qi x1), (3, qi x3), (4, qi x4)]) dX9_levelAt_58 (by decide) rfl rfl ?_
            cases h
            exact q_pick [2, 3, 0, 4, 5, 1] rfl hk4061
          · rw [if_neg (show ¬ (x2 = (-1)) from g)] at h
            refine q_iload dX9_levelAt_42 rfl rfl ?_
            refine q_aload_n dX9_levelAt_44 rfl rfl ?_
            refine q_getA dX9_levelAt_45 fl_X9_15 (hL 5 (by decide)) sh_5 (by decide) rfl rfl ?_
            refine q_getA dX9_levelAt_48 fl_X9_29 (hL 2 (by decide)) sh_2 (by decide) rfl rfl ?_
            refine q_iload_n dX9_levelAt_51 rfl rfl ?_
            obtain ⟨c324, h⟩ := qk_some h
            refine q_iaload dX9_levelAt_52 (hL 20 (by decide)) sh_20 (qIx_0 c324) (qIx_1 c324) rfl ?_
            obtain ⟨c325, h⟩ := qk_some h
            obtain ⟨c326, h⟩ := qk_some h
            refine q_icmp_le (tgt := 59) dX9_levelAt_53 (by decide) rfl (qRb_R c325) (qRb_R c326) (fun g => ?_) (fun g => ?_)
            · rw [if_pos (show (S 20 (Int.toNat x4)) ≤ (S 20 (Int.toNat x2)) from g)] at h
              cases h
              exact q_pick [1, 2, 3, 4, 5, 0] rfl hk4061
            · rw [if_neg (show ¬ ((S 20 (Int.toNat x4)) ≤ (S 20 (Int.toNat x2))) from g)] at h
              refine q_iload dX9_levelAt_56 rfl rfl ?_
              refine q_istore_n (lv' := [(2, qi x4), (5, qi (S 20 (Int.toNat x4))), (0, qr 5), (1, qi x1), (3, qi x3), (4, qi x4)]) dX9_levelAt_58 (by decide) rfl rfl ?_
              cases h
              exact q_pick [2, 3, 0, 4, 5, 1] rfl hk4061
set_option maxRecDepth 20000 in
theorem Waters_levelAt_ok {X : qX} (hL : ∀ c, c < 93 → c ∈ qLs X) (d : Nat) (a1 : Int) (S : qSto) (o : (Int × qSto)) (h : Waters_levelAt a1 S = some o) (Q : Option qV → qSto → Prop) (hQ : Q (some (qi o.1)) o.2) : qC X (d + 2) yX9_levelAt cX9_levelAt 6 (some .int) [qr 5, qi a1] S Q := by
  refine q_entry (lv := [(0, qr 5), (1, qi a1)]) pn_X9 (Nat.le_of_ble_eq_true rfl) rfl ?_
  unfold Waters_levelAt at h
  refine q_iconst dX9_levelAt_0 rfl rfl ?_
  refine q_istore_n (lv' := [(2, qi (-1)), (0, qr 5), (1, qi a1)]) dX9_levelAt_1 (by decide) rfl rfl ?_
  refine q_iconst dX9_levelAt_2 rfl rfl ?_
  refine q_istore_n (lv' := [(3, qi (-1)), (2, qi (-1)), (0, qr 5), (1, qi a1)]) dX9_levelAt_3 (by decide) rfl rfl ?_
  refine q_iconst dX9_levelAt_4 rfl rfl ?_
  refine q_istore (lv' := [(4, qi 0), (3, qi (-1)), (2, qi (-1)), (0, qr 5), (1, qi a1)]) dX9_levelAt_5 (by decide) rfl rfl ?_
  obtain ⟨q335, h336, h⟩ := Option.bind_eq_some_iff.mp h
  refine q_pick [3, 4, 2, 1, 0] rfl (Waters_levelAt_L7_ok hL d qF a1 (-1) (-1) 0 _ _ h336 ?_)
  refine q_iload_n dX9_levelAt_93 rfl rfl ?_
  refine q_iconst dX9_levelAt_94 rfl rfl ?_
  obtain ⟨c337, h⟩ := qk_some h
  refine q_icmp_ne (tgt := 117) dX9_levelAt_95 (by decide) rfl (qRb_R c337) ⟨by decide, by decide⟩ (fun g => ?_) (fun g => ?_)
  · rw [if_neg (show ¬ (q335.1 = (-1)) from g)] at h
    refine q_iload_n dX9_levelAt_117 rfl rfl ?_
    refine q_iconst dX9_levelAt_118 rfl rfl ?_
    obtain ⟨c338, h⟩ := qk_some h
    refine q_icmp_ne (tgt := 134) dX9_levelAt_119 (by decide) rfl (qRb_R c338) ⟨by decide, by decide⟩ (fun g => ?_) (fun g => ?_)
    · rw [if_neg (show ¬ (q335.2.1 = (-1)) from g)] at h
      refine q_aload_n dX9_levelAt_134 rfl rfl ?_
      refine q_iload_n dX9_levelAt_135 rfl rfl ?_
      refine q_iload_n dX9_levelAt_136 rfl rfl ?_
      refine q_iload_n dX9_levelAt_137 rfl rfl ?_
      obtain ⟨q357, h358, h⟩ := Option.bind_eq_some_iff.mp h
      refine q_callVi (as := [qi q335.1, qi q335.2.1, qi a1]) (c := 5) dX9_levelAt_138 ml_X9_35 rfl rfl (hL 5 (by decide)) sh_5 rfl rfl (Nat.le_of_ble_eq_true rfl) (Waters_between_ok hL d q335.1 q335.2.1 a1 _ _ h358) rfl ?_
      cases h
      exact q_ireturn dX9_levelAt_141 rfl hQ
    · rw [if_pos (show q335.2.1 = (-1) from g)] at h
      refine q_aload_n dX9_levelAt_122 rfl rfl ?_
      refine q_getA dX9_levelAt_123 fl_X9_15 (hL 5 (by decide)) sh_5 (by decide) rfl rfl ?_
      refine q_getA dX9_levelAt_126 fl_X9_32 (hL 2 (by decide)) sh_2 (by decide) rfl rfl ?_
      refine q_iload_n dX9_levelAt_129 rfl rfl ?_
      obtain ⟨c359, h⟩ := qk_some h
      refine q_iaload dX9_levelAt_130 (hL 21 (by decide)) sh_21 (qIx_0 c359) (qIx_1 c359) rfl ?_
      refine q_goto (pc' := 141) dX9_levelAt_131 (by decide) ?_
      cases h
      exact q_ireturn dX9_levelAt_141 rfl hQ
  · rw [if_pos (show q335.1 = (-1) from g)] at h
    refine q_iload_n dX9_levelAt_98 rfl rfl ?_
    refine q_iconst dX9_levelAt_99 rfl rfl ?_
    obtain ⟨c360, h⟩ := qk_some h
    refine q_icmp_ne (tgt := 107) dX9_levelAt_100 (by decide) rfl (qRb_R c360) ⟨by decide, by decide⟩ (fun g => ?_) (fun g => ?_)
    · rw [if_neg (show ¬ (q335.2.1 = (-1)) from g)] at h
      refine q_aload_n dX9_levelAt_107 rfl rfl ?_
      refine q_getA dX9_levelAt_108 fl_X9_15 (hL 5 (by decide)) sh_5 (by decide) rfl rfl ?_
      refine q_getA dX9_levelAt_111 fl_X9_32 (hL 2 (by decide)) sh_2 (by decide) rfl rfl ?_
      refine q_iload_n dX9_levelAt_114 rfl rfl ?_
      obtain ⟨c361, h⟩ := qk_some h
      refine q_iaload dX9_levelAt_115 (hL 21 (by decide)) sh_21 (qIx_0 c361) (qIx_1 c361) rfl ?_
      cases h
      exact q_ireturn dX9_levelAt_116 rfl hQ
    · rw [if_pos (show q335.2.1 = (-1) from g)] at h
      refine q_iconst dX9_levelAt_103 rfl rfl ?_
      refine q_goto (pc' := 116) dX9_levelAt_104 (by decide) ?_
      cases h
      exact q_ireturn dX9_levelAt_116 rfl hQ
set_option maxRecDepth 20000 in
theorem Waters_reckon_L2_ok {X : qX} (hL : ∀ c, c < 93 → c ∈ qLs X) (d : Nat) {Q : Option qV → qSto → Prop} : ∀ (n : Nat) (x1 : Int) (S : qSto) (o : qSto), Waters_reckon_L2 n x1 S = some o → (qW X (d + 3) yX9_reckon cX9_reckon 2 none 26 [] [] o Q) → qW X (d + 3) yX9_reckon cX9_reckon 2 none 2 [(0, qr 5), (1, qi x1)] [] S Q := by
  intro n
  induction n with
  | zero =>
    intro x1 S o h
    simp [Waters_reckon_L2] at h
  | succ n ih =>
    intro x1 S o h hE
    rw [Waters_reckon_L2] at h
    refine q_iload_n dX9_reckon_2 rfl rfl ?_
    refine q_sipush dX9_reckon_3 (by decide) rfl ?_
    obtain ⟨c317, h⟩ := qk_some h
    refine q_icmp_ge (tgt := 26) dX9_reckon_6 (by decide) rfl (qRb_R c317) ⟨by decide, by decide⟩ (fun g => ?_) (fun g => ?_)
    · rw [if_pos (show 336 ≤ x1 from g)] at h
      cases h
      exact q_pick [] rfl (hE)
    · rw [if_neg (show ¬ (336 ≤ x1) from g)] at h
      refine q_aload_n dX9_reckon_9 rfl rfl ?_
      refine q_getA dX9_reckon_10 fl_X9_9 (hL 5 (by decide)) sh_5 (by decide) rfl rfl ?_
      refine q_iload_n dX9_reckon_13 rfl rfl ?_
      refine q_aload_n dX9_reckon_14 rfl rfl ?_
      refine q_iload_n dX9_reckon_15 rfl rfl ?_
      obtain ⟨q362, h363, h⟩ := Option.bind_eq_some_iff.mp h
      refine q_callVi (as := [qi x1]) (c := 5) dX9_reckon_16 ml_X9_19 rfl rfl (hL 5 (by decide)) sh_5 rfl rfl (Nat.le_of_ble_eq_true rfl) (Waters_levelAt_ok hL d x1 _ _ h363) rfl ?_
      obtain ⟨c364, h⟩ := qk_some h
      refine q_iastore dX9_reckon_19 (hL 36 (by decide)) sh_36 (qIx_0 c364) (qIx_1 c364) rfl ?_
      refine q_iinc (lv' := [(1, qi (x1 + 1)), (0, qr 5)]) dX9_reckon_20 (by decide) rfl rfl rfl ?_
      refine q_goto (pc' := 2) dX9_reckon_23 (by decide) ?_
      exact q_pick [1, 0] rfl (ih (x1 + 1) _ _ h hE)
set_option maxRecDepth 20000 in
theorem Waters_reckon_ok {X : qX} (hL : ∀ c, c < 93 → c ∈ qLs X) (d : Nat) (S : qSto) (o : qSto) (h : Waters_reckon S = some o) (Q : Option qV → qSto → Prop) (hQ : Q none o) : qC X (d + 3) yX9_reckon cX9_reckon 2 none [qr 5] S Q := by
  refine q_entry (lv := [(0, qr 5)]) pn_X9 (Nat.le_of_ble_eq_true rfl) rfl ?_
  unfold Waters_reckon at h
  refine q_iconst dX9_reckon_0 rfl rfl ?_
  refine q_istore_n (lv' := [(1, qi 0), (0, qr 5)]) dX9_reckon_1 (by decide) rfl rfl ?_
  obtain ⟨q365, h366, h⟩ := Option.bind_eq_some_iff.mp h
  refine q_pick [1, 0] rfl (Waters_reckon_L2_ok hL d qF 0 _ _ h366 ?_)
  cases h
  exact q_return dX9_reckon_26 rfl hQ
set_option maxRecDepth 20000 in
theorem Ja_fill_40_L5_ok {X : qX} (hL : ∀ c, c < 93 → c ∈ qLs X) (d : Nat) {Q : Option qV → qSto → Prop} : ∀ (n : Nat) (x1 : Int) (x2 : Int) (S : qSto) (o : qSto), Ja_fill_40_L5 n x1 x2 S = some o → (qW X d yJ7_fill_53178 cJ7_fill_53178 4 none 20 [] [] o Q) → qW X d yJ7_fill_53178 cJ7_fill_53178 4 none 5 [(0, qr 40), (1, qi x1), (2, qi x2), (3, qi 14)] [] S Q := by
  intro n
  induction n with
  | zero =>
    intro x1 x2 S o h
    simp [Ja_fill_40_L5] at h
  | succ n ih =>
    intro x1 x2 S o h hE
    rw [Ja_fill_40_L5] at h
    refine q_iload_n dJ7_fill_53178_5 rfl rfl ?_
    refine q_iload_n dJ7_fill_53178_6 rfl rfl ?_
    obtain ⟨c369, h⟩ := qk_some h
    refine q_icmp_ge (tgt := 20) dJ7_fill_53178_7 (by decide) rfl (qRb_R c369) ⟨by decide, by decide⟩ (fun g => ?_) (fun g => ?_)
    · rw [if_pos (show 14 ≤ x2 from g)] at h
      cases h
      exact q_pick [] rfl (hE)
    · rw [if_neg (show ¬ (14 ≤ x2) from g)] at h
      refine q_aload_n dJ7_fill_53178_10 rfl rfl ?_
      refine q_iload_n dJ7_fill_53178_11 rfl rfl ?_
      refine q_iload_n dJ7_fill_53178_12 rfl rfl ?_
      obtain ⟨c370, h⟩ := qk_some h
      refine q_iastore dJ7_fill_53178_13 (hL 40 (by decide)) sh_40 (qIx_0 c370) (qIx_1 c370) rfl ?_
      refine q_iinc (lv' := [(2, qi (x2 + 1)), (0, qr 40), (1, qi x1), (3, qi 14)]) dJ7_fill_53178_14 (by decide) rfl rfl rfl ?_
      refine q_goto (pc' := 5) dJ7_fill_53178_17 (by decide) ?_
      exact q_pick [1, 2, 0, 3] rfl (ih x1 (x2 + 1) _ _ h hE)
set_option maxRecDepth 20000 in
theorem Ja_fill_40_ok {X : qX} (hL : ∀ c, c < 93 → c ∈ qLs X) (d : Nat) (a1 : Int) (S : qSto) (o : qSto) (h : Ja_fill_40 a1 S = some o) (Q : Option qV → qSto → Prop) (hQ : Q none o) : qC X d yJ7_fill_53178 cJ7_fill_53178 4 none [qr 40, qi a1] S Q := by
  refine q_entry (lv := [(0, qr 40), (1, qi a1)]) pn_J7 (Nat.le_of_ble_eq_true rfl) rfl ?_
  unfold Ja_fill_40 at h
  refine q_iconst dJ7_fill_53178_0 rfl rfl ?_
  refine q_istore_n (lv' := [(2, qi 0), (0, qr 40), (1, qi a1)]) dJ7_fill_53178_1 (by decide) rfl rfl ?_
  refine q_aload_n dJ7_fill_53178_2 rfl rfl ?_
  refine q_alen (k0 := 0) dJ7_fill_53178_3 (hL 40 (by decide)) sh_40 (by decide) rfl ?_
  refine q_istore_n (lv' := [(3, qi 14), (2, qi 0), (0, qr 40), (1, qi a1)]) dJ7_fill_53178_4 (by decide) rfl rfl ?_
  obtain ⟨q371, h372, h⟩ := Option.bind_eq_some_iff.mp h
  refine q_pick [2, 3, 1, 0] rfl (Ja_fill_40_L5_ok hL d qF a1 0 _ _ h372 ?_)
  cases h
  exact q_return dJ7_fill_53178_20 rfl hQ
set_option maxRecDepth 20000 in
theorem Ja_fill_43_L5_ok {X : qX} (hL : ∀ c, c < 93 → c ∈ qLs X) (d : Nat) {Q : Option qV → qSto → Prop} : ∀ (n : Nat) (x1 : Int) (x2 : Int) (S : qSto) (o : qSto), Ja_fill_43_L5 n x1 x2 S = some o → (qW X d yJ7_fill_53178 cJ7_fill_53178 4 none 20 [] [] o Q) → qW X d yJ7_fill_53178 cJ7_fill_53178 4 none 5 [(0, qr 43), (1, qi x1), (2, qi x2), (3, qi 336)] [] S Q := by
  intro n
  induction n with
  | zero =>
    intro x1 x2 S o h
    simp [Ja_fill_43_L5] at h
  | succ n ih =>
    intro x1 x2 S o h hE
    rw [Ja_fill_43_L5] at h
    refine q_iload_n dJ7_fill_53178_5 rfl rfl ?_
    refine q_iload_n dJ7_fill_53178_6 rfl rfl ?_
    obtain ⟨c375, h⟩ := qk_some h
    refine q_icmp_ge (tgt := 20) dJ7_fill_53178_7 (by decide) rfl (qRb_R c375) ⟨by decide, by decide⟩ (fun g => ?_) (fun g => ?_)
    · rw [if_pos (show 336 ≤ x2 from g)] at h
      cases h
      exact q_pick [] rfl (hE)
    · rw [if_neg (show ¬ (336 ≤ x2) from g)] at h
      refine q_aload_n dJ7_fill_53178_10 rfl rfl ?_
      refine q_iload_n dJ7_fill_53178_11 rfl rfl ?_
      refine q_iload_n dJ7_fill_53178_12 rfl rfl ?_
      obtain ⟨c376, h⟩ := qk_some h
      refine q_iastore dJ7_fill_53178_13 (hL 43 (by decide)) sh_43 (qIx_0 c376) (qIx_1 c376) rfl ?_
      refine q_iinc (lv' := [(2, qi (x2 + 1)), (0, qr 43), (1, qi x1), (3, qi 336)]) dJ7_fill_53178_14 (by decide) rfl rfl rfl ?_
      refine q_goto (pc' := 5) dJ7_fill_53178_17 (by decide) ?_
      exact q_pick [1, 2, 0, 3] rfl (ih x1 (x2 + 1) _ _ h hE)
set_option maxRecDepth 20000 in
theorem Ja_fill_43_ok {X : qX} (hL : ∀ c, c < 93 → c ∈ qLs X) (d : Nat) (a1 : Int) (S : qSto) (o : qSto) (h : Ja_fill_43 a1 S = some o) (Q : Option qV → qSto → Prop) (hQ : Q none o) : qC X d yJ7_fill_53178 cJ7_fill_53178 4 none [qr 43, qi a1] S Q := by
  refine q_entry (lv := [(0, qr 43), (1, qi a1)]) pn_J7 (Nat.le_of_ble_eq_true rfl) rfl ?_
  unfold Ja_fill_43 at h
  refine q_iconst dJ7_fill_53178_0 rfl rfl ?_
  refine q_istore_n (lv' := [(2, qi 0), (0, qr 43), (1, qi a1)]) dJ7_fill_53178_1 (by decide) rfl rfl ?_
  refine q_aload_n dJ7_fill_53178_2 rfl rfl ?_
  refine q_alen (k0 := 0) dJ7_fill_53178_3 (hL 43 (by decide)) sh_43 (by decide) rfl ?_
  refine q_istore_n (lv' := [(3, qi 336), (2, qi 0), (0, qr 43), (1, qi a1)]) dJ7_fill_53178_4 (by decide) rfl rfl ?_
  obtain ⟨q377, h378, h⟩ := Option.bind_eq_some_iff.mp h
  refine q_pick [2, 3, 1, 0] rfl (Ja_fill_43_L5_ok hL d qF a1 0 _ _ h378 ?_)
  cases h
  exact q_return dJ7_fill_53178_20 rfl hQ
set_option maxRecDepth 20000 in
theorem Stays_clear_ok {X : qX} (hL : ∀ c, c < 93 → c ∈ qLs X) (d : Nat) (S : qSto) (o : qSto) (h : Stays_clear S = some o) (Q : Option qV → qSto → Prop) (hQ : Q none o) : qC X (d + 1) yX7_clear cX7_clear 1 none [qr 6] S Q := by
  refine q_entry (lv := [(0, qr 6)]) pn_X7 (Nat.le_of_ble_eq_true rfl) rfl ?_
  unfold Stays_clear at h
  refine q_aload_n dX7_clear_0 rfl rfl ?_
  refine q_getA dX7_clear_1 fl_X7_21 (hL 6 (by decide)) sh_6 (by decide) rfl rfl ?_
  refine q_iconst dX7_clear_4 rfl rfl ?_
  obtain ⟨q373, h374, h⟩ := Option.bind_eq_some_iff.mp h
  refine q_callSv (as := [qr 40, qi 0]) dX7_clear_5 ml_X7_96 rfl rfl (Nat.le_of_ble_eq_true rfl) (Ja_fill_40_ok hL d 0 _ _ h374) rfl ?_
  refine q_aload_n dX7_clear_8 rfl rfl ?_
  refine q_getA dX7_clear_9 fl_X7_30 (hL 6 (by decide)) sh_6 (by decide) rfl rfl ?_
  refine q_iconst dX7_clear_12 rfl rfl ?_
  obtain ⟨q379, h380, h⟩ := Option.bind_eq_some_iff.mp h
  refine q_callSv (as := [qr 43, qi 0]) dX7_clear_13 ml_X7_96 rfl rfl (Nat.le_of_ble_eq_true rfl) (Ja_fill_43_ok hL d 0 _ _ h380) rfl ?_
  cases h
  exact q_return dX7_clear_16 rfl hQ
set_option maxRecDepth 20000 in
theorem History_forget_ok {X : qX} (hL : ∀ c, c < 93 → c ∈ qLs X) (d : Nat) (S : qSto) (o : qSto) (h : History_forget S = some o) (Q : Option qV → qSto → Prop) (hQ : Q none o) : qC X d yX2_forget cX2_forget 1 none [qr 12] S Q := by
  refine q_entry (lv := [(0, qr 12)]) pn_X2 (Nat.le_of_ble_eq_true rfl) rfl ?_
  unfold History_forget at h
  refine q_aload_n dX2_forget_0 rfl rfl ?_
  refine q_iconst dX2_forget_1 rfl rfl ?_
  refine q_putI dX2_forget_2 fl_X2_19 (hL 12 (by decide)) sh_12 (by decide) pf_2_2 pt_2_2 rfl rfl ?_
  refine q_aload_n dX2_forget_5 rfl rfl ?_
  refine q_iconst dX2_forget_6 rfl rfl ?_
  refine q_putI dX2_forget_7 fl_X2_23 (hL 12 (by decide)) sh_12 (by decide) pf_2_4 pt_2_4 rfl rfl ?_
  cases h
  exact q_return dX2_forget_10 rfl hQ
set_option maxRecDepth 20000 in
theorem C_text_ok {X : qX} (hL : ∀ c, c < 93 → c ∈ qLs X) (d : Nat) (a1 : Int) (S : qSto) (o : (Int × qSto)) (h : C_text a1 S = some o) (Q : Option qV → qSto → Prop) (hQ : Q (some (qi o.1)) o.2) : qC X (d + 9) yX11_text cX11_text 3 (some .int) [qr 0, qi a1] S Q := by
  refine q_entry (lv := [(0, qr 0), (1, qi a1)]) pn_X11 (Nat.le_of_ble_eq_true rfl) rfl ?_
  unfold C_text at h
  refine q_iload_n dX11_text_0 rfl rfl ?_
  obtain ⟨c18, h⟩ := qk_some h
  refine q_if_lt (tgt := 12) dX11_text_1 (by decide) rfl (qRb_R c18)  (fun g => ?_) (fun g => ?_)
  · rw [if_pos (show a1 < 0 from g)] at h
    refine q_bipush dX11_text_12 (by decide) rfl ?_
    cases h
    exact q_ireturn dX11_text_14 rfl hQ
  · rw [if_neg (show ¬ (a1 < 0) from g)] at h
    refine q_iload_n dX11_text_4 rfl rfl ?_
    refine q_aload_n dX11_text_5 rfl rfl ?_
    refine q_getI dX11_text_6 fl_X11_114 (hL 0 (by decide)) sh_0 (by decide) rfl rfl ?_
    obtain ⟨c19, h⟩ := qk_some h
    obtain ⟨c20, h⟩ := qk_some h
    refine q_icmp_le (tgt := 15) dX11_text_9 (by decide) rfl (qRb_R c19) (qRb_R c20) (fun g => ?_) (fun g => ?_)
    · rw [if_pos (show a1 ≤ (S 0 1) from g)] at h
      refine q_aload_n dX11_text_15 rfl rfl ?_
      refine q_iconst dX11_text_16 rfl rfl ?_
      refine q_putI dX11_text_17 fl_X11_114 (hL 0 (by decide)) sh_0 (by decide) pf_11_1 pt_11_1 rfl rfl ?_
      refine q_aload_n dX11_text_20 rfl rfl ?_
      refine q_getA dX11_text_21 fl_X11_31 (hL 0 (by decide)) sh_0 (by decide) rfl rfl ?_
      refine q_iload_n dX11_text_24 rfl rfl ?_
      obtain ⟨q312, h313, h⟩ := Option.bind_eq_some_iff.mp h
      refine q_callVi (as := [qi a1]) (c := 4) dX11_text_25 ml_X11_122 rfl rfl (hL 4 (by decide)) sh_4 rfl rfl (Nat.le_of_ble_eq_true rfl) (Reader_readText_ok hL d a1 _ _ h313) rfl ?_
      refine q_istore_n (lv' := [(2, qi q312.1), (0, qr 0), (1, qi a1)]) dX11_text_28 (by decide) rfl rfl ?_
      refine q_iload_n dX11_text_29 rfl rfl ?_
      refine q_iconst dX11_text_30 rfl rfl ?_
      obtain ⟨c314, h⟩ := qk_some h
      refine q_icmp_ne (tgt := 36) dX11_text_31 (by decide) rfl (qRb_R c314) ⟨by decide, by decide⟩ (fun g => ?_) (fun g => ?_)
      · rw [if_neg (show ¬ (q312.1 = (-1)) from g)] at h
        refine q_aload_n dX11_text_36 rfl rfl ?_
        refine q_getA dX11_text_37 fl_X11_16 (hL 0 (by decide)) sh_0 (by decide) rfl rfl ?_
        refine q_aload_n dX11_text_40 rfl rfl ?_
        refine q_getA dX11_text_41 fl_X11_20 (hL 0 (by decide)) sh_0 (by decide) rfl rfl ?_
        obtain ⟨q315, h316, h⟩ := Option.bind_eq_some_iff.mp h
        refine q_callVv (as := [qr 3]) (c := 2) dX11_text_44 ml_X11_126 rfl rfl (hL 2 (by decide)) sh_2 rfl rfl (Nat.le_of_ble_eq_true rfl) (Told_takeOver_3_ok hL (d + 8) _ _ h316) rfl ?_
        refine q_aload_n dX11_text_47 rfl rfl ?_
        refine q_getA dX11_text_48 fl_X11_40 (hL 0 (by decide)) sh_0 (by decide) rfl rfl ?_
        obtain ⟨q367, h368, h⟩ := Option.bind_eq_some_iff.mp h
        refine q_callVv (as := []) (c := 5) dX11_text_51 ml_X11_129 rfl rfl (hL 5 (by decide)) sh_5 rfl rfl (Nat.le_of_ble_eq_true rfl) (Waters_reckon_ok hL (d + 5) _ _ h368) rfl ?_
        refine q_aload_n dX11_text_54 rfl rfl ?_
        refine q_getA dX11_text_55 fl_X11_49 (hL 0 (by decide)) sh_0 (by decide) rfl rfl ?_
        obtain ⟨q381, h382, h⟩ := Option.bind_eq_some_iff.mp h
        refine q_callVv (as := []) (c := 6) dX11_text_58 ml_X11_132 rfl rfl (hL 6 (by decide)) sh_6 rfl rfl (Nat.le_of_ble_eq_true rfl) (Stays_clear_ok hL (d + 7) _ _ h382) rfl ?_
        refine q_aload_n dX11_text_61 rfl rfl ?_
        refine q_getA dX11_text_62 fl_X11_99 (hL 0 (by decide)) sh_0 (by decide) rfl rfl ?_
        obtain ⟨q383, h384, h⟩ := Option.bind_eq_some_iff.mp h
        refine q_callVv (as := []) (c := 12) dX11_text_65 ml_X11_135 rfl rfl (hL 12 (by decide)) sh_12 rfl rfl (Nat.le_of_ble_eq_true rfl) (History_forget_ok hL (d + 8) _ _ h384) rfl ?_
        refine q_aload_n dX11_text_68 rfl rfl ?_
        refine q_getA dX11_text_69 fl_X11_92 (hL 0 (by decide)) sh_0 (by decide) rfl rfl ?_
        refine q_iconst dX11_text_72 rfl rfl ?_
        refine q_putZ dX11_text_73 fl_X11_136 (hL 11 (by decide)) sh_11 (by decide) pf_1_3 pt_1_3 rfl (by decide) rfl ?_
        refine q_iload_n dX11_text_76 rfl rfl ?_
        cases h
        exact q_ireturn dX11_text_77 rfl hQ
      · rw [if_pos (show q312.1 = (-1) from g)] at h
        refine q_iconst dX11_text_34 rfl rfl ?_
        cases h
        exact q_ireturn dX11_text_35 rfl hQ
    · rw [if_neg (show ¬ (a1 ≤ (S 0 1)) from g)] at h
      refine q_bipush dX11_text_12 (by decide) rfl ?_
      cases h
      exact q_ireturn dX11_text_14 rfl hQ
set_option maxRecDepth 20000 in
theorem C_fault_ok {X : qX} (hL : ∀ c, c < 93 → c ∈ qLs X) (d : Nat) (a1 : Int) (S : qSto) (o : (Int × qSto)) (h : C_fault a1 S = some o) (Q : Option qV → qSto → Prop) (hQ : Q (some (qi o.1)) o.2) : qC X d yX11_fault cX11_fault 2 (some .int) [qr 0, qi a1] S Q := by
  refine q_entry (lv := [(0, qr 0), (1, qi a1)]) pn_X11 (Nat.le_of_ble_eq_true rfl) rfl ?_
  unfold C_fault at h
  refine q_iload_n dX11_fault_0 rfl rfl ?_
  obtain ⟨c385, h⟩ := qk_some h
  by_cases e4063 : a1 = 0
  · rw [if_pos e4063] at h
    refine q_lsw (tgt := 28) (off := 27) dX11_fault_1 (by decide) (qRb_R c385) (by rw [e4063]; rfl) (by decide) ?_
    refine q_aload_n dX11_fault_28 rfl rfl ?_
    refine q_getA dX11_fault_29 fl_X11_31 (hL 0 (by decide)) sh_0 (by decide) rfl rfl ?_
    refine q_getI dX11_fault_32 fl_X11_140 (hL 4 (by decide)) sh_4 (by decide) rfl rfl ?_
    cases h
    exact q_ireturn dX11_fault_35 rfl hQ
  · rw [if_neg e4063] at h
    by_cases e4064 : a1 = 1
    · rw [if_pos e4064] at h
      refine q_lsw (tgt := 36) (off := 35) dX11_fault_1 (by decide) (qRb_R c385) (by rw [e4064]; rfl) (by decide) ?_
      refine q_aload_n dX11_fault_36 rfl rfl ?_
      refine q_getA dX11_fault_37 fl_X11_31 (hL 0 (by decide)) sh_0 (by decide) rfl rfl ?_
      refine q_getI dX11_fault_40 fl_X11_143 (hL 4 (by decide)) sh_4 (by decide) rfl rfl ?_
      cases h
      exact q_ireturn dX11_fault_43 rfl hQ
    · rw [if_neg e4064] at h
      refine q_lsw (tgt := 44) (off := 43) dX11_fault_1 (by decide) (qRb_R c385) (by simp [Op.lookupswitch.offset, show ¬ (0 = a1) from fun z => e4063 z.symm, show ¬ (1 = a1) from fun z => e4064 z.symm]) (by decide) ?_
      refine q_iconst dX11_fault_44 rfl rfl ?_
      cases h
      exact q_ireturn dX11_fault_45 rfl hQ
set_option maxRecDepth 20000 in
theorem Stays_has_ok {X : qX} (hL : ∀ c, c < 93 → c ∈ qLs X) (d : Nat) (a1 : Int) (S : qSto) (o : (Int × qSto)) (h : Stays_has a1 S = some o) (Q : Option qV → qSto → Prop) (hQ : Q (some (qi o.1)) o.2) : qC X d yX7_has cX7_has 2 (some .boolean) [qr 6, qi a1] S Q := by
  refine q_entry (lv := [(0, qr 6), (1, qi a1)]) pn_X7 (Nat.le_of_ble_eq_true rfl) rfl ?_
  unfold Stays_has at h
  refine q_aload_n dX7_has_0 rfl rfl ?_
  refine q_getA dX7_has_1 fl_X7_21 (hL 6 (by decide)) sh_6 (by decide) rfl rfl ?_
  refine q_iload_n dX7_has_4 rfl rfl ?_
  obtain ⟨c390, h⟩ := qk_some h
  refine q_iaload dX7_has_5 (hL 40 (by decide)) sh_40 (qIx_0 c390) (qIx_1 c390) rfl ?_
  obtain ⟨c391, h⟩ := qk_some h
  refine q_if_le (tgt := 13) dX7_has_6 (by decide) rfl (qRb_R c391)  (fun g => ?_) (fun g => ?_)
  · rw [if_pos (show (S 40 (Int.toNat a1)) ≤ 0 from g)] at h
    refine q_iconst dX7_has_13 rfl rfl ?_
    cases h
    exact q_zreturn dX7_has_14 rfl (by decide) hQ
  · rw [if_neg (show ¬ ((S 40 (Int.toNat a1)) ≤ 0) from g)] at h
    refine q_iconst dX7_has_9 rfl rfl ?_
    refine q_goto (pc' := 14) dX7_has_10 (by decide) ?_
    cases h
    exact q_zreturn dX7_has_14 rfl (by decide) hQ
set_option maxRecDepth 20000 in
theorem Stays_howMany_L4_ok {X : qX} (hL : ∀ c, c < 93 → c ∈ qLs X) (d : Nat) {Q : Option qV → qSto → Prop} : ∀ (n : Nat) (x1 : Int) (x2 : Int) (S : qSto) (o : (Int × qSto)), Stays_howMany_L4 n x1 x2 S = some o → (qW X (d + 1) yX7_howMany cX7_howMany 3 (some .int) 37 [(1, qi o.1)] [] o.2 Q) → qW X (d + 1) yX7_howMany cX7_howMany 3 (some .int) 4 [(0, qr 6), (1, qi x1), (2, qi x2)] [] S Q := by
  intro n
  induction n with
  | zero =>
    intro x1 x2 S o h
    simp [Stays_howMany_L4] at h
  | succ n ih =>
    intro x1 x2 S o h hE
    rw [Stays_howMany_L4] at h
    refine q_iload_n dX7_howMany_4 rfl rfl ?_
    refine q_aload_n dX7_howMany_5 rfl rfl ?_
    refine q_getA dX7_howMany_6 fl_X7_36 (hL 6 (by decide)) sh_6 (by decide) rfl rfl ?_
    refine q_getI dX7_howMany_9 fl_X7_44 (hL 2 (by decide)) sh_2 (by decide) rfl rfl ?_
    obtain ⟨c388, h⟩ := qk_some h
    obtain ⟨c389, h⟩ := qk_some h
    refine q_icmp_ge (tgt := 37) dX7_howMany_12 (by decide) rfl (qRb_R c388) (qRb_R c389) (fun g => ?_) (fun g => ?_)
    · rw [if_pos (show (S 2 12) ≤ x2 from g)] at h
      cases h
      exact q_pick [1] rfl (hE)
    · rw [if_neg (show ¬ ((S 2 12) ≤ x2) from g)] at h
      refine q_iload_n dX7_howMany_15 rfl rfl ?_
      refine q_aload_n dX7_howMany_16 rfl rfl ?_
      refine q_iload_n dX7_howMany_17 rfl rfl ?_
      obtain ⟨q392, h393, h⟩ := Option.bind_eq_some_iff.mp h
      refine q_callVi (as := [qi x2]) (c := 6) dX7_howMany_18 ml_X7_50 rfl rfl (hL 6 (by decide)) sh_6 rfl rfl (Nat.le_of_ble_eq_true rfl) (Stays_has_ok hL d x2 _ _ h393) rfl ?_
      refine q_jn (G := fun (t395 : Int) => qW X (d + 1) yX7_howMany cX7_howMany 3 (some .int) 29 [(0, qr 6), (2, qi x2)] [qi t395, qi x1] q392.2 Q) h (fun t395 h => ?_) (fun t395 h hk4065 => ?_)
      · try dsimp only at h
        refine q_iadd dX7_howMany_29 rfl ?_
        refine q_istore_n (lv' := [(1, qi (x1 + t395)), (0, qr 6), (2, qi x2)]) dX7_howMany_30 (by decide) rfl rfl ?_
        refine q_iinc (lv' := [(2, qi (x2 + 1)), (1, qi (x1 + t395)), (0, qr 6)]) dX7_howMany_31 (by decide) rfl rfl rfl ?_
        refine q_goto (pc' := 4) dX7_howMany_34 (by decide) ?_
        exact q_pick [2, 1, 0] rfl (ih (x1 + t395) (x2 + 1) _ _ h hE)
      · skip
        obtain ⟨c394, h⟩ := qk_some h
        refine q_if_eq (tgt := 28) dX7_howMany_21 (by decide) rfl (qRb_R c394)  (fun g => ?_) (fun g => ?_)
        · rw [if_pos (show q392.1 = 0 from g)] at h
          refine q_iconst dX7_howMany_28 rfl rfl ?_
          cases h
          exact q_pick [0, 2] rfl hk4065
        · rw [if_neg (show ¬ (q392.1 = 0) from g)] at h
          refine q_iconst dX7_howMany_24 rfl rfl ?_
          refine q_goto (pc' := 29) dX7_howMany_25 (by decide) ?_
          cases h
          exact q_pick [0, 2] rfl hk4065
set_option maxRecDepth 20000 in
theorem Stays_howMany_ok {X : qX} (hL : ∀ c, c < 93 → c ∈ qLs X) (d : Nat) (S : qSto) (o : (Int × qSto)) (h : Stays_howMany S = some o) (Q : Option qV → qSto → Prop) (hQ : Q (some (qi o.1)) o.2) : qC X (d + 1) yX7_howMany cX7_howMany 3 (some .int) [qr 6] S Q := by
  refine q_entry (lv := [(0, qr 6)]) pn_X7 (Nat.le_of_ble_eq_true rfl) rfl ?_
  unfold Stays_howMany at h
  refine q_iconst dX7_howMany_0 rfl rfl ?_
  refine q_istore_n (lv' := [(1, qi 0), (0, qr 6)]) dX7_howMany_1 (by decide) rfl rfl ?_
  refine q_iconst dX7_howMany_2 rfl rfl ?_
  refine q_istore_n (lv' := [(2, qi 0), (1, qi 0), (0, qr 6)]) dX7_howMany_3 (by decide) rfl rfl ?_
  obtain ⟨q396, h397, h⟩ := Option.bind_eq_some_iff.mp h
  refine q_pick [2, 1, 0] rfl (Stays_howMany_L4_ok hL d qF 0 0 _ _ h397 ?_)
  refine q_iload_n dX7_howMany_37 rfl rfl ?_
  cases h
  exact q_ireturn dX7_howMany_38 rfl hQ
set_option maxRecDepth 20000 in
theorem Ji_bitCount_ok {X : qX} (hL : ∀ c, c < 93 → c ∈ qLs X) (d : Nat) (a0 : Int) (S : qSto) (o : (Int × qSto)) (h : Ji_bitCount a0 S = some o) (Q : Option qV → qSto → Prop) (hQ : Q (some (qi o.1)) o.2) : qC X d yJ6_bitCount_0f7a4 cJ6_bitCount_0f7a4 1 (some .int) [qi a0] S Q := by
  refine q_entry (lv := [(0, qi a0)]) pn_J6 (Nat.le_of_ble_eq_true rfl) rfl ?_
  unfold Ji_bitCount at h
  refine q_iload_n dJ6_bitCount_0f7a4_0 rfl rfl ?_
  refine q_iload_n dJ6_bitCount_0f7a4_1 rfl rfl ?_
  refine q_iconst dJ6_bitCount_0f7a4_2 rfl rfl ?_
  refine q_iushr dJ6_bitCount_0f7a4_3 rfl ?_
  refine q_ldcw (v := 1431655765) dJ6_bitCount_0f7a4_4 qw_793 rfl ?_
  refine q_iand dJ6_bitCount_0f7a4_7 rfl ?_
  refine q_isub dJ6_bitCount_0f7a4_8 rfl ?_
  refine q_istore_n (lv' := [(0, qi (a0 - (qb_iand (qb_iushr a0 1) 1431655765)))]) dJ6_bitCount_0f7a4_9 (by decide) rfl rfl ?_
  refine q_iload_n dJ6_bitCount_0f7a4_10 rfl rfl ?_
  refine q_ldcw (v := 858993459) dJ6_bitCount_0f7a4_11 qw_794 rfl ?_
  refine q_iand dJ6_bitCount_0f7a4_14 rfl ?_
  refine q_iload_n dJ6_bitCount_0f7a4_15 rfl rfl ?_
  refine q_iconst dJ6_bitCount_0f7a4_16 rfl rfl ?_
  refine q_iushr dJ6_bitCount_0f7a4_17 rfl ?_
  refine q_ldcw (v := 858993459) dJ6_bitCount_0f7a4_18 qw_794 rfl ?_
  refine q_iand dJ6_bitCount_0f7a4_21 rfl ?_
  refine q_iadd dJ6_bitCount_0f7a4_22 rfl ?_
  refine q_istore_n (lv' := [(0, qi ((qb_iand (a0 - (qb_iand (qb_iushr a0 1) 1431655765)) 858993459) + (qb_iand (qb_iushr (a0 - (qb_iand (qb_iushr a0 1) 1431655765)) 2) 858993459)))]) dJ6_bitCount_0f7a4_23 (by decide) rfl rfl ?_
  refine q_iload_n dJ6_bitCount_0f7a4_24 rfl rfl ?_
  refine q_iload_n dJ6_bitCount_0f7a4_25 rfl rfl ?_
  refine q_iconst dJ6_bitCount_0f7a4_26 rfl rfl ?_
  refine q_iushr dJ6_bitCount_0f7a4_27 rfl ?_
  refine q_iadd dJ6_bitCount_0f7a4_28 rfl ?_
  refine q_ldcw (v := 252645135) dJ6_bitCount_0f7a4_29 qw_795 rfl ?_
  refine q_iand dJ6_bitCount_0f7a4_32 rfl ?_
  refine q_istore_n (lv' := [(0, qi (qb_iand (((qb_iand (a0 - (qb_iand (qb_iushr a0 1) 1431655765)) 858993459) + (qb_iand (qb_iushr (a0 - (qb_iand (qb_iushr a0 1) 1431655765)) 2) 858993459)) + (qb_iushr ((qb_iand (a0 - (qb_iand (qb_iushr a0 1) 1431655765)) 858993459) + (qb_iand (qb_iushr (a0 - (qb_iand (qb_iushr a0 1) 1431655765)) 2) 858993459)) 4)) 252645135))]) dJ6_bitCount_0f7a4_33 (by decide) rfl rfl ?_
  refine q_iload_n dJ6_bitCount_0f7a4_34 rfl rfl ?_
  refine q_iload_n dJ6_bitCount_0f7a4_35 rfl rfl ?_
  refine q_bipush dJ6_bitCount_0f7a4_36 (by decide) rfl ?_
  refine q_iushr dJ6_bitCount_0f7a4_38 rfl ?_
  refine q_iadd dJ6_bitCount_0f7a4_39 rfl ?_
  refine q_istore_n (lv' := [(0, qi ((qb_iand (((qb_iand (a0 - (qb_iand (qb_iushr a0 1) 1431655765)) 858993459) + (qb_iand (qb_iushr (a0 - (qb_iand (qb_iushr a0 1) 1431655765)) 2) 858993459)) + (qb_iushr ((qb_iand (a0 - (qb_iand (qb_iushr a0 1) 1431655765)) 858993459) + (qb_iand (qb_iushr (a0 - (qb_iand (qb_iushr a0 1) 1431655765)) 2) 858993459)) 4)) 252645135) + (qb_iushr (qb_iand (((qb_iand (a0 - (qb_iand (qb_iushr a0 1) 1431655765)) 858993459) + (qb_iand (qb_iushr (a0 - (qb_iand (qb_iushr a0 1) 1431655765)) 2) 858993459)) + (qb_iushr ((qb_iand (a0 - (qb_iand (qb_iushr a0 1) 1431655765)) 858993459) + (qb_iand (qb_iushr (a0 - (qb_iand (qb_iushr a0 1) 1431655765)) 2) 858993459)) 4)) 252645135) 8)))]) dJ6_bitCount_0f7a4_40 (by decide) rfl rfl ?_
  refine q_iload_n dJ6_bitCount_0f7a4_41 rfl rfl ?_
  refine q_iload_n dJ6_bitCount_0f7a4_42 rfl rfl ?_
  refine q_bipush dJ6_bitCount_0f7a4_43 (by decide) rfl ?_
  refine q_iushr dJ6_bitCount_0f7a4_45 rfl ?_
  refine q_iadd dJ6_bitCount_0f7a4_46 rfl ?_
  refine q_istore_n (lv' := [(0, qi (((qb_iand (((qb_iand (a0 - (qb_iand (qb_iushr a0 1) 1431655765)) 858993459) + (qb_iand (qb_iushr (a0 - (qb_iand (qb_iushr a0 1) 1431655765)) 2) 858993459)) + (qb_iushr ((qb_iand (a0 - (qb_iand (qb_iushr a0 1) 1431655765)) 858993459) + (qb_iand (qb_iushr (a0 - (qb_iand (qb_iushr a0 1) 1431655765)) 2) 858993459)) 4)) 252645135) + (qb_iushr (qb_iand (((qb_iand (a0 - (qb_iand (qb_iushr a0 1) 1431655765)) 858993459) + (qb_iand (qb_iushr (a0 - (qb_iand (qb_iushr a0 1) 1431655765)) 2) 858993459)) + (qb_iushr ((qb_iand (a0 - (qb_iand (qb_iushr a0 1) 1431655765)) 858993459) + (qb_iand (qb_iushr (a0 - (qb_iand (qb_iushr a0 1) 1431655765)) 2) 858993459)) 4)) 252645135) 8)) + (qb_iushr ((qb_iand (((qb_iand (a0 - (qb_iand (qb_iushr a0 1) 1431655765)) 858993459) + (qb_iand (qb_iushr (a0 - (qb_iand (qb_iushr a0 1) 1431655765)) 2) 858993459)) + (qb_iushr ((qb_iand (a0 - (qb_iand (qb_iushr a0 1) 1431655765)) 858993459) + (qb_iand (qb_iushr (a0 - (qb_iand (qb_iushr a0 1) 1431655765)) 2) 858993459)) 4)) 252645135) + (qb_iushr (qb_iand (((qb_iand (a0 - (qb_iand (qb_iushr a0 1) 1431655765)) 858993459) + (qb_iand (qb_iushr (a0 - (qb_iand (qb_iushr a0 1) 1431655765)) 2) 858993459)) + (qb_iushr ((qb_iand (a0 - (qb_iand (qb_iushr a0 1) 1431655765)) 858993459) + (qb_iand (qb_iushr (a0 - (qb_iand (qb_iushr a0 1) 1431655765)) 2) 858993459)) 4)) 252645135) 8)) 16)))]) dJ6_bitCount_0f7a4_47 (by decide) rfl rfl ?_
  refine q_iload_n dJ6_bitCount_0f7a4_48 rfl rfl ?_
  refine q_bipush dJ6_bitCount_0f7a4_49 (by decide) rfl ?_
  refine q_iand dJ6_bitCount_0f7a4_51 rfl ?_
  cases h
  exact q_ireturn dJ6_bitCount_0f7a4_52 rfl hQ
set_option maxRecDepth 20000 in
theorem History_marksMade_ok {X : qX} (hL : ∀ c, c < 93 → c ∈ qLs X) (d : Nat) (S : qSto) (o : (Int × qSto)) (h : History_marksMade S = some o) (Q : Option qV → qSto → Prop) (hQ : Q (some (qi o.1)) o.2) : qC X (d + 1) yX2_marksMade cX2_marksMade 1 (some .int) [qr 12] S Q := by
  refine q_entry (lv := [(0, qr 12)]) pn_X2 (Nat.le_of_ble_eq_true rfl) rfl ?_
  unfold History_marksMade at h
  refine q_aload_n dX2_marksMade_0 rfl rfl ?_
  refine q_getI dX2_marksMade_1 fl_X2_23 (hL 12 (by decide)) sh_12 (by decide) rfl rfl ?_
  obtain ⟨q400, h401, h⟩ := Option.bind_eq_some_iff.mp h
  refine q_callSi (as := [qi (S 12 4)]) dX2_marksMade_4 ml_X2_35 rfl rfl (Nat.le_of_ble_eq_true rfl) (Ji_bitCount_ok hL d (S 12 4) _ _ h401) rfl ?_
  cases h
  exact q_ireturn dX2_marksMade_7 rfl hQ
set_option maxRecDepth 20000 in
theorem Told_contractOf_ok {X : qX} (hL : ∀ c, c < 93 → c ∈ qLs X) (d : Nat) (a1 : Int) (a2 : Int) (S : qSto) (o : (Int × qSto)) (h : Told_contractOf a1 a2 S = some o) (Q : Option qV → qSto → Prop) (hQ : Q (some (qi o.1)) o.2) : qC X d yX8_contractOf cX8_contractOf 3 (some .int) [qr 2, qi a1, qi a2] S Q := by
  refine q_entry (lv := [(0, qr 2), (1, qi a1), (2, qi a2)]) pn_X8 (Nat.le_of_ble_eq_true rfl) rfl ?_
  unfold Told_contractOf at h
  refine q_aload_n dX8_contractOf_0 rfl rfl ?_
  refine q_getA dX8_contractOf_1 fl_X8_36 (hL 2 (by decide)) sh_2 (by decide) rfl rfl ?_
  refine q_iload_n dX8_contractOf_4 rfl rfl ?_
  refine q_bipush dX8_contractOf_5 (by decide) rfl ?_
  refine q_imul dX8_contractOf_7 rfl ?_
  refine q_iload_n dX8_contractOf_8 rfl rfl ?_
  refine q_iadd dX8_contractOf_9 rfl ?_
  obtain ⟨c413, h⟩ := qk_some h
  refine q_iaload dX8_contractOf_10 (hL 23 (by decide)) sh_23 (qIx_0 c413) (qIx_1 c413) rfl ?_
  cases h
  exact q_ireturn dX8_contractOf_11 rfl hQ
set_option maxRecDepth 20000 in
theorem Stays_lateOf_ok {X : qX} (hL : ∀ c, c < 93 → c ∈ qLs X) (d : Nat) (a1 : Int) (S : qSto) (o : (Int × qSto)) (h : Stays_lateOf a1 S = some o) (Q : Option qV → qSto → Prop) (hQ : Q (some (qi o.1)) o.2) : qC X (d + 1) yX7_lateOf cX7_lateOf 2 (some .int) [qr 6, qi a1] S Q := by
  refine q_entry (lv := [(0, qr 6), (1, qi a1)]) pn_X7 (Nat.le_of_ble_eq_true rfl) rfl ?_
  unfold Stays_lateOf at h
  refine q_aload_n dX7_lateOf_0 rfl rfl ?_
  refine q_iload_n dX7_lateOf_1 rfl rfl ?_
  obtain ⟨q409, h410, h⟩ := Option.bind_eq_some_iff.mp h
  refine q_callVi (as := [qi a1]) (c := 6) dX7_lateOf_2 ml_X7_50 rfl rfl (hL 6 (by decide)) sh_6 rfl rfl (Nat.le_of_ble_eq_true rfl) (Stays_has_ok hL d a1 _ _ h410) rfl ?_
  obtain ⟨c411, h⟩ := qk_some h
  refine q_if_eq (tgt := 31) dX7_lateOf_5 (by decide) rfl (qRb_R c411)  (fun g => ?_) (fun g => ?_)
  · rw [if_pos (show q409.1 = 0 from g)] at h
    refine q_iconst dX7_lateOf_31 rfl rfl ?_
    cases h
    exact q_ireturn dX7_lateOf_32 rfl hQ
  · rw [if_neg (show ¬ (q409.1 = 0) from g)] at h
    refine q_iconst dX7_lateOf_8 rfl rfl ?_
    refine q_aload_n dX7_lateOf_9 rfl rfl ?_
    refine q_getA dX7_lateOf_10 fl_X7_27 (hL 6 (by decide)) sh_6 (by decide) rfl rfl ?_
    refine q_iload_n dX7_lateOf_13 rfl rfl ?_
    obtain ⟨c412, h⟩ := qk_some h
    refine q_iaload dX7_lateOf_14 (hL 42 (by decide)) sh_42 (qIx_0 c412) (qIx_1 c412) rfl ?_
    refine q_aload_n dX7_lateOf_15 rfl rfl ?_
    refine q_getA dX7_lateOf_16 fl_X7_36 (hL 6 (by decide)) sh_6 (by decide) rfl rfl ?_
    refine q_iload_n dX7_lateOf_19 rfl rfl ?_
    refine q_iconst dX7_lateOf_20 rfl rfl ?_
    obtain ⟨q414, h415, h⟩ := Option.bind_eq_some_iff.mp h
    refine q_callVi (as := [qi a1, qi 5]) (c := 2) dX7_lateOf_21 ml_X7_54 rfl rfl (hL 2 (by decide)) sh_2 rfl rfl (Nat.le_of_ble_eq_true rfl) (Told_contractOf_ok hL d a1 5 _ _ h415) rfl ?_
    refine q_isub dX7_lateOf_24 rfl ?_
    obtain ⟨q416, h417, h⟩ := Option.bind_eq_some_iff.mp h
    refine q_callSi (as := [qi 0, qi ((q409.2 42 (Int.toNat a1)) - q414.1)]) dX7_lateOf_25 ml_X7_108 rfl rfl (Nat.le_of_ble_eq_true rfl) (Jm_max_ok hL d 0 ((q409.2 42 (Int.toNat a1)) - q414.1) _ _ h417) rfl ?_
    refine q_goto (pc' := 32) dX7_lateOf_28 (by decide) ?_
    cases h
    exact q_ireturn dX7_lateOf_32 rfl hQ
set_option maxRecDepth 20000 in
theorem Stays_costOf_ok {X : qX} (hL : ∀ c, c < 93 → c ∈ qLs X) (d : Nat) (a1 : Int) (S : qSto) (o : (Int × qSto)) (h : Stays_costOf a1 S = some o) (Q : Option qV → qSto → Prop) (hQ : Q (some (qi o.1)) o.2) : qC X (d + 2) yX7_costOf cX7_costOf 2 (some .int) [qr 6, qi a1] S Q := by
  refine q_entry (lv := [(0, qr 6), (1, qi a1)]) pn_X7 (Nat.le_of_ble_eq_true rfl) rfl ?_
  unfold Stays_costOf at h
  refine q_aload_n dX7_costOf_0 rfl rfl ?_
  refine q_iload_n dX7_costOf_1 rfl rfl ?_
  obtain ⟨q418, h419, h⟩ := Option.bind_eq_some_iff.mp h
  refine q_callVi (as := [qi a1]) (c := 6) dX7_costOf_2 ml_X7_115 rfl rfl (hL 6 (by decide)) sh_6 rfl rfl (Nat.le_of_ble_eq_true rfl) (Stays_lateOf_ok hL d a1 _ _ h419) rfl ?_
  refine q_bipush dX7_costOf_5 (by decide) rfl ?_
  refine q_aload_n dX7_costOf_7 rfl rfl ?_
  refine q_getA dX7_costOf_8 fl_X7_36 (hL 6 (by decide)) sh_6 (by decide) rfl rfl ?_
  refine q_iload_n dX7_costOf_11 rfl rfl ?_
  refine q_bipush dX7_costOf_12 (by decide) rfl ?_
  obtain ⟨q420, h421, h⟩ := Option.bind_eq_some_iff.mp h
  refine q_callVi (as := [qi a1, qi 6]) (c := 2) dX7_costOf_14 ml_X7_54 rfl rfl (hL 2 (by decide)) sh_2 rfl rfl (Nat.le_of_ble_eq_true rfl) (Told_contractOf_ok hL (d + 1) a1 6 _ _ h421) rfl ?_
  refine q_ishr dX7_costOf_17 rfl ?_
  refine q_imul dX7_costOf_18 rfl ?_
  cases h
  exact q_ireturn dX7_costOf_19 rfl hQ
set_option maxRecDepth 20000 in
theorem C_costOfAll_L4_ok {X : qX} (hL : ∀ c, c < 93 → c ∈ qLs X) (d : Nat) {Q : Option qV → qSto → Prop} : ∀ (n : Nat) (x1 : Int) (x2 : Int) (S : qSto) (o : (Int × qSto)), C_costOfAll_L4 n x1 x2 S = some o → (qW X (d + 3) yX11_costOfAll cX11_costOfAll 3 (some .int) 43 [(1, qi o.1)] [] o.2 Q) → qW X (d + 3) yX11_costOfAll cX11_costOfAll 3 (some .int) 4 [(0, qr 0), (1, qi x1), (2, qi x2)] [] S Q := by
  intro n
  induction n with
  | zero =>
    intro x1 x2 S o h
    simp [C_costOfAll_L4] at h
  | succ n ih =>
    intro x1 x2 S o h hE
    rw [C_costOfAll_L4] at h
    refine q_iload_n dX11_costOfAll_4 rfl rfl ?_
    refine q_aload_n dX11_costOfAll_5 rfl rfl ?_
    refine q_getA dX11_costOfAll_6 fl_X11_16 (hL 0 (by decide)) sh_0 (by decide) rfl rfl ?_
    refine q_getI dX11_costOfAll_9 fl_X11_158 (hL 2 (by decide)) sh_2 (by decide) rfl rfl ?_
    obtain ⟨c404, h⟩ := qk_some h
    obtain ⟨c405, h⟩ := qk_some h
    refine q_icmp_ge (tgt := 43) dX11_costOfAll_12 (by decide) rfl (qRb_R c404) (qRb_R c405) (fun g => ?_) (fun g => ?_)
    · rw [if_pos (show (S 2 12) ≤ x2 from g)] at h
      cases h
      exact q_pick [1] rfl (hE)
    · rw [if_neg (show ¬ ((S 2 12) ≤ x2) from g)] at h
      refine q_aload_n dX11_costOfAll_15 rfl rfl ?_
      refine q_getA dX11_costOfAll_16 fl_X11_49 (hL 0 (by decide)) sh_0 (by decide) rfl rfl ?_
      refine q_iload_n dX11_costOfAll_19 rfl rfl ?_
      obtain ⟨q406, h407, h⟩ := Option.bind_eq_some_iff.mp h
      refine q_callVi (as := [qi x2]) (c := 6) dX11_costOfAll_20 ml_X11_178 rfl rfl (hL 6 (by decide)) sh_6 rfl rfl (Nat.le_of_ble_eq_true rfl) (Stays_has_ok hL (d + 2) x2 _ _ h407) rfl ?_
      refine q_jn (G := fun (t424 : (Int × qSto)) => qW X (d + 3) yX11_costOfAll cX11_costOfAll 3 (some .int) 37 [(0, qr 0), (1, qi t424.1), (2, qi x2)] [] t424.2 Q) h (fun t424 h => ?_) (fun t424 h hk4066 => ?_)
      · try dsimp only at h
        refine q_iinc (lv' := [(2, qi (x2 + 1)), (0, qr 0), (1, qi t424.1)]) dX11_costOfAll_37 (by decide) rfl rfl rfl ?_
        refine q_goto (pc' := 4) dX11_costOfAll_40 (by decide) ?_
        exact q_pick [1, 2, 0] rfl (ih t424.1 (x2 + 1) _ _ h hE)
      · skip
        obtain ⟨c408, h⟩ := qk_some h
        refine q_if_eq (tgt := 37) dX11_costOfAll_23 (by decide) rfl (qRb_R c408)  (fun g => ?_) (fun g => ?_)
        · rw [if_pos (show q406.1 = 0 from g)] at h
          cases h
          exact q_pick [0, 1, 2] rfl hk4066
        · rw [if_neg (show ¬ (q406.1 = 0) from g)] at h
          refine q_iload_n dX11_costOfAll_26 rfl rfl ?_
          refine q_aload_n dX11_costOfAll_27 rfl rfl ?_
          refine q_getA dX11_costOfAll_28 fl_X11_49 (hL 0 (by decide)) sh_0 (by decide) rfl rfl ?_
          refine q_iload_n dX11_costOfAll_31 rfl rfl ?_
          obtain ⟨q422, h423, h⟩ := Option.bind_eq_some_iff.mp h
          refine q_callVi (as := [qi x2]) (c := 6) dX11_costOfAll_32 ml_X11_182 rfl rfl (hL 6 (by decide)) sh_6 rfl rfl (Nat.le_of_ble_eq_true rfl) (Stays_costOf_ok hL d x2 _ _ h423) rfl ?_
          refine q_iadd dX11_costOfAll_35 rfl ?_
          refine q_istore_n (lv' := [(1, qi (x1 + q422.1)), (0, qr 0), (2, qi x2)]) dX11_costOfAll_36 (by decide) rfl rfl ?_
          cases h
          exact q_pick [1, 0, 2] rfl hk4066
set_option maxRecDepth 20000 in
theorem C_costOfAll_ok {X : qX} (hL : ∀ c, c < 93 → c ∈ qLs X) (d : Nat) (S : qSto) (o : (Int × qSto)) (h : C_costOfAll S = some o) (Q : Option qV → qSto → Prop) (hQ : Q (some (qi o.1)) o.2) : qC X (d + 3) yX11_costOfAll cX11_costOfAll 3 (some .int) [qr 0] S Q := by
  refine q_entry (lv := [(0, qr 0)]) pn_X11 (Nat.le_of_ble_eq_true rfl) rfl ?_
  unfold C_costOfAll at h
  refine q_iconst dX11_costOfAll_0 rfl rfl ?_
  refine q_istore_n (lv' := [(1, qi 0), (0, qr 0)]) dX11_costOfAll_1 (by decide) rfl rfl ?_
  refine q_iconst dX11_costOfAll_2 rfl rfl ?_
  refine q_istore_n (lv' := [(2, qi 0), (1, qi 0), (0, qr 0)]) dX11_costOfAll_3 (by decide) rfl rfl ?_
  obtain ⟨q425, h426, h⟩ := Option.bind_eq_some_iff.mp h
  refine q_pick [2, 1, 0] rfl (C_costOfAll_L4_ok hL d qF 0 0 _ _ h426 ?_)
  refine q_iload_n dX11_costOfAll_43 rfl rfl ?_
  cases h
  exact q_ireturn dX11_costOfAll_44 rfl hQ
set_option maxRecDepth 20000 in
theorem Stays_busyIn_L5_ok {X : qX} (hL : ∀ c, c < 93 → c ∈ qLs X) (d : Nat) {Q : Option qV → qSto → Prop} : ∀ (n : Nat) (x2 : Int) (x3 : Int) (x4 : Int) (S : qSto) (o : (Int × qSto)), Stays_busyIn_L5 n x2 x3 x4 S = some o → (qW X d yX7_busyIn cX7_busyIn 5 (some .int) 27 [(3, qi o.1)] [] o.2 Q) → qW X d yX7_busyIn cX7_busyIn 5 (some .int) 5 [(0, qr 6), (2, qi x2), (3, qi x3), (4, qi x4)] [] S Q := by
  intro n
  induction n with
  | zero =>
    intro x2 x3 x4 S o h
    simp [Stays_busyIn_L5] at h
  | succ n ih =>
    intro x2 x3 x4 S o h hE
    rw [Stays_busyIn_L5] at h
    refine q_iload dX7_busyIn_5 rfl rfl ?_
    refine q_iload_n dX7_busyIn_7 rfl rfl ?_
    obtain ⟨c429, h⟩ := qk_some h
    obtain ⟨c430, h⟩ := qk_some h
    refine q_icmp_ge (tgt := 27) dX7_busyIn_8 (by decide) rfl (qRb_R c429) (qRb_R c430) (fun g => ?_) (fun g => ?_)
    · rw [if_pos (show x2 ≤ x4 from g)] at h
      cases h
      exact q_pick [2] rfl (hE)
    · rw [if_neg (show ¬ (x2 ≤ x4) from g)] at h
      refine q_iload_n dX7_busyIn_11 rfl rfl ?_
      refine q_aload_n dX7_busyIn_12 rfl rfl ?_
      refine q_getA dX7_busyIn_13 fl_X7_30 (hL 6 (by decide)) sh_6 (by decide) rfl rfl ?_
      refine q_iload dX7_busyIn_16 rfl rfl ?_
      obtain ⟨c431, h⟩ := qk_some h
      refine q_iaload dX7_busyIn_18 (hL 43 (by decide)) sh_43 (qIx_0 c431) (qIx_1 c431) rfl ?_
      refine q_iadd dX7_busyIn_19 rfl ?_
      refine q_istore_n (lv' := [(3, qi (x3 + (S 43 (Int.toNat x4)))), (0, qr 6), (2, qi x2), (4, qi x4)]) dX7_busyIn_20 (by decide) rfl rfl ?_
      refine q_iinc (lv' := [(4, qi (x4 + 1)), (3, qi (x3 + (S 43 (Int.toNat x4)))), (0, qr 6), (2, qi x2)]) dX7_busyIn_21 (by decide) rfl rfl rfl ?_
      refine q_goto (pc' := 5) dX7_busyIn_24 (by decide) ?_
      exact q_pick [2, 3, 1, 0] rfl (ih x2 (x3 + (S 43 (Int.toNat x4))) (x4 + 1) _ _ h hE)
set_option maxRecDepth 20000 in
theorem Stays_busyIn_ok {X : qX} (hL : ∀ c, c < 93 → c ∈ qLs X) (d : Nat) (a1 : Int) (a2 : Int) (S : qSto) (o : (Int × qSto)) (h : Stays_busyIn a1 a2 S = some o) (Q : Option qV → qSto → Prop) (hQ : Q (some (qi o.1)) o.2) : qC X d yX7_busyIn cX7_busyIn 5 (some .int) [qr 6, qi a1, qi a2] S Q := by
  refine q_entry (lv := [(0, qr 6), (1, qi a1), (2, qi a2)]) pn_X7 (Nat.le_of_ble_eq_true rfl) rfl ?_
  unfold Stays_busyIn at h
  refine q_iconst dX7_busyIn_0 rfl rfl ?_
  refine q_istore_n (lv' := [(3, qi 0), (0, qr 6), (1, qi a1), (2, qi a2)]) dX7_busyIn_1 (by decide) rfl rfl ?_
  refine q_iload_n dX7_busyIn_2 rfl rfl ?_
  refine q_istore (lv' := [(4, qi a1), (3, qi 0), (0, qr 6), (1, qi a1), (2, qi a2)]) dX7_busyIn_3 (by decide) rfl rfl ?_
  obtain ⟨q432, h433, h⟩ := Option.bind_eq_some_iff.mp h
  refine q_pick [2, 4, 1, 0] rfl (Stays_busyIn_L5_ok hL d qF a2 0 a1 _ _ h433 ?_)
  refine q_iload_n dX7_busyIn_27 rfl rfl ?_
  cases h
  exact q_ireturn dX7_busyIn_28 rfl hQ
set_option maxRecDepth 20000 in
theorem C_count_ok {X : qX} (hL : ∀ c, c < 93 → c ∈ qLs X) (d : Nat) (a1 : Int) (S : qSto) (o : (Int × qSto)) (h : C_count a1 S = some o) (Q : Option qV → qSto → Prop) (hQ : Q (some (qi o.1)) o.2) : qC X (d + 4) yX11_count cX11_count 2 (some .int) [qr 0, qi a1] S Q := by
  refine q_entry (lv := [(0, qr 0), (1, qi a1)]) pn_X11 (Nat.le_of_ble_eq_true rfl) rfl ?_
  unfold C_count at h
  refine q_iload_n dX11_count_0 rfl rfl ?_
  obtain ⟨c386, h⟩ := qk_some h
  refine q_if_lt (tgt := 20) dX11_count_1 (by decide) rfl (qRb_R c386)  (fun g => ?_) (fun g => ?_)
  · rw [if_pos (show a1 < 0 from g)] at h
    refine q_iload_n dX11_count_20 rfl rfl ?_
    obtain ⟨c387, h⟩ := qk_some h
    by_cases e4067 : a1 = 6
    · rw [if_pos e4067] at h
      refine q_tsw (tgt := 154) dX11_count_21 (qRb_R c387) (by decide) (fun g => absurd g (by rw [e4067]; decide)) (fun _ _ => ⟨55, 76, by rw [e4067]; rfl, by decide, ?_⟩)
      refine q_aload_n dX11_count_76 rfl rfl ?_
      refine q_getA dX11_count_77 fl_X11_16 (hL 0 (by decide)) sh_0 (by decide) rfl rfl ?_
      refine q_getI dX11_count_80 fl_X11_149 (hL 2 (by decide)) sh_2 (by decide) rfl rfl ?_
      cases h
      exact q_ireturn dX11_count_83 rfl hQ
    · rw [if_neg e4067] at h
      by_cases e4068 : a1 = 7
      · rw [if_pos e4068] at h
        refine q_tsw (tgt := 154) dX11_count_21 (qRb_R c387) (by decide) (fun g => absurd g (by rw [e4068]; decide)) (fun _ _ => ⟨63, 84, by rw [e4068]; rfl, by decide, ?_⟩)
        refine q_aload_n dX11_count_84 rfl rfl ?_
        refine q_getA dX11_count_85 fl_X11_16 (hL 0 (by decide)) sh_0 (by decide) rfl rfl ?_
        refine q_getI dX11_count_88 fl_X11_152 (hL 2 (by decide)) sh_2 (by decide) rfl rfl ?_
        cases h
        exact q_ireturn dX11_count_91 rfl hQ
      · rw [if_neg e4068] at h
        by_cases e4069 : a1 = 8
        · rw [if_pos e4069] at h
          refine q_tsw (tgt := 154) dX11_count_21 (qRb_R c387) (by decide) (fun g => absurd g (by rw [e4069]; decide)) (fun _ _ => ⟨71, 92, by rw [e4069]; rfl, by decide, ?_⟩)
          refine q_aload_n dX11_count_92 rfl rfl ?_
          refine q_getA dX11_count_93 fl_X11_16 (hL 0 (by decide)) sh_0 (by decide) rfl rfl ?_
          refine q_getI dX11_count_96 fl_X11_155 (hL 2 (by decide)) sh_2 (by decide) rfl rfl ?_
          cases h
          exact q_ireturn dX11_count_99 rfl hQ
        · rw [if_neg e4069] at h
          by_cases e4070 : a1 = 9
          · rw [if_pos e4070] at h
            refine q_tsw (tgt := 154) dX11_count_21 (qRb_R c387) (by decide) (fun g => absurd g (by rw [e4070]; decide)) (fun _ _ => ⟨79, 100, by rw [e4070]; rfl, by decide, ?_⟩)
            refine q_aload_n dX11_count_100 rfl rfl ?_
            refine q_getA dX11_count_101 fl_X11_16 (hL 0 (by decide)) sh_0 (by decide) rfl rfl ?_
            refine q_getI dX11_count_104 fl_X11_158 (hL 2 (by decide)) sh_2 (by decide) rfl rfl ?_
            cases h
            exact q_ireturn dX11_count_107 rfl hQ
          · rw [if_neg e4070] at h
            by_cases e4071 : a1 = 10
            · rw [if_pos e4071] at h
              refine q_tsw (tgt := 154) dX11_count_21 (qRb_R c387) (by decide) (fun g => absurd g (by rw [e4071]; decide)) (fun _ _ => ⟨87, 108, by rw [e4071]; rfl, by decide, ?_⟩)
              refine q_aload_n dX11_count_108 rfl rfl ?_
              refine q_getA dX11_count_109 fl_X11_49 (hL 0 (by decide)) sh_0 (by decide) rfl rfl ?_
              obtain ⟨q398, h399, h⟩ := Option.bind_eq_some_iff.mp h
              refine q_callVi (as := []) (c := 6) dX11_count_112 ml_X11_161 rfl rfl (hL 6 (by decide)) sh_6 rfl rfl (Nat.le_of_ble_eq_true rfl) (Stays_howMany_ok hL (d + 2) _ _ h399) rfl ?_
              cases h
              exact q_ireturn dX11_count_115 rfl hQ
            · rw [if_neg e4071] at h
              by_cases e4072 : a1 = 11
              · rw [if_pos e4072] at h
                refine q_tsw (tgt := 154) dX11_count_21 (qRb_R c387) (by decide) (fun g => absurd g (by rw [e4072]; decide)) (fun _ _ => ⟨95, 116, by rw [e4072]; rfl, by decide, ?_⟩)
                refine q_aload_n dX11_count_116 rfl rfl ?_
                refine q_getA dX11_count_117 fl_X11_99 (hL 0 (by decide)) sh_0 (by decide) rfl rfl ?_
                refine q_getI dX11_count_120 fl_X11_165 (hL 12 (by decide)) sh_12 (by decide) rfl rfl ?_
                cases h
                exact q_ireturn dX11_count_123 rfl hQ
              · rw [if_neg e4072] at h
                by_cases e4073 : a1 = 12
                · rw [if_pos e4073] at h
                  refine q_tsw (tgt := 154) dX11_count_21 (qRb_R c387) (by decide) (fun g => absurd g (by rw [e4073]; decide)) (fun _ _ => ⟨103, 124, by rw [e4073]; rfl, by decide, ?_⟩)
                  refine q_aload_n dX11_count_124 rfl rfl ?_
                  refine q_getA dX11_count_125 fl_X11_99 (hL 0 (by decide)) sh_0 (by decide) rfl rfl ?_
                  obtain ⟨q402, h403, h⟩ := Option.bind_eq_some_iff.mp h
                  refine q_callVi (as := []) (c := 12) dX11_count_128 ml_X11_168 rfl rfl (hL 12 (by decide)) sh_12 rfl rfl (Nat.le_of_ble_eq_true rfl) (History_marksMade_ok hL (d + 2) _ _ h403) rfl ?_
                  cases h
                  exact q_ireturn dX11_count_131 rfl hQ
                · rw [if_neg e4073] at h
                  by_cases e4074 : a1 = 13
                  · rw [if_pos e4074] at h
                    refine q_tsw (tgt := 154) dX11_count_21 (qRb_R c387) (by decide) (fun g => absurd g (by rw [e4074]; decide)) (fun _ _ => ⟨111, 132, by rw [e4074]; rfl, by decide, ?_⟩)
                    refine q_aload_n dX11_count_132 rfl rfl ?_
                    refine q_getI dX11_count_133 fl_X11_114 (hL 0 (by decide)) sh_0 (by decide) rfl rfl ?_
                    cases h
                    exact q_ireturn dX11_count_136 rfl hQ
                  · rw [if_neg e4074] at h
                    by_cases e4075 : a1 = 14
                    · rw [if_pos e4075] at h
                      refine q_tsw (tgt := 154) dX11_count_21 (qRb_R c387) (by decide) (fun g => absurd g (by rw [e4075]; decide)) (fun _ _ => ⟨116, 137, by rw [e4075]; rfl, by decide, ?_⟩)
                      refine q_aload_n dX11_count_137 rfl rfl ?_
                      obtain ⟨q427, h428, h⟩ := Option.bind_eq_some_iff.mp h
                      refine q_callVi (as := []) (c := 0) dX11_count_138 ml_X11_171 rfl rfl (hL 0 (by decide)) sh_0 rfl rfl (Nat.le_of_ble_eq_true rfl) (C_costOfAll_ok hL d _ _ h428) rfl ?_
                      cases h
                      exact q_ireturn dX11_count_141 rfl hQ
                    · rw [if_neg e4075] at h
                      by_cases e4076 : a1 = 15
                      · rw [if_pos e4076] at h
                        refine q_tsw (tgt := 154) dX11_count_21 (qRb_R c387) (by decide) (fun g => absurd g (by rw [e4076]; decide)) (fun _ _ => ⟨121, 142, by rw [e4076]; rfl, by decide, ?_⟩)
                        refine q_aload_n dX11_count_142 rfl rfl ?_
                        refine q_getA dX11_count_143 fl_X11_49 (hL 0 (by decide)) sh_0 (by decide) rfl rfl ?_
                        refine q_iconst dX11_count_146 rfl rfl ?_
                        refine q_sipush dX11_count_147 (by decide) rfl ?_
                        obtain ⟨q434, h435, h⟩ := Option.bind_eq_some_iff.mp h
                        refine q_callVi (as := [qi 0, qi 336]) (c := 6) dX11_count_150 ml_X11_174 rfl rfl (hL 6 (by decide)) sh_6 rfl rfl (Nat.le_of_ble_eq_true rfl) (Stays_busyIn_ok hL (d + 3) 0 336 _ _ h435) rfl ?_
                        cases h
                        exact q_ireturn dX11_count_153 rfl hQ
                      · rw [if_neg e4076] at h
                        refine q_tsw (tgt := 154) dX11_count_21 (qRb_R c387) (by decide) (fun _ => ?_) (fun g1 g2 => absurd g1 (by omega))
                        refine q_iconst dX11_count_154 rfl rfl ?_
                        cases h
                        exact q_ireturn dX11_count_155 rfl hQ
  · rw [if_neg (show ¬ (a1 < 0) from g)] at h
    refine q_iload_n dX11_count_4 rfl rfl ?_
    refine q_bipush dX11_count_5 (by decide) rfl ?_
    obtain ⟨c436, h⟩ := qk_some h
    refine q_icmp_ge (tgt := 20) dX11_count_7 (by decide) rfl (qRb_R c436) ⟨by decide, by decide⟩ (fun g => ?_) (fun g => ?_)
    · rw [if_pos (show 6 ≤ a1 from g)] at h
      refine q_iload_n dX11_count_20 rfl rfl ?_
      obtain ⟨c437, h⟩ := qk_some h
      by_cases e4077 : a1 = 6
      · rw [if_pos e4077] at h
        refine q_tsw (tgt := 154) dX11_count_21 (qRb_R c437) (by decide) (fun g => absurd g (by rw [e4077]; decide)) (fun _ _ => ⟨55, 76, by rw [e4077]; rfl, by decide, ?_⟩)
        refine q_aload_n dX11_count_76 rfl rfl ?_
        refine q_getA dX11_count_77 fl_X11_16 (hL 0 (by decide)) sh_0 (by decide) rfl rfl ?_
        refine q_getI dX11_count_80 fl_X11_149 (hL 2 (by decide)) sh_2 (by decide) rfl rfl ?_
        cases h
        exact q_ireturn dX11_count_83 rfl hQ
      · rw [if_neg e4077] at h
        by_cases e4078 : a1 = 7
        · rw [if_pos e4078] at h
          refine q_tsw (tgt := 154) dX11_count_21 (qRb_R c437) (by decide) (fun g => absurd g (by rw [e4078]; decide)) (fun _ _ => ⟨63, 84, by rw [e4078]; rfl, by decide, ?_⟩)
          refine q_aload_n dX11_count_84 rfl rfl ?_
          refine q_getA dX11_count_85 fl_X11_16 (hL 0 (by decide)) sh_0 (by decide) rfl rfl ?_
          refine q_getI dX11_count_88 fl_X11_152 (hL 2 (by decide)) sh_2 (by decide) rfl rfl ?_
          cases h
          exact q_ireturn dX11_count_91 rfl hQ
        · rw [if_neg e4078] at h
          by_cases e4079 : a1 = 8
          · rw [if_pos e4079] at h
            refine q_tsw (tgt := 154) dX11_count_21 (qRb_R c437) (by decide) (fun g => absurd g (by rw [e4079]; decide)) (fun _ _ => ⟨71, 92, by rw [e4079]; rfl, by decide, ?_⟩)
            refine q_aload_n dX11_count_92 rfl rfl ?_
            refine q_getA dX11_count_93 fl_X11_16 (hL 0 (by decide)) sh_0 (by decide) rfl rfl ?_
            refine q_getI dX11_count_96 fl_X11_155 (hL 2 (by decide)) sh_2 (by decide) rfl rfl ?_
            cases h
            exact q_ireturn dX11_count_99 rfl hQ
          · rw [if_neg e4079] at h
            by_cases e4080 : a1 = 9
            · rw [if_pos e4080] at h
              refine q_tsw (tgt := 154) dX11_count_21 (qRb_R c437) (by decide) (fun g => absurd g (by rw [e4080]; decide)) (fun _ _ => ⟨79, 100, by rw [e4080]; rfl, by decide, ?_⟩)
              refine q_aload_n dX11_count_100 rfl rfl ?_
              refine q_getA dX11_count_101 fl_X11_16 (hL 0 (by decide)) sh_0 (by decide) rfl rfl ?_
              refine q_getI dX11_count_104 fl_X11_158 (hL 2 (by decide)) sh_2 (by decide) rfl rfl ?_
              cases h
              exact q_ireturn dX11_count_107 rfl hQ
            · rw [if_neg e4080] at h
              by_cases e4081 : a1 = 10
              · rw [if_pos e4081] at h
                refine q_tsw (tgt := 154) dX11_count_21 (qRb_R c437) (by decide) (fun g => absurd g (by rw [e4081]; decide)) (fun _ _ => ⟨87, 108, by rw [e4081]; rfl, by decide, ?_⟩)
                refine q_aload_n dX11_count_108 rfl rfl ?_
                refine q_getA dX11_count_109 fl_X11_49 (hL 0 (by decide)) sh_0 (by decide) rfl rfl ?_
                obtain ⟨q438, h439, h⟩ := Option.bind_eq_some_iff.mp h
                refine q_callVi (as := []) (c := 6) dX11_count_112 ml_X11_161 rfl rfl (hL 6 (by decide)) sh_6 rfl rfl (Nat.le_of_ble_eq_true rfl) (Stays_howMany_ok hL (d + 2) _ _ h439) rfl ?_
                cases h
                exact q_ireturn dX11_count_115 rfl hQ
              · rw [if_neg e4081] at h
                by_cases e4082 : a1 = 11
                · rw [if_pos e4082] at h
                  refine q_tsw (tgt := 154) dX11_count_21 (qRb_R c437) (by decide) (fun g => absurd g (by rw [e4082]; decide)) (fun _ _ => ⟨95, 116, by rw [e4082]; rfl, by decide, ?_⟩)
                  refine q_aload_n dX11_count_116 rfl rfl ?_
                  refine q_getA dX11_count_117 fl_X11_99 (hL 0 (by decide)) sh_0 (by decide) rfl rfl ?_
                  refine q_getI dX11_count_120 fl_X11_165 (hL 12 (by decide)) sh_12 (by decide) rfl rfl ?_
                  cases h
                  exact q_ireturn dX11_count_123 rfl hQ
                · rw [if_neg e4082] at h
                  by_cases e4083 : a1 = 12
                  · rw [if_pos e4083] at h
                    refine q_tsw (tgt := 154) dX11_count_21 (qRb_R c437) (by decide) (fun g => absurd g (by rw [e4083]; decide)) (fun _ _ => ⟨103, 124, by rw [e4083]; rfl, by decide, ?_⟩)
                    refine q_aload_n dX11_count_124 rfl rfl ?_
                    refine q_getA dX11_count_125 fl_X11_99 (hL 0 (by decide)) sh_0 (by decide) rfl rfl ?_
                    obtain ⟨q440, h441, h⟩ := Option.bind_eq_some_iff.mp h
                    refine q_callVi (as := []) (c := 12) dX11_count_128 ml_X11_168 rfl rfl (hL 12 (by decide)) sh_12 rfl rfl (Nat.le_of_ble_eq_true rfl) (History_marksMade_ok hL (d + 2) _ _ h441) rfl ?_
                    cases h
                    exact q_ireturn dX11_count_131 rfl hQ
                  · rw [if_neg e4083] at h
                    by_cases e4084 : a1 = 13
                    · rw [if_pos e4084] at h
                      refine q_tsw (tgt := 154) dX11_count_21 (qRb_R c437) (by decide) (fun g => absurd g (by rw [e4084]; decide)) (fun _ _ => ⟨111, 132, by rw [e4084]; rfl, by decide, ?_⟩)
                      refine q_aload_n dX11_count_132 rfl rfl ?_
                      refine q_getI dX11_count_133 fl_X11_114 (hL 0 (by decide)) sh_0 (by decide) rfl rfl ?_
                      cases h
                      exact q_ireturn dX11_count_136 rfl hQ
                    · rw [if_neg e4084] at h
                      by_cases e4085 : a1 = 14
                      · rw [if_pos e4085] at h
                        refine q_tsw (tgt := 154) dX11_count_21 (qRb_R c437) (by decide) (fun g => absurd g (by rw [e4085]; decide)) (fun _ _ => ⟨116, 137, by rw [e4085]; rfl, by decide, ?_⟩)
                        refine q_aload_n dX11_count_137 rfl rfl ?_
                        obtain ⟨q442, h443, h⟩ := Option.bind_eq_some_iff.mp h
                        refine q_callVi (as := []) (c := 0) dX11_count_138 ml_X11_171 rfl rfl (hL 0 (by decide)) sh_0 rfl rfl (Nat.le_of_ble_eq_true rfl) (C_costOfAll_ok hL d _ _ h443) rfl ?_
                        cases h
                        exact q_ireturn dX11_count_141 rfl hQ
                      · rw [if_neg e4085] at h
                        by_cases e4086 : a1 = 15
                        · rw [if_pos e4086] at h
                          refine q_tsw (tgt := 154) dX11_count_21 (qRb_R c437) (by decide) (fun g => absurd g (by rw [e4086]; decide)) (fun _ _ => ⟨121, 142, by rw [e4086]; rfl, by decide, ?_⟩)
                          refine q_aload_n dX11_count_142 rfl rfl ?_
                          refine q_getA dX11_count_143 fl_X11_49 (hL 0 (by decide)) sh_0 (by decide) rfl rfl ?_
                          refine q_iconst dX11_count_146 rfl rfl ?_
                          refine q_sipush dX11_count_147 (by decide) rfl ?_
                          obtain ⟨q444, h445, h⟩ := Option.bind_eq_some_iff.mp h
                          refine q_callVi (as := [qi 0, qi 336]) (c := 6) dX11_count_150 ml_X11_174 rfl rfl (hL 6 (by decide)) sh_6 rfl rfl (Nat.le_of_ble_eq_true rfl) (Stays_busyIn_ok hL (d + 3) 0 336 _ _ h445) rfl ?_
                          cases h
                          exact q_ireturn dX11_count_153 rfl hQ
                        · rw [if_neg e4086] at h
                          refine q_tsw (tgt := 154) dX11_count_21 (qRb_R c437) (by decide) (fun _ => ?_) (fun g1 g2 => absurd g1 (by omega))
                          refine q_iconst dX11_count_154 rfl rfl ?_
                          cases h
                          exact q_ireturn dX11_count_155 rfl hQ
    · rw [if_neg (show ¬ (6 ≤ a1) from g)] at h
      refine q_aload_n dX11_count_10 rfl rfl ?_
      refine q_getA dX11_count_11 fl_X11_16 (hL 0 (by decide)) sh_0 (by decide) rfl rfl ?_
      refine q_getA dX11_count_14 fl_X11_146 (hL 2 (by decide)) sh_2 (by decide) rfl rfl ?_
      refine q_iload_n dX11_count_17 rfl rfl ?_
      obtain ⟨c446, h⟩ := qk_some h
      refine q_iaload dX11_count_18 (hL 15 (by decide)) sh_15 (qIx_0 c446) (qIx_1 c446) rfl ?_
      cases h
      exact q_ireturn dX11_count_19 rfl hQ
set_option maxRecDepth 20000 in
theorem C_isMetre_ok {X : qX} (hL : ∀ c, c < 93 → c ∈ qLs X) (d : Nat) (a1 : Int) (S : qSto) (o : (Int × qSto)) (h : C_isMetre a1 S = some o) (Q : Option qV → qSto → Prop) (hQ : Q (some (qi o.1)) o.2) : qC X d yX11_isMetre cX11_isMetre 2 (some .boolean) [qr 0, qi a1] S Q := by
  refine q_entry (lv := [(0, qr 0), (1, qi a1)]) pn_X11 (Nat.le_of_ble_eq_true rfl) rfl ?_
  unfold C_isMetre at h
  refine q_iload_n dX11_isMetre_0 rfl rfl ?_
  obtain ⟨c447, h⟩ := qk_some h
  refine q_if_lt (tgt := 21) dX11_isMetre_1 (by decide) rfl (qRb_R c447)  (fun g => ?_) (fun g => ?_)
  · rw [if_pos (show a1 < 0 from g)] at h
    refine q_iconst dX11_isMetre_21 rfl rfl ?_
    cases h
    exact q_zreturn dX11_isMetre_22 rfl (by decide) hQ
  · rw [if_neg (show ¬ (a1 < 0) from g)] at h
    refine q_iload_n dX11_isMetre_4 rfl rfl ?_
    refine q_aload_n dX11_isMetre_5 rfl rfl ?_
    refine q_getA dX11_isMetre_6 fl_X11_16 (hL 0 (by decide)) sh_0 (by decide) rfl rfl ?_
    refine q_getA dX11_isMetre_9 fl_X11_146 (hL 2 (by decide)) sh_2 (by decide) rfl rfl ?_
    refine q_iconst dX11_isMetre_12 rfl rfl ?_
    refine q_iaload dX11_isMetre_13 (hL 15 (by decide)) sh_15 (by decide) (by decide) rfl ?_
    obtain ⟨c448, h⟩ := qk_some h
    obtain ⟨c449, h⟩ := qk_some h
    refine q_icmp_ge (tgt := 21) dX11_isMetre_14 (by decide) rfl (qRb_R c448) (qRb_R c449) (fun g => ?_) (fun g => ?_)
    · rw [if_pos (show (S 15 0) ≤ a1 from g)] at h
      refine q_iconst dX11_isMetre_21 rfl rfl ?_
      cases h
      exact q_zreturn dX11_isMetre_22 rfl (by decide) hQ
    · rw [if_neg (show ¬ ((S 15 0) ≤ a1) from g)] at h
      refine q_iconst dX11_isMetre_17 rfl rfl ?_
      refine q_goto (pc' := 22) dX11_isMetre_18 (by decide) ?_
      cases h
      exact q_zreturn dX11_isMetre_22 rfl (by decide) hQ
set_option maxRecDepth 20000 in
theorem Told_depthOf_L8_ok {X : qX} (hL : ∀ c, c < 93 → c ∈ qLs X) (d : Nat) {Q : Option qV → qSto → Prop} : ∀ (n : Nat) (x1 : Int) (x2 : Int) (x3 : Int) (x4 : Int) (S : qSto) (o : (Int × qSto)), Told_depthOf_L8 n x1 x2 x3 x4 S = some o → (qW X d yX8_depthOf cX8_depthOf 5 (some .int) 61 [(3, qi o.1)] [] o.2 Q) → qW X d yX8_depthOf cX8_depthOf 5 (some .int) 8 [(0, qr 2), (1, qi x1), (2, qi x2), (3, qi x3), (4, qi x4)] [] S Q := by
  intro n
  induction n with
  | zero =>
    intro x1 x2 x3 x4 S o h
    simp [Told_depthOf_L8] at h
  | succ n ih =>
    intro x1 x2 x3 x4 S o h hE
    rw [Told_depthOf_L8] at h
    refine q_iload dX8_depthOf_8 rfl rfl ?_
    refine q_aload_n dX8_depthOf_10 rfl rfl ?_
    refine q_getI dX8_depthOf_11 fl_X8_55 (hL 2 (by decide)) sh_2 (by decide) rfl rfl ?_
    obtain ⟨c453, h⟩ := qk_some h
    obtain ⟨c454, h⟩ := qk_some h
    refine q_icmp_ge (tgt := 61) dX8_depthOf_14 (by decide) rfl (qRb_R c453) (qRb_R c454) (fun g => ?_) (fun g => ?_)
    · rw [if_pos (show (S 2 2) ≤ x4 from g)] at h
      cases h
      exact q_pick [3] rfl (hE)
    · rw [if_neg (show ¬ ((S 2 2) ≤ x4) from g)] at h
      refine q_aload_n dX8_depthOf_17 rfl rfl ?_
      refine q_getA dX8_depthOf_18 fl_X8_15 (hL 2 (by decide)) sh_2 (by decide) rfl rfl ?_
      refine q_iload dX8_depthOf_21 rfl rfl ?_
      obtain ⟨c455, h⟩ := qk_some h
      refine q_iaload dX8_depthOf_23 (hL 16 (by decide)) sh_16 (qIx_0 c455) (qIx_1 c455) rfl ?_
      refine q_iload_n dX8_depthOf_24 rfl rfl ?_
      refine q_jn (G := fun (t463 : (Int × Int)) => qW X d yX8_depthOf cX8_depthOf 5 (some .int) 55 [(0, qr 2), (1, qi x1), (2, qi t463.1), (3, qi t463.2), (4, qi x4)] [] S Q) h (fun t463 h => ?_) (fun t463 h hk4087 => ?_)
      · try dsimp only at h
        refine q_iinc (lv' := [(4, qi (x4 + 1)), (0, qr 2), (1, qi x1), (2, qi t463.1), (3, qi t463.2)]) dX8_depthOf_55 (by decide) rfl rfl rfl ?_
        refine q_goto (pc' := 8) dX8_depthOf_58 (by decide) ?_
        exact q_pick [1, 2, 3, 4, 0] rfl (ih x1 t463.1 t463.2 (x4 + 1) _ _ h hE)
      · skip
        obtain ⟨c456, h⟩ := qk_some h
        obtain ⟨c457, h⟩ := qk_some h
        refine q_icmp_gt (tgt := 55) dX8_depthOf_25 (by decide) rfl (qRb_R c456) (qRb_R c457) (fun g => ?_) (fun g => ?_)
        · rw [if_pos (show x1 < (S 16 (Int.toNat x4)) from g)] at h
          cases h
          exact q_pick [0, 1, 2, 3, 4] rfl hk4087
        · rw [if_neg (show ¬ (x1 < (S 16 (Int.toNat x4))) from g)] at h
          refine q_aload_n dX8_depthOf_28 rfl rfl ?_
          refine q_getA dX8_depthOf_29 fl_X8_15 (hL 2 (by decide)) sh_2 (by decide) rfl rfl ?_
          refine q_iload dX8_depthOf_32 rfl rfl ?_
          obtain ⟨c458, h⟩ := qk_some h
          refine q_iaload dX8_depthOf_34 (hL 16 (by decide)) sh_16 (qIx_0 c458) (qIx_1 c458) rfl ?_
          refine q_iload_n dX8_depthOf_35 rfl rfl ?_
          obtain ⟨c459, h⟩ := qk_some h
          obtain ⟨c460, h⟩ := qk_some h
          refine q_icmp_le (tgt := 55) dX8_depthOf_36 (by decide) rfl (qRb_R c459) (qRb_R c460) (fun g => ?_) (fun g => ?_)
          · rw [if_pos (show (S 16 (Int.toNat x4)) ≤ x2 from g)] at h
            cases h
            exact q_pick [0, 1, 2, 3, 4] rfl hk4087
          · rw [if_neg (show ¬ ((S 16 (Int.toNat x4)) ≤ x2) from g)] at h
            refine q_aload_n dX8_depthOf_39 rfl rfl ?_
            refine q_getA dX8_depthOf_40 fl_X8_15 (hL 2 (by decide)) sh_2 (by decide) rfl rfl ?_
            refine q_iload dX8_depthOf_43 rfl rfl ?_
            obtain ⟨c461, h⟩ := qk_some h
            refine q_iaload dX8_depthOf_45 (hL 16 (by decide)) sh_16 (qIx_0 c461) (qIx_1 c461) rfl ?_
            refine q_istore_n (lv' := [(2, qi (S 16 (Int.toNat x4))), (0, qr 2), (1, qi x1), (3, qi x3), (4, qi x4)]) dX8_depthOf_46 (by decide) rfl rfl ?_
            refine q_aload_n dX8_depthOf_47 rfl rfl ?_
            refine q_getA dX8_depthOf_48 fl_X8_18 (hL 2 (by decide)) sh_2 (by decide) rfl rfl ?_
            refine q_iload dX8_depthOf_51 rfl rfl ?_
            obtain ⟨c462, h⟩ := qk_some h
            refine q_iaload dX8_depthOf_53 (hL 17 (by decide)) sh_17 (qIx_0 c462) (qIx_1 c462) rfl ?_
            refine q_istore_n (lv' := [(3, qi (S 17 (Int.toNat x4))), (2, qi (S 16 (Int.toNat x4))), (0, qr 2), (1, qi x1), (4, qi x4)]) dX8_depthOf_54 (by decide) rfl rfl ?_
            cases h
            exact q_pick [2, 3, 1, 0, 4] rfl hk4087
set_option maxRecDepth 20000 in
theorem Told_depthOf_ok {X : qX} (hL : ∀ c, c < 93 → c ∈ qLs X) (d : Nat) (a1 : Int) (S : qSto) (o : (Int × qSto)) (h : Told_depthOf a1 S = some o) (Q : Option qV → qSto → Prop) (hQ : Q (some (qi o.1)) o.2) : qC X d yX8_depthOf cX8_depthOf 5 (some .int) [qr 2, qi a1] S Q := by
  refine q_entry (lv := [(0, qr 2), (1, qi a1)]) pn_X8 (Nat.le_of_ble_eq_true rfl) rfl ?_
  unfold Told_depthOf at h
  refine q_iconst dX8_depthOf_0 rfl rfl ?_
  refine q_istore_n (lv' := [(2, qi (-1)), (0, qr 2), (1, qi a1)]) dX8_depthOf_1 (by decide) rfl rfl ?_
  refine q_bipush dX8_depthOf_2 (by decide) rfl ?_
  refine q_istore_n (lv' := [(3, qi 100), (2, qi (-1)), (0, qr 2), (1, qi a1)]) dX8_depthOf_4 (by decide) rfl rfl ?_
  refine q_iconst dX8_depthOf_5 rfl rfl ?_
  refine q_istore (lv' := [(4, qi 0), (3, qi 100), (2, qi (-1)), (0, qr 2), (1, qi a1)]) dX8_depthOf_6 (by decide) rfl rfl ?_
  obtain ⟨q464, h465, h⟩ := Option.bind_eq_some_iff.mp h
  refine q_pick [3, 4, 2, 1, 0] rfl (Told_depthOf_L8_ok hL d qF a1 (-1) 100 0 _ _ h465 ?_)
  refine q_iload_n dX8_depthOf_61 rfl rfl ?_
  cases h
  exact q_ireturn dX8_depthOf_62 rfl hQ
set_option maxRecDepth 20000 in
theorem C_depth_ok {X : qX} (hL : ∀ c, c < 93 → c ∈ qLs X) (d : Nat) (a1 : Int) (S : qSto) (o : (Int × qSto)) (h : C_depth a1 S = some o) (Q : Option qV → qSto → Prop) (hQ : Q (some (qi o.1)) o.2) : qC X (d + 1) yX11_depth cX11_depth 2 (some .int) [qr 0, qi a1] S Q := by
  refine q_entry (lv := [(0, qr 0), (1, qi a1)]) pn_X11 (Nat.le_of_ble_eq_true rfl) rfl ?_
  unfold C_depth at h
  refine q_aload_n dX11_depth_0 rfl rfl ?_
  refine q_iload_n dX11_depth_1 rfl rfl ?_
  obtain ⟨q450, h451, h⟩ := Option.bind_eq_some_iff.mp h
  refine q_callVi (as := [qi a1]) (c := 0) dX11_depth_2 ml_X11_185 rfl rfl (hL 0 (by decide)) sh_0 rfl rfl (Nat.le_of_ble_eq_true rfl) (C_isMetre_ok hL d a1 _ _ h451) rfl ?_
  obtain ⟨c452, h⟩ := qk_some h
  refine q_if_eq (tgt := 19) dX11_depth_5 (by decide) rfl (qRb_R c452)  (fun g => ?_) (fun g => ?_)
  · rw [if_pos (show q450.1 = 0 from g)] at h
    refine q_iconst dX11_depth_19 rfl rfl ?_
    cases h
    exact q_ireturn dX11_depth_20 rfl hQ
  · rw [if_neg (show ¬ (q450.1 = 0) from g)] at h
    refine q_aload_n dX11_depth_8 rfl rfl ?_
    refine q_getA dX11_depth_9 fl_X11_16 (hL 0 (by decide)) sh_0 (by decide) rfl rfl ?_
    refine q_iload_n dX11_depth_12 rfl rfl ?_
    obtain ⟨q466, h467, h⟩ := Option.bind_eq_some_iff.mp h
    refine q_callVi (as := [qi a1]) (c := 2) dX11_depth_13 ml_X11_188 rfl rfl (hL 2 (by decide)) sh_2 rfl rfl (Nat.le_of_ble_eq_true rfl) (Told_depthOf_ok hL d a1 _ _ h467) rfl ?_
    refine q_goto (pc' := 20) dX11_depth_16 (by decide) ?_
    cases h
    exact q_ireturn dX11_depth_20 rfl hQ
set_option maxRecDepth 20000 in
theorem Told_shallowest_L9_ok {X : qX} (hL : ∀ c, c < 93 → c ∈ qLs X) (d : Nat) {Q : Option qV → qSto → Prop} : ∀ (n : Nat) (x1 : Int) (x2 : Int) (x3 : Int) (x4 : Int) (S : qSto) (o : (Int × qSto)), Told_shallowest_L9 n x1 x2 x3 x4 S = some o → (qW X (d + 1) yX8_shallowest cX8_shallowest 5 (some .int) 58 [(3, qi o.1)] [] o.2 Q) → qW X (d + 1) yX8_shallowest cX8_shallowest 5 (some .int) 9 [(0, qr 2), (1, qi x1), (2, qi x2), (3, qi x3), (4, qi x4)] [] S Q := by
  intro n
  induction n with
  | zero =>
    intro x1 x2 x3 x4 S o h
    simp [Told_shallowest_L9] at h
  | succ n ih =>
    intro x1 x2 x3 x4 S o h hE
    rw [Told_shallowest_L9] at h
    refine q_iload dX8_shallowest_9 rfl rfl ?_
    refine q_aload_n dX8_shallowest_11 rfl rfl ?_
    refine q_getI dX8_shallowest_12 fl_X8_55 (hL 2 (by decide)) sh_2 (by decide) rfl rfl ?_
    obtain ⟨c478, h⟩ := qk_some h
    obtain ⟨c479, h⟩ := qk_some h
    refine q_icmp_ge (tgt := 58) dX8_shallowest_15 (by decide) rfl (qRb_R c478) (qRb_R c479) (fun g => ?_) (fun g => ?_)
    · rw [if_pos (show (S 2 2) ≤ x4 from g)] at h
      cases h
      exact q_pick [3] rfl (hE)
    · rw [if_neg (show ¬ ((S 2 2) ≤ x4) from g)] at h
      refine q_aload_n dX8_shallowest_18 rfl rfl ?_
      refine q_getA dX8_shallowest_19 fl_X8_15 (hL 2 (by decide)) sh_2 (by decide) rfl rfl ?_
      refine q_iload dX8_shallowest_22 rfl rfl ?_
      obtain ⟨c480, h⟩ := qk_some h
      refine q_iaload dX8_shallowest_24 (hL 16 (by decide)) sh_16 (qIx_0 c480) (qIx_1 c480) rfl ?_
      refine q_iload_n dX8_shallowest_25 rfl rfl ?_
      refine q_jn (G := fun (t489 : (Int × qSto)) => qW X (d + 1) yX8_shallowest cX8_shallowest 5 (some .int) 52 [(0, qr 2), (1, qi x1), (2, qi x2), (3, qi t489.1), (4, qi x4)] [] t489.2 Q) h (fun t489 h => ?_) (fun t489 h hk4088 => ?_)
      · try dsimp only at h
        refine q_iinc (lv' := [(4, qi (x4 + 1)), (0, qr 2), (1, qi x1), (2, qi x2), (3, qi t489.1)]) dX8_shallowest_52 (by decide) rfl rfl rfl ?_
        refine q_goto (pc' := 9) dX8_shallowest_55 (by decide) ?_
        exact q_pick [1, 2, 3, 4, 0] rfl (ih x1 x2 t489.1 (x4 + 1) _ _ h hE)
      · skip
        obtain ⟨c481, h⟩ := qk_some h
        obtain ⟨c482, h⟩ := qk_some h
        refine q_icmp_le (tgt := 52) dX8_shallowest_26 (by decide) rfl (qRb_R c481) (qRb_R c482) (fun g => ?_) (fun g => ?_)
        · rw [if_pos (show (S 16 (Int.toNat x4)) ≤ x1 from g)] at h
          cases h
          exact q_pick [0, 1, 2, 3, 4] rfl hk4088
        · rw [if_neg (show ¬ ((S 16 (Int.toNat x4)) ≤ x1) from g)] at h
          refine q_aload_n dX8_shallowest_29 rfl rfl ?_
          refine q_getA dX8_shallowest_30 fl_X8_15 (hL 2 (by decide)) sh_2 (by decide) rfl rfl ?_
          refine q_iload dX8_shallowest_33 rfl rfl ?_
          obtain ⟨c483, h⟩ := qk_some h
          refine q_iaload dX8_shallowest_35 (hL 16 (by decide)) sh_16 (qIx_0 c483) (qIx_1 c483) rfl ?_
          refine q_iload_n dX8_shallowest_36 rfl rfl ?_
          obtain ⟨c484, h⟩ := qk_some h
          obtain ⟨c485, h⟩ := qk_some h
          refine q_icmp_gt (tgt := 52) dX8_shallowest_37 (by decide) rfl (qRb_R c484) (qRb_R c485) (fun g => ?_) (fun g => ?_)
          · rw [if_pos (show x2 < (S 16 (Int.toNat x4)) from g)] at h
            cases h
            exact q_pick [0, 1, 2, 3, 4] rfl hk4088
          · rw [if_neg (show ¬ (x2 < (S 16 (Int.toNat x4))) from g)] at h
            refine q_iload_n dX8_shallowest_40 rfl rfl ?_
            refine q_aload_n dX8_shallowest_41 rfl rfl ?_
            refine q_getA dX8_shallowest_42 fl_X8_18 (hL 2 (by decide)) sh_2 (by decide) rfl rfl ?_
            refine q_iload dX8_shallowest_45 rfl rfl ?_
            obtain ⟨c486, h⟩ := qk_some h
            refine q_iaload dX8_shallowest_47 (hL 17 (by decide)) sh_17 (qIx_0 c486) (qIx_1 c486) rfl ?_
            obtain ⟨q487, h488, h⟩ := Option.bind_eq_some_iff.mp h
            refine q_callSi (as := [qi x3, qi (S 17 (Int.toNat x4))]) dX8_shallowest_48 ml_X8_85 rfl rfl (Nat.le_of_ble_eq_true rfl) (Jm_min_ok hL d x3 (S 17 (Int.toNat x4)) _ _ h488) rfl ?_
            refine q_istore_n (lv' := [(3, qi q487.1), (0, qr 2), (1, qi x1), (2, qi x2), (4, qi x4)]) dX8_shallowest_51 (by decide) rfl rfl ?_
            cases h
            exact q_pick [1, 2, 3, 0, 4] rfl hk4088
set_option maxRecDepth 20000 in
theorem Told_shallowest_ok {X : qX} (hL : ∀ c, c < 93 → c ∈ qLs X) (d : Nat) (a1 : Int) (a2 : Int) (S : qSto) (o : (Int × qSto)) (h : Told_shallowest a1 a2 S = some o) (Q : Option qV → qSto → Prop) (hQ : Q (some (qi o.1)) o.2) : qC X (d + 1) yX8_shallowest cX8_shallowest 5 (some .int) [qr 2, qi a1, qi a2] S Q := by
  refine q_entry (lv := [(0, qr 2), (1, qi a1), (2, qi a2)]) pn_X8 (Nat.le_of_ble_eq_true rfl) rfl ?_
  unfold Told_shallowest at h
  refine q_aload_n dX8_shallowest_0 rfl rfl ?_
  refine q_iload_n dX8_shallowest_1 rfl rfl ?_
  obtain ⟨q476, h477, h⟩ := Option.bind_eq_some_iff.mp h
  refine q_callVi (as := [qi a1]) (c := 2) dX8_shallowest_2 ml_X8_81 rfl rfl (hL 2 (by decide)) sh_2 rfl rfl (Nat.le_of_ble_eq_true rfl) (Told_depthOf_ok hL d a1 _ _ h477) rfl ?_
  refine q_istore_n (lv' := [(3, qi q476.1), (0, qr 2), (1, qi a1), (2, qi a2)]) dX8_shallowest_5 (by decide) rfl rfl ?_
  refine q_iconst dX8_shallowest_6 rfl rfl ?_
  refine q_istore (lv' := [(4, qi 0), (3, qi q476.1), (0, qr 2), (1, qi a1), (2, qi a2)]) dX8_shallowest_7 (by decide) rfl rfl ?_
  obtain ⟨q490, h491, h⟩ := Option.bind_eq_some_iff.mp h
  refine q_pick [2, 3, 4, 1, 0] rfl (Told_shallowest_L9_ok hL d qF a1 a2 q476.1 0 _ _ h491 ?_)
  refine q_iload_n dX8_shallowest_58 rfl rfl ?_
  cases h
  exact q_ireturn dX8_shallowest_59 rfl hQ
set_option maxRecDepth 20000 in
theorem C_shallow_ok {X : qX} (hL : ∀ c, c < 93 → c ∈ qLs X) (d : Nat) (a1 : Int) (a2 : Int) (S : qSto) (o : (Int × qSto)) (h : C_shallow a1 a2 S = some o) (Q : Option qV → qSto → Prop) (hQ : Q (some (qi o.1)) o.2) : qC X (d + 2) yX11_shallow cX11_shallow 3 (some .int) [qr 0, qi a1, qi a2] S Q := by
  refine q_entry (lv := [(0, qr 0), (1, qi a1), (2, qi a2)]) pn_X11 (Nat.le_of_ble_eq_true rfl) rfl ?_
  unfold C_shallow at h
  refine q_aload_n dX11_shallow_0 rfl rfl ?_
  refine q_iload_n dX11_shallow_1 rfl rfl ?_
  obtain ⟨q468, h469, h⟩ := Option.bind_eq_some_iff.mp h
  refine q_callVi (as := [qi a1]) (c := 0) dX11_shallow_2 ml_X11_185 rfl rfl (hL 0 (by decide)) sh_0 rfl rfl (Nat.le_of_ble_eq_true rfl) (C_isMetre_ok hL (d + 1) a1 _ _ h469) rfl ?_
  obtain ⟨c470, h⟩ := qk_some h
  refine q_if_eq (tgt := 21) dX11_shallow_5 (by decide) rfl (qRb_R c470)  (fun g => ?_) (fun g => ?_)
  · rw [if_pos (show q468.1 = 0 from g)] at h
    refine q_iconst dX11_shallow_21 rfl rfl ?_
    cases h
    exact q_ireturn dX11_shallow_22 rfl hQ
  · rw [if_neg (show ¬ (q468.1 = 0) from g)] at h
    refine q_aload_n dX11_shallow_8 rfl rfl ?_
    refine q_iload_n dX11_shallow_9 rfl rfl ?_
    obtain ⟨q471, h472, h⟩ := Option.bind_eq_some_iff.mp h
    refine q_callVi (as := [qi a2]) (c := 0) dX11_shallow_10 ml_X11_185 rfl rfl (hL 0 (by decide)) sh_0 rfl rfl (Nat.le_of_ble_eq_true rfl) (C_isMetre_ok hL (d + 1) a2 _ _ h472) rfl ?_
    obtain ⟨c473, h⟩ := qk_some h
    refine q_if_eq (tgt := 21) dX11_shallow_13 (by decide) rfl (qRb_R c473)  (fun g => ?_) (fun g => ?_)
    · rw [if_pos (show q471.1 = 0 from g)] at h
      refine q_iconst dX11_shallow_21 rfl rfl ?_
      cases h
      exact q_ireturn dX11_shallow_22 rfl hQ
    · rw [if_neg (show ¬ (q471.1 = 0) from g)] at h
      refine q_iload_n dX11_shallow_16 rfl rfl ?_
      refine q_iload_n dX11_shallow_17 rfl rfl ?_
      obtain ⟨c474, h⟩ := qk_some h
      obtain ⟨c475, h⟩ := qk_some h
      refine q_icmp_ge (tgt := 23) dX11_shallow_18 (by decide) rfl (qRb_R c474) (qRb_R c475) (fun g => ?_) (fun g => ?_)
      · rw [if_pos (show a1 ≤ a2 from g)] at h
        refine q_aload_n dX11_shallow_23 rfl rfl ?_
        refine q_getA dX11_shallow_24 fl_X11_16 (hL 0 (by decide)) sh_0 (by decide) rfl rfl ?_
        refine q_iload_n dX11_shallow_27 rfl rfl ?_
        refine q_iload_n dX11_shallow_28 rfl rfl ?_
        obtain ⟨q492, h493, h⟩ := Option.bind_eq_some_iff.mp h
        refine q_callVi (as := [qi a1, qi a2]) (c := 2) dX11_shallow_29 ml_X11_191 rfl rfl (hL 2 (by decide)) sh_2 rfl rfl (Nat.le_of_ble_eq_true rfl) (Told_shallowest_ok hL d a1 a2 _ _ h493) rfl ?_
        cases h
        exact q_ireturn dX11_shallow_32 rfl hQ
      · rw [if_neg (show ¬ (a1 ≤ a2) from g)] at h
        refine q_iconst dX11_shallow_21 rfl rfl ?_
        cases h
        exact q_ireturn dX11_shallow_22 rfl hQ
set_option maxRecDepth 20000 in
theorem C_isSlot_ok {X : qX} (hL : ∀ c, c < 93 → c ∈ qLs X) (d : Nat) (a0 : Int) (S : qSto) (o : (Int × qSto)) (h : C_isSlot a0 S = some o) (Q : Option qV → qSto → Prop) (hQ : Q (some (qi o.1)) o.2) : qC X d yX11_isSlot cX11_isSlot 1 (some .boolean) [qi a0] S Q := by
  refine q_entry (lv := [(0, qi a0)]) pn_X11 (Nat.le_of_ble_eq_true rfl) rfl ?_
  unfold C_isSlot at h
  refine q_iload_n dX11_isSlot_0 rfl rfl ?_
  obtain ⟨c494, h⟩ := qk_some h
  refine q_if_lt (tgt := 15) dX11_isSlot_1 (by decide) rfl (qRb_R c494)  (fun g => ?_) (fun g => ?_)
  · rw [if_pos (show a0 < 0 from g)] at h
    refine q_iconst dX11_isSlot_15 rfl rfl ?_
    cases h
    exact q_zreturn dX11_isSlot_16 rfl (by decide) hQ
  · rw [if_neg (show ¬ (a0 < 0) from g)] at h
    refine q_iload_n dX11_isSlot_4 rfl rfl ?_
    refine q_sipush dX11_isSlot_5 (by decide) rfl ?_
    obtain ⟨c495, h⟩ := qk_some h
    refine q_icmp_ge (tgt := 15) dX11_isSlot_8 (by decide) rfl (qRb_R c495) ⟨by decide, by decide⟩ (fun g => ?_) (fun g => ?_)
    · rw [if_pos (show 336 ≤ a0 from g)] at h
      refine q_iconst dX11_isSlot_15 rfl rfl ?_
      cases h
      exact q_zreturn dX11_isSlot_16 rfl (by decide) hQ
    · rw [if_neg (show ¬ (336 ≤ a0) from g)] at h
      refine q_iconst dX11_isSlot_11 rfl rfl ?_
      refine q_goto (pc' := 16) dX11_isSlot_12 (by decide) ?_
      cases h
      exact q_zreturn dX11_isSlot_16 rfl (by decide) hQ
set_option maxRecDepth 20000 in
theorem C_level_ok {X : qX} (hL : ∀ c, c < 93 → c ∈ qLs X) (d : Nat) (a1 : Int) (S : qSto) (o : (Int × qSto)) (h : C_level a1 S = some o) (Q : Option qV → qSto → Prop) (hQ : Q (some (qi o.1)) o.2) : qC X (d + 1) yX11_level cX11_level 2 (some .int) [qr 0, qi a1] S Q := by
  refine q_entry (lv := [(0, qr 0), (1, qi a1)]) pn_X11 (Nat.le_of_ble_eq_true rfl) rfl ?_
  unfold C_level at h
  refine q_iload_n dX11_level_0 rfl rfl ?_
  obtain ⟨q496, h497, h⟩ := Option.bind_eq_some_iff.mp h
  refine q_callSi (as := [qi a1]) dX11_level_1 ml_X11_194 rfl rfl (Nat.le_of_ble_eq_true rfl) (C_isSlot_ok hL d a1 _ _ h497) rfl ?_
  obtain ⟨c498, h⟩ := qk_some h
  refine q_if_eq (tgt := 19) dX11_level_4 (by decide) rfl (qRb_R c498)  (fun g => ?_) (fun g => ?_)
  · rw [if_pos (show q496.1 = 0 from g)] at h
    refine q_iconst dX11_level_19 rfl rfl ?_
    cases h
    exact q_ireturn dX11_level_20 rfl hQ
  · rw [if_neg (show ¬ (q496.1 = 0) from g)] at h
    refine q_aload_n dX11_level_7 rfl rfl ?_
    refine q_getA dX11_level_8 fl_X11_40 (hL 0 (by decide)) sh_0 (by decide) rfl rfl ?_
    refine q_getA dX11_level_11 fl_X11_197 (hL 5 (by decide)) sh_5 (by decide) rfl rfl ?_
    refine q_iload_n dX11_level_14 rfl rfl ?_
    obtain ⟨c499, h⟩ := qk_some h
    refine q_iaload dX11_level_15 (hL 36 (by decide)) sh_36 (qIx_0 c499) (qIx_1 c499) rfl ?_
    refine q_goto (pc' := 20) dX11_level_16 (by decide) ?_
    cases h
    exact q_ireturn dX11_level_20 rfl hQ
set_option maxRecDepth 20000 in
theorem C_isShift_ok {X : qX} (hL : ∀ c, c < 93 → c ∈ qLs X) (d : Nat) (a0 : Int) (a1 : Int) (S : qSto) (o : (Int × qSto)) (h : C_isShift a0 a1 S = some o) (Q : Option qV → qSto → Prop) (hQ : Q (some (qi o.1)) o.2) : qC X d yX11_isShift cX11_isShift 2 (some .boolean) [qi a0, qi a1] S Q := by
  refine q_entry (lv := [(0, qi a0), (1, qi a1)]) pn_X11 (Nat.le_of_ble_eq_true rfl) rfl ?_
  unfold C_isShift at h
  refine q_iload_n dX11_isShift_0 rfl rfl ?_
  obtain ⟨c500, h⟩ := qk_some h
  refine q_if_lt (tgt := 23) dX11_isShift_1 (by decide) rfl (qRb_R c500)  (fun g => ?_) (fun g => ?_)
  · rw [if_pos (show a0 < 0 from g)] at h
    refine q_iconst dX11_isShift_23 rfl rfl ?_
    cases h
    exact q_zreturn dX11_isShift_24 rfl (by decide) hQ
  · rw [if_neg (show ¬ (a0 < 0) from g)] at h
    refine q_iload_n dX11_isShift_4 rfl rfl ?_
    refine q_bipush dX11_isShift_5 (by decide) rfl ?_
    obtain ⟨c501, h⟩ := qk_some h
    refine q_icmp_ge (tgt := 23) dX11_isShift_7 (by decide) rfl (qRb_R c501) ⟨by decide, by decide⟩ (fun g => ?_) (fun g => ?_)
    · rw [if_pos (show 7 ≤ a0 from g)] at h
      refine q_iconst dX11_isShift_23 rfl rfl ?_
      cases h
      exact q_zreturn dX11_isShift_24 rfl (by decide) hQ
    · rw [if_neg (show ¬ (7 ≤ a0) from g)] at h
      refine q_iload_n dX11_isShift_10 rfl rfl ?_
      obtain ⟨c502, h⟩ := qk_some h
      refine q_if_lt (tgt := 23) dX11_isShift_11 (by decide) rfl (qRb_R c502)  (fun g => ?_) (fun g => ?_)
      · rw [if_pos (show a1 < 0 from g)] at h
        refine q_iconst dX11_isShift_23 rfl rfl ?_
        cases h
        exact q_zreturn dX11_isShift_24 rfl (by decide) hQ
      · rw [if_neg (show ¬ (a1 < 0) from g)] at h
        refine q_iload_n dX11_isShift_14 rfl rfl ?_
        refine q_iconst dX11_isShift_15 rfl rfl ?_
        obtain ⟨c503, h⟩ := qk_some h
        refine q_icmp_ge (tgt := 23) dX11_isShift_16 (by decide) rfl (qRb_R c503) ⟨by decide, by decide⟩ (fun g => ?_) (fun g => ?_)
        · rw [if_pos (show 3 ≤ a1 from g)] at h
          refine q_iconst dX11_isShift_23 rfl rfl ?_
          cases h
          exact q_zreturn dX11_isShift_24 rfl (by decide) hQ
        · rw [if_neg (show ¬ (3 ≤ a1) from g)] at h
          refine q_iconst dX11_isShift_19 rfl rfl ?_
          refine q_goto (pc' := 24) dX11_isShift_20 (by decide) ?_
          cases h
          exact q_zreturn dX11_isShift_24 rfl (by decide) hQ
set_option maxRecDepth 20000 in
theorem Told_gangsIn_ok {X : qX} (hL : ∀ c, c < 93 → c ∈ qLs X) (d : Nat) (a1 : Int) (S : qSto) (o : (Int × qSto)) (h : Told_gangsIn a1 S = some o) (Q : Option qV → qSto → Prop) (hQ : Q (some (qi o.1)) o.2) : qC X d yX8_gangsIn cX8_gangsIn 2 (some .int) [qr 2, qi a1] S Q := by
  refine q_entry (lv := [(0, qr 2), (1, qi a1)]) pn_X8 (Nat.le_of_ble_eq_true rfl) rfl ?_
  unfold Told_gangsIn at h
  refine q_aload_n dX8_gangsIn_0 rfl rfl ?_
  refine q_getA dX8_gangsIn_1 fl_X8_33 (hL 2 (by decide)) sh_2 (by decide) rfl rfl ?_
  refine q_iload_n dX8_gangsIn_4 rfl rfl ?_
  obtain ⟨c507, h⟩ := qk_some h
  refine q_iaload dX8_gangsIn_5 (hL 22 (by decide)) sh_22 (qIx_0 c507) (qIx_1 c507) rfl ?_
  refine q_iconst dX8_gangsIn_6 rfl rfl ?_
  obtain ⟨c508, h⟩ := qk_some h
  refine q_icmp_ne (tgt := 17) dX8_gangsIn_7 (by decide) rfl (qRb_R c508) ⟨by decide, by decide⟩ (fun g => ?_) (fun g => ?_)
  · rw [if_neg (show ¬ ((S 22 (Int.toNat a1)) = (-1)) from g)] at h
    refine q_aload_n dX8_gangsIn_17 rfl rfl ?_
    refine q_getA dX8_gangsIn_18 fl_X8_33 (hL 2 (by decide)) sh_2 (by decide) rfl rfl ?_
    refine q_iload_n dX8_gangsIn_21 rfl rfl ?_
    obtain ⟨c509, h⟩ := qk_some h
    refine q_iaload dX8_gangsIn_22 (hL 22 (by decide)) sh_22 (qIx_0 c509) (qIx_1 c509) rfl ?_
    cases h
    exact q_ireturn dX8_gangsIn_23 rfl hQ
  · rw [if_pos (show (S 22 (Int.toNat a1)) = (-1) from g)] at h
    refine q_aload_n dX8_gangsIn_10 rfl rfl ?_
    refine q_getI dX8_gangsIn_11 fl_X8_58 (hL 2 (by decide)) sh_2 (by decide) rfl rfl ?_
    refine q_goto (pc' := 23) dX8_gangsIn_14 (by decide) ?_
    cases h
    exact q_ireturn dX8_gangsIn_23 rfl hQ
set_option maxRecDepth 20000 in
theorem C_gangs_ok {X : qX} (hL : ∀ c, c < 93 → c ∈ qLs X) (d : Nat) (a1 : Int) (a2 : Int) (S : qSto) (o : (Int × qSto)) (h : C_gangs a1 a2 S = some o) (Q : Option qV → qSto → Prop) (hQ : Q (some (qi o.1)) o.2) : qC X (d + 1) yX11_gangs cX11_gangs 3 (some .int) [qr 0, qi a1, qi a2] S Q := by
  refine q_entry (lv := [(0, qr 0), (1, qi a1), (2, qi a2)]) pn_X11 (Nat.le_of_ble_eq_true rfl) rfl ?_
  unfold C_gangs at h
  refine q_iload_n dX11_gangs_0 rfl rfl ?_
  refine q_iload_n dX11_gangs_1 rfl rfl ?_
  obtain ⟨q504, h505, h⟩ := Option.bind_eq_some_iff.mp h
  refine q_callSi (as := [qi a1, qi a2]) dX11_gangs_2 ml_X11_200 rfl rfl (Nat.le_of_ble_eq_true rfl) (C_isShift_ok hL d a1 a2 _ _ h505) rfl ?_
  obtain ⟨c506, h⟩ := qk_some h
  refine q_if_eq (tgt := 23) dX11_gangs_5 (by decide) rfl (qRb_R c506)  (fun g => ?_) (fun g => ?_)
  · rw [if_pos (show q504.1 = 0 from g)] at h
    refine q_iconst dX11_gangs_23 rfl rfl ?_
    cases h
    exact q_ireturn dX11_gangs_24 rfl hQ
  · rw [if_neg (show ¬ (q504.1 = 0) from g)] at h
    refine q_aload_n dX11_gangs_8 rfl rfl ?_
    refine q_getA dX11_gangs_9 fl_X11_16 (hL 0 (by decide)) sh_0 (by decide) rfl rfl ?_
    refine q_iload_n dX11_gangs_12 rfl rfl ?_
    refine q_iconst dX11_gangs_13 rfl rfl ?_
    refine q_imul dX11_gangs_14 rfl ?_
    refine q_iload_n dX11_gangs_15 rfl rfl ?_
    refine q_iadd dX11_gangs_16 rfl ?_
    obtain ⟨q510, h511, h⟩ := Option.bind_eq_some_iff.mp h
    refine q_callVi (as := [qi ((a1 * 3) + a2)]) (c := 2) dX11_gangs_17 ml_X11_204 rfl rfl (hL 2 (by decide)) sh_2 rfl rfl (Nat.le_of_ble_eq_true rfl) (Told_gangsIn_ok hL d ((a1 * 3) + a2) _ _ h511) rfl ?_
    refine q_goto (pc' := 24) dX11_gangs_20 (by decide) ?_
    cases h
    exact q_ireturn dX11_gangs_24 rfl hQ
set_option maxRecDepth 20000 in
theorem C_isCrane_ok {X : qX} (hL : ∀ c, c < 93 → c ∈ qLs X) (d : Nat) (a1 : Int) (S : qSto) (o : (Int × qSto)) (h : C_isCrane a1 S = some o) (Q : Option qV → qSto → Prop) (hQ : Q (some (qi o.1)) o.2) : qC X d yX11_isCrane cX11_isCrane 2 (some .boolean) [qr 0, qi a1] S Q := by
  refine q_entry (lv := [(0, qr 0), (1, qi a1)]) pn_X11 (Nat.le_of_ble_eq_true rfl) rfl ?_
  unfold C_isCrane at h
  refine q_iload_n dX11_isCrane_0 rfl rfl ?_
  obtain ⟨c512, h⟩ := qk_some h
  refine q_if_lt (tgt := 19) dX11_isCrane_1 (by decide) rfl (qRb_R c512)  (fun g => ?_) (fun g => ?_)
  · rw [if_pos (show a1 < 0 from g)] at h
    refine q_iconst dX11_isCrane_19 rfl rfl ?_
    cases h
    exact q_zreturn dX11_isCrane_20 rfl (by decide) hQ
  · rw [if_neg (show ¬ (a1 < 0) from g)] at h
    refine q_iload_n dX11_isCrane_4 rfl rfl ?_
    refine q_aload_n dX11_isCrane_5 rfl rfl ?_
    refine q_getA dX11_isCrane_6 fl_X11_16 (hL 0 (by decide)) sh_0 (by decide) rfl rfl ?_
    refine q_getI dX11_isCrane_9 fl_X11_152 (hL 2 (by decide)) sh_2 (by decide) rfl rfl ?_
    obtain ⟨c513, h⟩ := qk_some h
    obtain ⟨c514, h⟩ := qk_some h
    refine q_icmp_ge (tgt := 19) dX11_isCrane_12 (by decide) rfl (qRb_R c513) (qRb_R c514) (fun g => ?_) (fun g => ?_)
    · rw [if_pos (show (S 2 5) ≤ a1 from g)] at h
      refine q_iconst dX11_isCrane_19 rfl rfl ?_
      cases h
      exact q_zreturn dX11_isCrane_20 rfl (by decide) hQ
    · rw [if_neg (show ¬ ((S 2 5) ≤ a1) from g)] at h
      refine q_iconst dX11_isCrane_15 rfl rfl ?_
      refine q_goto (pc' := 20) dX11_isCrane_16 (by decide) ?_
      cases h
      exact q_zreturn dX11_isCrane_20 rfl (by decide) hQ
set_option maxRecDepth 20000 in
theorem C_crane_ok {X : qX} (hL : ∀ c, c < 93 → c ∈ qLs X) (d : Nat) (a1 : Int) (a2 : Int) (S : qSto) (o : (Int × qSto)) (h : C_crane a1 a2 S = some o) (Q : Option qV → qSto → Prop) (hQ : Q (some (qi o.1)) o.2) : qC X (d + 1) yX11_crane cX11_crane 3 (some .int) [qr 0, qi a1, qi a2] S Q := by
  refine q_entry (lv := [(0, qr 0), (1, qi a1), (2, qi a2)]) pn_X11 (Nat.le_of_ble_eq_true rfl) rfl ?_
  unfold C_crane at h
  refine q_aload_n dX11_crane_0 rfl rfl ?_
  refine q_iload_n dX11_crane_1 rfl rfl ?_
  obtain ⟨q515, h516, h⟩ := Option.bind_eq_some_iff.mp h
  refine q_callVi (as := [qi a1]) (c := 0) dX11_crane_2 ml_X11_207 rfl rfl (hL 0 (by decide)) sh_0 rfl rfl (Nat.le_of_ble_eq_true rfl) (C_isCrane_ok hL d a1 _ _ h516) rfl ?_
  obtain ⟨c517, h⟩ := qk_some h
  refine q_if_ne (tgt := 10) dX11_crane_5 (by decide) rfl (qRb_R c517)  (fun g => ?_) (fun g => ?_)
  · rw [if_neg (show ¬ (q515.1 = 0) from g)] at h
    refine q_iload_n dX11_crane_10 rfl rfl ?_
    obtain ⟨c518, h⟩ := qk_some h
    by_cases e4089 : a2 = 0
    · rw [if_pos e4089] at h
      refine q_lsw (tgt := 36) (off := 25) dX11_crane_11 (by decide) (qRb_R c518) (by rw [e4089]; rfl) (by decide) ?_
      refine q_aload_n dX11_crane_36 rfl rfl ?_
      refine q_getA dX11_crane_37 fl_X11_16 (hL 0 (by decide)) sh_0 (by decide) rfl rfl ?_
      refine q_getA dX11_crane_40 fl_X11_210 (hL 2 (by decide)) sh_2 (by decide) rfl rfl ?_
      refine q_iload_n dX11_crane_43 rfl rfl ?_
      obtain ⟨c519, h⟩ := qk_some h
      refine q_iaload dX11_crane_44 (hL 18 (by decide)) sh_18 (qIx_0 c519) (qIx_1 c519) rfl ?_
      cases h
      exact q_ireturn dX11_crane_45 rfl hQ
    · rw [if_neg e4089] at h
      by_cases e4090 : a2 = 1
      · rw [if_pos e4090] at h
        refine q_lsw (tgt := 46) (off := 35) dX11_crane_11 (by decide) (qRb_R c518) (by rw [e4090]; rfl) (by decide) ?_
        refine q_aload_n dX11_crane_46 rfl rfl ?_
        refine q_getA dX11_crane_47 fl_X11_16 (hL 0 (by decide)) sh_0 (by decide) rfl rfl ?_
        refine q_getA dX11_crane_50 fl_X11_213 (hL 2 (by decide)) sh_2 (by decide) rfl rfl ?_
        refine q_iload_n dX11_crane_53 rfl rfl ?_
        obtain ⟨c520, h⟩ := qk_some h
        refine q_iaload dX11_crane_54 (hL 19 (by decide)) sh_19 (qIx_0 c520) (qIx_1 c520) rfl ?_
        cases h
        exact q_ireturn dX11_crane_55 rfl hQ
      · rw [if_neg e4090] at h
        refine q_lsw (tgt := 56) (off := 45) dX11_crane_11 (by decide) (qRb_R c518) (by simp [Op.lookupswitch.offset, show ¬ (0 = a2) from fun z => e4089 z.symm, show ¬ (1 = a2) from fun z => e4090 z.symm]) (by decide) ?_
        refine q_iconst dX11_crane_56 rfl rfl ?_
        cases h
        exact q_ireturn dX11_crane_57 rfl hQ
  · rw [if_pos (show q515.1 = 0 from g)] at h
    refine q_iconst dX11_crane_8 rfl rfl ?_
    cases h
    exact q_ireturn dX11_crane_9 rfl hQ
set_option maxRecDepth 20000 in
theorem C_isShip_ok {X : qX} (hL : ∀ c, c < 93 → c ∈ qLs X) (d : Nat) (a1 : Int) (S : qSto) (o : (Int × qSto)) (h : C_isShip a1 S = some o) (Q : Option qV → qSto → Prop) (hQ : Q (some (qi o.1)) o.2) : qC X d yX11_isShip cX11_isShip 2 (some .boolean) [qr 0, qi a1] S Q := by
  refine q_entry (lv := [(0, qr 0), (1, qi a1)]) pn_X11 (Nat.le_of_ble_eq_true rfl) rfl ?_
  unfold C_isShip at h
  refine q_iload_n dX11_isShip_0 rfl rfl ?_
  obtain ⟨c521, h⟩ := qk_some h
  refine q_if_lt (tgt := 19) dX11_isShip_1 (by decide) rfl (qRb_R c521)  (fun g => ?_) (fun g => ?_)
  · rw [if_pos (show a1 < 0 from g)] at h
    refine q_iconst dX11_isShip_19 rfl rfl ?_
    cases h
    exact q_zreturn dX11_isShip_20 rfl (by decide) hQ
  · rw [if_neg (show ¬ (a1 < 0) from g)] at h
    refine q_iload_n dX11_isShip_4 rfl rfl ?_
    refine q_aload_n dX11_isShip_5 rfl rfl ?_
    refine q_getA dX11_isShip_6 fl_X11_16 (hL 0 (by decide)) sh_0 (by decide) rfl rfl ?_
    refine q_getI dX11_isShip_9 fl_X11_158 (hL 2 (by decide)) sh_2 (by decide) rfl rfl ?_
    obtain ⟨c522, h⟩ := qk_some h
    obtain ⟨c523, h⟩ := qk_some h
    refine q_icmp_ge (tgt := 19) dX11_isShip_12 (by decide) rfl (qRb_R c522) (qRb_R c523) (fun g => ?_) (fun g => ?_)
    · rw [if_pos (show (S 2 12) ≤ a1 from g)] at h
      refine q_iconst dX11_isShip_19 rfl rfl ?_
      cases h
      exact q_zreturn dX11_isShip_20 rfl (by decide) hQ
    · rw [if_neg (show ¬ ((S 2 12) ≤ a1) from g)] at h
      refine q_iconst dX11_isShip_15 rfl rfl ?_
      refine q_goto (pc' := 20) dX11_isShip_16 (by decide) ?_
      cases h
      exact q_zreturn dX11_isShip_20 rfl (by decide) hQ
set_option maxRecDepth 20000 in
theorem C_stayFact_ok {X : qX} (hL : ∀ c, c < 93 → c ∈ qLs X) (d : Nat) (a1 : Int) (a2 : Int) (S : qSto) (o : (Int × qSto)) (h : C_stayFact a1 a2 S = some o) (Q : Option qV → qSto → Prop) (hQ : Q (some (qi o.1)) o.2) : qC X (d + 3) yX11_stayFact cX11_stayFact 3 (some .int) [qr 0, qi a1, qi a2] S Q := by
  refine q_entry (lv := [(0, qr 0), (1, qi a1), (2, qi a2)]) pn_X11 (Nat.le_of_ble_eq_true rfl) rfl ?_
  unfold C_stayFact at h
  refine q_iload_n dX11_stayFact_0 rfl rfl ?_
  obtain ⟨c533, h⟩ := qk_some h
  by_cases e4091 : a2 = 9
  · rw [if_pos e4091] at h
    refine q_tsw (tgt := 170) dX11_stayFact_1 (qRb_R c533) (by decide) (fun g => absurd g (by rw [e4091]; decide)) (fun _ _ => ⟨51, 52, by rw [e4091]; rfl, by decide, ?_⟩)
    refine q_aload_n dX11_stayFact_52 rfl rfl ?_
    refine q_getA dX11_stayFact_53 fl_X11_49 (hL 0 (by decide)) sh_0 (by decide) rfl rfl ?_
    refine q_getA dX11_stayFact_56 fl_X11_225 (hL 6 (by decide)) sh_6 (by decide) rfl rfl ?_
    refine q_iload_n dX11_stayFact_59 rfl rfl ?_
    obtain ⟨c534, h⟩ := qk_some h
    refine q_iaload dX11_stayFact_60 (hL 37 (by decide)) sh_37 (qIx_0 c534) (qIx_1 c534) rfl ?_
    cases h
    exact q_ireturn dX11_stayFact_61 rfl hQ
  · rw [if_neg e4091] at h
    by_cases e4092 : a2 = 10
    · rw [if_pos e4092] at h
      refine q_tsw (tgt := 170) dX11_stayFact_1 (qRb_R c533) (by decide) (fun g => absurd g (by rw [e4092]; decide)) (fun _ _ => ⟨61, 62, by rw [e4092]; rfl, by decide, ?_⟩)
      refine q_aload_n dX11_stayFact_62 rfl rfl ?_
      refine q_getA dX11_stayFact_63 fl_X11_49 (hL 0 (by decide)) sh_0 (by decide) rfl rfl ?_
      refine q_getA dX11_stayFact_66 fl_X11_228 (hL 6 (by decide)) sh_6 (by decide) rfl rfl ?_
      refine q_iload_n dX11_stayFact_69 rfl rfl ?_
      obtain ⟨c535, h⟩ := qk_some h
      refine q_iaload dX11_stayFact_70 (hL 39 (by decide)) sh_39 (qIx_0 c535) (qIx_1 c535) rfl ?_
      cases h
      exact q_ireturn dX11_stayFact_71 rfl hQ
    · rw [if_neg e4092] at h
      by_cases e4093 : a2 = 11
      · rw [if_pos e4093] at h
        refine q_tsw (tgt := 170) dX11_stayFact_1 (qRb_R c533) (by decide) (fun g => absurd g (by rw [e4093]; decide)) (fun _ _ => ⟨71, 72, by rw [e4093]; rfl, by decide, ?_⟩)
        refine q_aload_n dX11_stayFact_72 rfl rfl ?_
        refine q_getA dX11_stayFact_73 fl_X11_49 (hL 0 (by decide)) sh_0 (by decide) rfl rfl ?_
        refine q_getA dX11_stayFact_76 fl_X11_231 (hL 6 (by decide)) sh_6 (by decide) rfl rfl ?_
        refine q_iload_n dX11_stayFact_79 rfl rfl ?_
        obtain ⟨c536, h⟩ := qk_some h
        refine q_iaload dX11_stayFact_80 (hL 40 (by decide)) sh_40 (qIx_0 c536) (qIx_1 c536) rfl ?_
        cases h
        exact q_ireturn dX11_stayFact_81 rfl hQ
      · rw [if_neg e4093] at h
        by_cases e4094 : a2 = 12
        · rw [if_pos e4094] at h
          refine q_tsw (tgt := 170) dX11_stayFact_1 (qRb_R c533) (by decide) (fun g => absurd g (by rw [e4094]; decide)) (fun _ _ => ⟨81, 82, by rw [e4094]; rfl, by decide, ?_⟩)
          refine q_aload_n dX11_stayFact_82 rfl rfl ?_
          refine q_getA dX11_stayFact_83 fl_X11_49 (hL 0 (by decide)) sh_0 (by decide) rfl rfl ?_
          refine q_getA dX11_stayFact_86 fl_X11_233 (hL 6 (by decide)) sh_6 (by decide) rfl rfl ?_
          refine q_iload_n dX11_stayFact_89 rfl rfl ?_
          obtain ⟨c537, h⟩ := qk_some h
          refine q_iaload dX11_stayFact_90 (hL 41 (by decide)) sh_41 (qIx_0 c537) (qIx_1 c537) rfl ?_
          cases h
          exact q_ireturn dX11_stayFact_91 rfl hQ
        · rw [if_neg e4094] at h
          by_cases e4095 : a2 = 13
          · rw [if_pos e4095] at h
            refine q_tsw (tgt := 170) dX11_stayFact_1 (qRb_R c533) (by decide) (fun g => absurd g (by rw [e4095]; decide)) (fun _ _ => ⟨91, 92, by rw [e4095]; rfl, by decide, ?_⟩)
            refine q_aload_n dX11_stayFact_92 rfl rfl ?_
            refine q_getA dX11_stayFact_93 fl_X11_49 (hL 0 (by decide)) sh_0 (by decide) rfl rfl ?_
            refine q_getA dX11_stayFact_96 fl_X11_236 (hL 6 (by decide)) sh_6 (by decide) rfl rfl ?_
            refine q_iload_n dX11_stayFact_99 rfl rfl ?_
            obtain ⟨c538, h⟩ := qk_some h
            refine q_iaload dX11_stayFact_100 (hL 42 (by decide)) sh_42 (qIx_0 c538) (qIx_1 c538) rfl ?_
            cases h
            exact q_ireturn dX11_stayFact_101 rfl hQ
          · rw [if_neg e4095] at h
            by_cases e4096 : a2 = 14
            · rw [if_pos e4096] at h
              refine q_tsw (tgt := 170) dX11_stayFact_1 (qRb_R c533) (by decide) (fun g => absurd g (by rw [e4096]; decide)) (fun _ _ => ⟨101, 102, by rw [e4096]; rfl, by decide, ?_⟩)
              refine q_aload_n dX11_stayFact_102 rfl rfl ?_
              refine q_getA dX11_stayFact_103 fl_X11_49 (hL 0 (by decide)) sh_0 (by decide) rfl rfl ?_
              refine q_getA dX11_stayFact_106 fl_X11_228 (hL 6 (by decide)) sh_6 (by decide) rfl rfl ?_
              refine q_iload_n dX11_stayFact_109 rfl rfl ?_
              obtain ⟨c539, h⟩ := qk_some h
              refine q_iaload dX11_stayFact_110 (hL 39 (by decide)) sh_39 (qIx_0 c539) (qIx_1 c539) rfl ?_
              refine q_aload_n dX11_stayFact_111 rfl rfl ?_
              refine q_getA dX11_stayFact_112 fl_X11_16 (hL 0 (by decide)) sh_0 (by decide) rfl rfl ?_
              refine q_iload_n dX11_stayFact_115 rfl rfl ?_
              refine q_iconst dX11_stayFact_116 rfl rfl ?_
              obtain ⟨q540, h541, h⟩ := Option.bind_eq_some_iff.mp h
              refine q_callVi (as := [qi a1, qi 4]) (c := 2) dX11_stayFact_117 ml_X11_219 rfl rfl (hL 2 (by decide)) sh_2 rfl rfl (Nat.le_of_ble_eq_true rfl) (Told_contractOf_ok hL (d + 2) a1 4 _ _ h541) rfl ?_
              refine q_isub dX11_stayFact_120 rfl ?_
              cases h
              exact q_ireturn dX11_stayFact_121 rfl hQ
            · rw [if_neg e4096] at h
              by_cases e4097 : a2 = 15
              · rw [if_pos e4097] at h
                refine q_tsw (tgt := 170) dX11_stayFact_1 (qRb_R c533) (by decide) (fun g => absurd g (by rw [e4097]; decide)) (fun _ _ => ⟨121, 122, by rw [e4097]; rfl, by decide, ?_⟩)
                refine q_aload_n dX11_stayFact_122 rfl rfl ?_
                refine q_getA dX11_stayFact_123 fl_X11_49 (hL 0 (by decide)) sh_0 (by decide) rfl rfl ?_
                refine q_getA dX11_stayFact_126 fl_X11_236 (hL 6 (by decide)) sh_6 (by decide) rfl rfl ?_
                refine q_iload_n dX11_stayFact_129 rfl rfl ?_
                obtain ⟨c542, h⟩ := qk_some h
                refine q_iaload dX11_stayFact_130 (hL 42 (by decide)) sh_42 (qIx_0 c542) (qIx_1 c542) rfl ?_
                refine q_aload_n dX11_stayFact_131 rfl rfl ?_
                refine q_getA dX11_stayFact_132 fl_X11_49 (hL 0 (by decide)) sh_0 (by decide) rfl rfl ?_
                refine q_getA dX11_stayFact_135 fl_X11_228 (hL 6 (by decide)) sh_6 (by decide) rfl rfl ?_
                refine q_iload_n dX11_stayFact_138 rfl rfl ?_
                obtain ⟨c543, h⟩ := qk_some h
                refine q_iaload dX11_stayFact_139 (hL 39 (by decide)) sh_39 (qIx_0 c543) (qIx_1 c543) rfl ?_
                refine q_isub dX11_stayFact_140 rfl ?_
                refine q_aload_n dX11_stayFact_141 rfl rfl ?_
                refine q_getA dX11_stayFact_142 fl_X11_49 (hL 0 (by decide)) sh_0 (by decide) rfl rfl ?_
                refine q_getA dX11_stayFact_145 fl_X11_233 (hL 6 (by decide)) sh_6 (by decide) rfl rfl ?_
                refine q_iload_n dX11_stayFact_148 rfl rfl ?_
                obtain ⟨c544, h⟩ := qk_some h
                refine q_iaload dX11_stayFact_149 (hL 41 (by decide)) sh_41 (qIx_0 c544) (qIx_1 c544) rfl ?_
                refine q_isub dX11_stayFact_150 rfl ?_
                cases h
                exact q_ireturn dX11_stayFact_151 rfl hQ
              · rw [if_neg e4097] at h
                by_cases e4098 : a2 = 16
                · rw [if_pos e4098] at h
                  refine q_tsw (tgt := 170) dX11_stayFact_1 (qRb_R c533) (by decide) (fun g => absurd g (by rw [e4098]; decide)) (fun _ _ => ⟨151, 152, by rw [e4098]; rfl, by decide, ?_⟩)
                  refine q_aload_n dX11_stayFact_152 rfl rfl ?_
                  refine q_getA dX11_stayFact_153 fl_X11_49 (hL 0 (by decide)) sh_0 (by decide) rfl rfl ?_
                  refine q_iload_n dX11_stayFact_156 rfl rfl ?_
                  obtain ⟨q545, h546, h⟩ := Option.bind_eq_some_iff.mp h
                  refine q_callVi (as := [qi a1]) (c := 6) dX11_stayFact_157 ml_X11_239 rfl rfl (hL 6 (by decide)) sh_6 rfl rfl (Nat.le_of_ble_eq_true rfl) (Stays_lateOf_ok hL (d + 1) a1 _ _ h546) rfl ?_
                  cases h
                  exact q_ireturn dX11_stayFact_160 rfl hQ
                · rw [if_neg e4098] at h
                  by_cases e4099 : a2 = 17
                  · rw [if_pos e4099] at h
                    refine q_tsw (tgt := 170) dX11_stayFact_1 (qRb_R c533) (by decide) (fun g => absurd g (by rw [e4099]; decide)) (fun _ _ => ⟨160, 161, by rw [e4099]; rfl, by decide, ?_⟩)
                    refine q_aload_n dX11_stayFact_161 rfl rfl ?_
                    refine q_getA dX11_stayFact_162 fl_X11_49 (hL 0 (by decide)) sh_0 (by decide) rfl rfl ?_
                    refine q_iload_n dX11_stayFact_165 rfl rfl ?_
                    obtain ⟨q547, h548, h⟩ := Option.bind_eq_some_iff.mp h
                    refine q_callVi (as := [qi a1]) (c := 6) dX11_stayFact_166 ml_X11_182 rfl rfl (hL 6 (by decide)) sh_6 rfl rfl (Nat.le_of_ble_eq_true rfl) (Stays_costOf_ok hL d a1 _ _ h548) rfl ?_
                    cases h
                    exact q_ireturn dX11_stayFact_169 rfl hQ
                  · rw [if_neg e4099] at h
                    refine q_tsw (tgt := 170) dX11_stayFact_1 (qRb_R c533) (by decide) (fun _ => ?_) (fun g1 g2 => absurd g1 (by omega))
                    refine q_iconst dX11_stayFact_170 rfl rfl ?_
                    cases h
                    exact q_ireturn dX11_stayFact_171 rfl hQ
set_option maxRecDepth 20000 in
theorem C_ship_ok {X : qX} (hL : ∀ c, c < 93 → c ∈ qLs X) (d : Nat) (a1 : Int) (a2 : Int) (S : qSto) (o : (Int × qSto)) (h : C_ship a1 a2 S = some o) (Q : Option qV → qSto → Prop) (hQ : Q (some (qi o.1)) o.2) : qC X (d + 4) yX11_ship cX11_ship 3 (some .int) [qr 0, qi a1, qi a2] S Q := by
  refine q_entry (lv := [(0, qr 0), (1, qi a1), (2, qi a2)]) pn_X11 (Nat.le_of_ble_eq_true rfl) rfl ?_
  unfold C_ship at h
  refine q_aload_n dX11_ship_0 rfl rfl ?_
  refine q_iload_n dX11_ship_1 rfl rfl ?_
  obtain ⟨q524, h525, h⟩ := Option.bind_eq_some_iff.mp h
  refine q_callVi (as := [qi a1]) (c := 0) dX11_ship_2 ml_X11_216 rfl rfl (hL 0 (by decide)) sh_0 rfl rfl (Nat.le_of_ble_eq_true rfl) (C_isShip_ok hL (d + 3) a1 _ _ h525) rfl ?_
  obtain ⟨c526, h⟩ := qk_some h
  refine q_if_eq (tgt := 18) dX11_ship_5 (by decide) rfl (qRb_R c526)  (fun g => ?_) (fun g => ?_)
  · rw [if_pos (show q524.1 = 0 from g)] at h
    refine q_iconst dX11_ship_18 rfl rfl ?_
    cases h
    exact q_ireturn dX11_ship_19 rfl hQ
  · rw [if_neg (show ¬ (q524.1 = 0) from g)] at h
    refine q_iload_n dX11_ship_8 rfl rfl ?_
    obtain ⟨c527, h⟩ := qk_some h
    refine q_if_lt (tgt := 18) dX11_ship_9 (by decide) rfl (qRb_R c527)  (fun g => ?_) (fun g => ?_)
    · rw [if_pos (show a2 < 0 from g)] at h
      refine q_iconst dX11_ship_18 rfl rfl ?_
      cases h
      exact q_ireturn dX11_ship_19 rfl hQ
    · rw [if_neg (show ¬ (a2 < 0) from g)] at h
      refine q_iload_n dX11_ship_12 rfl rfl ?_
      refine q_bipush dX11_ship_13 (by decide) rfl ?_
      obtain ⟨c528, h⟩ := qk_some h
      refine q_icmp_lt (tgt := 20) dX11_ship_15 (by decide) rfl (qRb_R c528) ⟨by decide, by decide⟩ (fun g => ?_) (fun g => ?_)
      · rw [if_pos (show a2 < 18 from g)] at h
        refine q_iload_n dX11_ship_20 rfl rfl ?_
        refine q_bipush dX11_ship_21 (by decide) rfl ?_
        obtain ⟨c529, h⟩ := qk_some h
        refine q_icmp_ge (tgt := 36) dX11_ship_23 (by decide) rfl (qRb_R c529) ⟨by decide, by decide⟩ (fun g => ?_) (fun g => ?_)
        · rw [if_pos (show 9 ≤ a2 from g)] at h
          refine q_aload_n dX11_ship_36 rfl rfl ?_
          refine q_getA dX11_ship_37 fl_X11_49 (hL 0 (by decide)) sh_0 (by decide) rfl rfl ?_
          refine q_iload_n dX11_ship_40 rfl rfl ?_
          obtain ⟨q530, h531, h⟩ := Option.bind_eq_some_iff.mp h
          refine q_callVi (as := [qi a1]) (c := 6) dX11_ship_41 ml_X11_178 rfl rfl (hL 6 (by decide)) sh_6 rfl rfl (Nat.le_of_ble_eq_true rfl) (Stays_has_ok hL (d + 3) a1 _ _ h531) rfl ?_
          obtain ⟨c532, h⟩ := qk_some h
          refine q_if_eq (tgt := 56) dX11_ship_44 (by decide) rfl (qRb_R c532)  (fun g => ?_) (fun g => ?_)
          · rw [if_pos (show q530.1 = 0 from g)] at h
            refine q_bipush dX11_ship_56 (by decide) rfl ?_
            cases h
            exact q_ireturn dX11_ship_58 rfl hQ
          · rw [if_neg (show ¬ (q530.1 = 0) from g)] at h
            refine q_aload_n dX11_ship_47 rfl rfl ?_
            refine q_iload_n dX11_ship_48 rfl rfl ?_
            refine q_iload_n dX11_ship_49 rfl rfl ?_
            obtain ⟨q549, h550, h⟩ := Option.bind_eq_some_iff.mp h
            refine q_callVi (as := [qi a1, qi a2]) (c := 0) dX11_ship_50 ml_X11_222 rfl rfl (hL 0 (by decide)) sh_0 rfl rfl (Nat.le_of_ble_eq_true rfl) (C_stayFact_ok hL d a1 a2 _ _ h550) rfl ?_
            refine q_goto (pc' := 58) dX11_ship_53 (by decide) ?_
            cases h
            exact q_ireturn dX11_ship_58 rfl hQ
        · rw [if_neg (show ¬ (9 ≤ a2) from g)] at h
          refine q_aload_n dX11_ship_26 rfl rfl ?_
          refine q_getA dX11_ship_27 fl_X11_16 (hL 0 (by decide)) sh_0 (by decide) rfl rfl ?_
          refine q_iload_n dX11_ship_30 rfl rfl ?_
          refine q_iload_n dX11_ship_31 rfl rfl ?_
          obtain ⟨q551, h552, h⟩ := Option.bind_eq_some_iff.mp h
          refine q_callVi (as := [qi a1, qi a2]) (c := 2) dX11_ship_32 ml_X11_219 rfl rfl (hL 2 (by decide)) sh_2 rfl rfl (Nat.le_of_ble_eq_true rfl) (Told_contractOf_ok hL (d + 3) a1 a2 _ _ h552) rfl ?_
          cases h
          exact q_ireturn dX11_ship_35 rfl hQ
      · rw [if_neg (show ¬ (a2 < 18) from g)] at h
        refine q_iconst dX11_ship_18 rfl rfl ?_
        cases h
        exact q_ireturn dX11_ship_19 rfl hQ
set_option maxRecDepth 20000 in
theorem Told_nameByte_ok {X : qX} (hL : ∀ c, c < 93 → c ∈ qLs X) (d : Nat) (a1 : Int) (a2 : Int) (S : qSto) (o : (Int × qSto)) (h : Told_nameByte a1 a2 S = some o) (Q : Option qV → qSto → Prop) (hQ : Q (some (qi o.1)) o.2) : qC X d yX8_nameByte cX8_nameByte 3 (some .int) [qr 2, qi a1, qi a2] S Q := by
  refine q_entry (lv := [(0, qr 2), (1, qi a1), (2, qi a2)]) pn_X8 (Nat.le_of_ble_eq_true rfl) rfl ?_
  unfold Told_nameByte at h
  refine q_iload_n dX8_nameByte_0 rfl rfl ?_
  refine q_bipush dX8_nameByte_1 (by decide) rfl ?_
  obtain ⟨c558, h⟩ := qk_some h
  refine q_icmp_ge (tgt := 20) dX8_nameByte_3 (by decide) rfl (qRb_R c558) ⟨by decide, by decide⟩ (fun g => ?_) (fun g => ?_)
  · rw [if_pos (show 14 ≤ a1 from g)] at h
    refine q_iconst dX8_nameByte_20 rfl rfl ?_
    cases h
    exact q_ireturn dX8_nameByte_21 rfl hQ
  · rw [if_neg (show ¬ (14 ≤ a1) from g)] at h
    refine q_aload_n dX8_nameByte_6 rfl rfl ?_
    refine q_getA dX8_nameByte_7 fl_X8_39 (hL 2 (by decide)) sh_2 (by decide) rfl rfl ?_
    refine q_iload_n dX8_nameByte_10 rfl rfl ?_
    refine q_bipush dX8_nameByte_11 (by decide) rfl ?_
    refine q_imul dX8_nameByte_13 rfl ?_
    refine q_iload_n dX8_nameByte_14 rfl rfl ?_
    refine q_iadd dX8_nameByte_15 rfl ?_
    obtain ⟨c559, h⟩ := qk_some h
    refine q_iaload dX8_nameByte_16 (hL 24 (by decide)) sh_24 (qIx_0 c559) (qIx_1 c559) rfl ?_
    refine q_goto (pc' := 21) dX8_nameByte_17 (by decide) ?_
    cases h
    exact q_ireturn dX8_nameByte_21 rfl hQ
