set_option maxRecDepth 20000 in
theorem M_lawOfSwap_ok {X : qX} (hL : ∀ c, c < 93 → c ∈ qLs X) (d : Nat) (a1 : Int) (a2 : Int) (S : qSto) (o : (Int × qSto)) (h : M_lawOfSwap a1 a2 S = some o) (Q : Option qV → qSto → Prop) (hQ : Q (some (qi o.1)) o.2) : qC X (d + 7) yX12_lawOfSwap cX12_lawOfSwap 10 (some .int) [qr 70, qi a1, qi a2] S Q := by
  refine q_entry (lv := [(0, qr 70), (1, qi a1), (2, qi a2)]) pn_X12 (Nat.le_of_ble_eq_true rfl) rfl ?_
  unfold M_lawOfSwap at h
  refine q_aload_n dX12_lawOfSwap_0 rfl rfl ?_
  refine q_getA dX12_lawOfSwap_1 fl_X12_36 (hL 70 (by decide)) sh_70 (by decide) rfl rfl ?_
  refine q_iload_n dX12_lawOfSwap_4 rfl rfl ?_
  obtain ⟨c3247, h⟩ := qk_some h
  refine q_iaload dX12_lawOfSwap_5 (hL 78 (by decide)) sh_78 (qIx_0 c3247) (qIx_1 c3247) rfl ?_
  refine q_istore_n (lv' := [(3, qi (S 78 (Int.toNat a1))), (0, qr 70), (1, qi a1), (2, qi a2)]) dX12_lawOfSwap_6 (by decide) rfl rfl ?_
  refine q_aload_n dX12_lawOfSwap_7 rfl rfl ?_
  refine q_getA dX12_lawOfSwap_8 fl_X12_39 (hL 70 (by decide)) sh_70 (by decide) rfl rfl ?_
  refine q_iload_n dX12_lawOfSwap_11 rfl rfl ?_
  obtain ⟨c3248, h⟩ := qk_some h
  refine q_iaload dX12_lawOfSwap_12 (hL 79 (by decide)) sh_79 (qIx_0 c3248) (qIx_1 c3248) rfl ?_
  refine q_istore (lv' := [(4, qi (S 79 (Int.toNat a1))), (3, qi (S 78 (Int.toNat a1))), (0, qr 70), (1, qi a1), (2, qi a2)]) dX12_lawOfSwap_13 (by decide) rfl rfl ?_
  refine q_aload_n dX12_lawOfSwap_15 rfl rfl ?_
  refine q_getA dX12_lawOfSwap_16 fl_X12_42 (hL 70 (by decide)) sh_70 (by decide) rfl rfl ?_
  refine q_iload_n dX12_lawOfSwap_19 rfl rfl ?_
  obtain ⟨c3249, h⟩ := qk_some h
  refine q_iaload dX12_lawOfSwap_20 (hL 80 (by decide)) sh_80 (qIx_0 c3249) (qIx_1 c3249) rfl ?_
  refine q_istore (lv' := [(5, qi (S 80 (Int.toNat a1))), (4, qi (S 79 (Int.toNat a1))), (3, qi (S 78 (Int.toNat a1))), (0, qr 70), (1, qi a1), (2, qi a2)]) dX12_lawOfSwap_21 (by decide) rfl rfl ?_
  refine q_aload_n dX12_lawOfSwap_23 rfl rfl ?_
  refine q_getA dX12_lawOfSwap_24 fl_X12_36 (hL 70 (by decide)) sh_70 (by decide) rfl rfl ?_
  refine q_iload_n dX12_lawOfSwap_27 rfl rfl ?_
  obtain ⟨c3250, h⟩ := qk_some h
  refine q_iaload dX12_lawOfSwap_28 (hL 78 (by decide)) sh_78 (qIx_0 c3250) (qIx_1 c3250) rfl ?_
  refine q_istore (lv' := [(6, qi (S 78 (Int.toNat a2))), (5, qi (S 80 (Int.toNat a1))), (4, qi (S 79 (Int.toNat a1))), (3, qi (S 78 (Int.toNat a1))), (0, qr 70), (1, qi a1), (2, qi a2)]) dX12_lawOfSwap_29 (by decide) rfl rfl ?_
  refine q_aload_n dX12_lawOfSwap_31 rfl rfl ?_
  refine q_getA dX12_lawOfSwap_32 fl_X12_39 (hL 70 (by decide)) sh_70 (by decide) rfl rfl ?_
  refine q_iload_n dX12_lawOfSwap_35 rfl rfl ?_
  obtain ⟨c3251, h⟩ := qk_some h
  refine q_iaload dX12_lawOfSwap_36 (hL 79 (by decide)) sh_79 (qIx_0 c3251) (qIx_1 c3251) rfl ?_
  refine q_istore (lv' := [(7, qi (S 79 (Int.toNat a2))), (6, qi (S 78 (Int.toNat a2))), (5, qi (S 80 (Int.toNat a1))), (4, qi (S 79 (Int.toNat a1))), (3, qi (S 78 (Int.toNat a1))), (0, qr 70), (1, qi a1), (2, qi a2)]) dX12_lawOfSwap_37 (by decide) rfl rfl ?_
  refine q_aload_n dX12_lawOfSwap_39 rfl rfl ?_
  refine q_getA dX12_lawOfSwap_40 fl_X12_42 (hL 70 (by decide)) sh_70 (by decide) rfl rfl ?_
  refine q_iload_n dX12_lawOfSwap_43 rfl rfl ?_
  obtain ⟨c3252, h⟩ := qk_some h
  refine q_iaload dX12_lawOfSwap_44 (hL 80 (by decide)) sh_80 (qIx_0 c3252) (qIx_1 c3252) rfl ?_
  refine q_istore (lv' := [(8, qi (S 80 (Int.toNat a2))), (7, qi (S 79 (Int.toNat a2))), (6, qi (S 78 (Int.toNat a2))), (5, qi (S 80 (Int.toNat a1))), (4, qi (S 79 (Int.toNat a1))), (3, qi (S 78 (Int.toNat a1))), (0, qr 70), (1, qi a1), (2, qi a2)]) dX12_lawOfSwap_45 (by decide) rfl rfl ?_
  refine q_aload_n dX12_lawOfSwap_47 rfl rfl ?_
  refine q_iload_n dX12_lawOfSwap_48 rfl rfl ?_
  refine q_iconst dX12_lawOfSwap_49 rfl rfl ?_
  refine q_iconst dX12_lawOfSwap_50 rfl rfl ?_
  refine q_iconst dX12_lawOfSwap_51 rfl rfl ?_
  obtain ⟨q3253, h3254, h⟩ := Option.bind_eq_some_iff.mp h
  refine q_callVv (as := [qi a1, qi 0, qi 0, qi 0]) (c := 70) dX12_lawOfSwap_52 ml_X12_383 rfl rfl (hL 70 (by decide)) sh_70 rfl rfl (Nat.le_of_ble_eq_true rfl) (M_lay_ok hL (d + 3) a1 0 0 0 _ _ h3254) rfl ?_
  refine q_aload_n dX12_lawOfSwap_55 rfl rfl ?_
  refine q_iload_n dX12_lawOfSwap_56 rfl rfl ?_
  refine q_iconst dX12_lawOfSwap_57 rfl rfl ?_
  refine q_iconst dX12_lawOfSwap_58 rfl rfl ?_
  refine q_iconst dX12_lawOfSwap_59 rfl rfl ?_
  obtain ⟨q3255, h3256, h⟩ := Option.bind_eq_some_iff.mp h
  refine q_callVv (as := [qi a2, qi 0, qi 0, qi 0]) (c := 70) dX12_lawOfSwap_60 ml_X12_383 rfl rfl (hL 70 (by decide)) sh_70 rfl rfl (Nat.le_of_ble_eq_true rfl) (M_lay_ok hL (d + 3) a2 0 0 0 _ _ h3256) rfl ?_
  refine q_aload_n dX12_lawOfSwap_63 rfl rfl ?_
  refine q_iload_n dX12_lawOfSwap_64 rfl rfl ?_
  refine q_iload dX12_lawOfSwap_65 rfl rfl ?_
  obtain ⟨c3257, h⟩ := qk_some h
  refine q_i2l dX12_lawOfSwap_67 (qRb_R c3257) rfl ?_
  refine q_iload dX12_lawOfSwap_68 rfl rfl ?_
  obtain ⟨c3258, h⟩ := qk_some h
  refine q_i2l dX12_lawOfSwap_70 (qRb_R c3258) rfl ?_
  refine q_iload dX12_lawOfSwap_71 rfl rfl ?_
  obtain ⟨q3259, h3260, h⟩ := Option.bind_eq_some_iff.mp h
  refine q_callVi (as := [qi a1, ql (S 78 (Int.toNat a2)), ql (S 79 (Int.toNat a2)), qi (S 80 (Int.toNat a1))]) (c := 70) dX12_lawOfSwap_73 ml_X12_390 rfl rfl (hL 70 (by decide)) sh_70 rfl rfl (Nat.le_of_ble_eq_true rfl) (M_lawOf_ok hL d a1 (S 78 (Int.toNat a2)) (S 79 (Int.toNat a2)) (S 80 (Int.toNat a1)) _ _ h3260) rfl ?_
  refine q_istore (lv' := [(9, qi q3259.1), (8, qi (S 80 (Int.toNat a2))), (7, qi (S 79 (Int.toNat a2))), (6, qi (S 78 (Int.toNat a2))), (5, qi (S 80 (Int.toNat a1))), (4, qi (S 79 (Int.toNat a1))), (3, qi (S 78 (Int.toNat a1))), (0, qr 70), (1, qi a1), (2, qi a2)]) dX12_lawOfSwap_76 (by decide) rfl rfl ?_
  refine q_iload dX12_lawOfSwap_78 rfl rfl ?_
  obtain ⟨c3261, h⟩ := qk_some h
  refine q_if_le (tgt := 86) dX12_lawOfSwap_80 (by decide) rfl (qRb_R c3261)  (fun g => ?_) (fun g => ?_)
  · rw [if_pos (show q3259.1 ≤ 0 from g)] at h
    refine q_aload_n dX12_lawOfSwap_86 rfl rfl ?_
    refine q_iload_n dX12_lawOfSwap_87 rfl rfl ?_
    refine q_iload dX12_lawOfSwap_88 rfl rfl ?_
    refine q_iload dX12_lawOfSwap_90 rfl rfl ?_
    refine q_iload dX12_lawOfSwap_92 rfl rfl ?_
    obtain ⟨q3262, h3263, h⟩ := Option.bind_eq_some_iff.mp h
    refine q_callVv (as := [qi a1, qi (S 78 (Int.toNat a2)), qi (S 79 (Int.toNat a2)), qi (S 80 (Int.toNat a1))]) (c := 70) dX12_lawOfSwap_94 ml_X12_383 rfl rfl (hL 70 (by decide)) sh_70 rfl rfl (Nat.le_of_ble_eq_true rfl) (M_lay_ok hL (d + 3) a1 (S 78 (Int.toNat a2)) (S 79 (Int.toNat a2)) (S 80 (Int.toNat a1)) _ _ h3263) rfl ?_
    refine q_aload_n dX12_lawOfSwap_97 rfl rfl ?_
    refine q_iload_n dX12_lawOfSwap_98 rfl rfl ?_
    refine q_iload_n dX12_lawOfSwap_99 rfl rfl ?_
    obtain ⟨c3264, h⟩ := qk_some h
    refine q_i2l dX12_lawOfSwap_100 (qRb_R c3264) rfl ?_
    refine q_iload dX12_lawOfSwap_101 rfl rfl ?_
    obtain ⟨c3265, h⟩ := qk_some h
    refine q_i2l dX12_lawOfSwap_103 (qRb_R c3265) rfl ?_
    refine q_iload dX12_lawOfSwap_104 rfl rfl ?_
    obtain ⟨q3266, h3267, h⟩ := Option.bind_eq_some_iff.mp h
    refine q_callVi (as := [qi a2, ql (S 78 (Int.toNat a1)), ql (S 79 (Int.toNat a1)), qi (S 80 (Int.toNat a2))]) (c := 70) dX12_lawOfSwap_106 ml_X12_390 rfl rfl (hL 70 (by decide)) sh_70 rfl rfl (Nat.le_of_ble_eq_true rfl) (M_lawOf_ok hL d a2 (S 78 (Int.toNat a1)) (S 79 (Int.toNat a1)) (S 80 (Int.toNat a2)) _ _ h3267) rfl ?_
    refine q_istore (lv' := [(9, qi q3266.1), (8, qi (S 80 (Int.toNat a2))), (7, qi (S 79 (Int.toNat a2))), (6, qi (S 78 (Int.toNat a2))), (5, qi (S 80 (Int.toNat a1))), (4, qi (S 79 (Int.toNat a1))), (3, qi (S 78 (Int.toNat a1))), (0, qr 70), (1, qi a1), (2, qi a2)]) dX12_lawOfSwap_109 (by decide) rfl rfl ?_
    refine q_iload dX12_lawOfSwap_111 rfl rfl ?_
    obtain ⟨c3268, h⟩ := qk_some h
    refine q_if_le (tgt := 119) dX12_lawOfSwap_113 (by decide) rfl (qRb_R c3268)  (fun g => ?_) (fun g => ?_)
    · rw [if_pos (show q3266.1 ≤ 0 from g)] at h
      refine q_aload_n dX12_lawOfSwap_119 rfl rfl ?_
      refine q_iload_n dX12_lawOfSwap_120 rfl rfl ?_
      refine q_iload_n dX12_lawOfSwap_121 rfl rfl ?_
      refine q_iload dX12_lawOfSwap_122 rfl rfl ?_
      refine q_iload dX12_lawOfSwap_124 rfl rfl ?_
      obtain ⟨q3269, h3270, h⟩ := Option.bind_eq_some_iff.mp h
      refine q_callVv (as := [qi a2, qi (S 78 (Int.toNat a1)), qi (S 79 (Int.toNat a1)), qi (S 80 (Int.toNat a2))]) (c := 70) dX12_lawOfSwap_126 ml_X12_383 rfl rfl (hL 70 (by decide)) sh_70 rfl rfl (Nat.le_of_ble_eq_true rfl) (M_lay_ok hL (d + 3) a2 (S 78 (Int.toNat a1)) (S 79 (Int.toNat a1)) (S 80 (Int.toNat a2)) _ _ h3270) rfl ?_
      refine q_iconst dX12_lawOfSwap_129 rfl rfl ?_
      cases h
      exact q_ireturn dX12_lawOfSwap_130 rfl hQ
    · rw [if_neg (show ¬ (q3266.1 ≤ 0) from g)] at h
      refine q_iload dX12_lawOfSwap_116 rfl rfl ?_
      cases h
      exact q_ireturn dX12_lawOfSwap_118 rfl hQ
  · rw [if_neg (show ¬ (q3259.1 ≤ 0) from g)] at h
    refine q_iload dX12_lawOfSwap_83 rfl rfl ?_
    cases h
    exact q_ireturn dX12_lawOfSwap_85 rfl hQ
set_option maxRecDepth 20000 in
theorem M_takes_L7_ok {X : qX} (hL : ∀ c, c < 93 → c ∈ qLs X) (d : Nat) {Q : Option qV → qSto → Prop} : ∀ (n : Nat) (x2 : Int) (x3 : Int) (S : qSto) (o : qSto), M_takes_L7 n x2 x3 S = some o → (qW X (d + 4) yX12_takes cX12_takes 4 none 63 [] [] o Q) → qW X (d + 4) yX12_takes cX12_takes 4 none 7 [(0, qr 70), (2, qi x2), (3, qi x3)] [] S Q := by
  intro n
  induction n with
  | zero =>
    intro x2 x3 S o h
    simp [M_takes_L7] at h
  | succ n ih =>
    intro x2 x3 S o h hE
    rw [M_takes_L7] at h
    refine q_iload_n dX12_takes_7 rfl rfl ?_
    refine q_aload_n dX12_takes_8 rfl rfl ?_
    refine q_getA dX12_takes_9 fl_X12_13 (hL 70 (by decide)) sh_70 (by decide) rfl rfl ?_
    refine q_bipush dX12_takes_12 (by decide) rfl ?_
    refine q_iaload dX12_takes_14 (hL 72 (by decide)) sh_72 (by decide) (by decide) rfl ?_
    obtain ⟨c3277, h⟩ := qk_some h
    obtain ⟨c3278, h⟩ := qk_some h
    refine q_icmp_ge (tgt := 63) dX12_takes_15 (by decide) rfl (qRb_R c3277) (qRb_R c3278) (fun g => ?_) (fun g => ?_)
    · rw [if_pos (show (S 72 9) ≤ x3 from g)] at h
      cases h
      exact q_pick [] rfl (hE)
    · rw [if_neg (show ¬ ((S 72 9) ≤ x3) from g)] at h
      refine q_aload_n dX12_takes_18 rfl rfl ?_
      refine q_iload_n dX12_takes_19 rfl rfl ?_
      refine q_aload_n dX12_takes_20 rfl rfl ?_
      refine q_getA dX12_takes_21 fl_X12_57 (hL 70 (by decide)) sh_70 (by decide) rfl rfl ?_
      refine q_iload_n dX12_takes_24 rfl rfl ?_
      refine q_iconst dX12_takes_25 rfl rfl ?_
      refine q_iload_n dX12_takes_26 rfl rfl ?_
      refine q_imul dX12_takes_27 rfl ?_
      refine q_iadd dX12_takes_28 rfl ?_
      obtain ⟨c3279, h⟩ := qk_some h
      refine q_iaload dX12_takes_29 (hL 85 (by decide)) sh_85 (qIx_0 c3279) (qIx_1 c3279) rfl ?_
      refine q_aload_n dX12_takes_30 rfl rfl ?_
      refine q_getA dX12_takes_31 fl_X12_57 (hL 70 (by decide)) sh_70 (by decide) rfl rfl ?_
      refine q_iload_n dX12_takes_34 rfl rfl ?_
      refine q_iconst dX12_takes_35 rfl rfl ?_
      refine q_iload_n dX12_takes_36 rfl rfl ?_
      refine q_imul dX12_takes_37 rfl ?_
      refine q_iadd dX12_takes_38 rfl ?_
      refine q_iconst dX12_takes_39 rfl rfl ?_
      refine q_iadd dX12_takes_40 rfl ?_
      obtain ⟨c3280, h⟩ := qk_some h
      refine q_iaload dX12_takes_41 (hL 85 (by decide)) sh_85 (qIx_0 c3280) (qIx_1 c3280) rfl ?_
      refine q_aload_n dX12_takes_42 rfl rfl ?_
      refine q_getA dX12_takes_43 fl_X12_57 (hL 70 (by decide)) sh_70 (by decide) rfl rfl ?_
      refine q_iload_n dX12_takes_46 rfl rfl ?_
      refine q_iconst dX12_takes_47 rfl rfl ?_
      refine q_iload_n dX12_takes_48 rfl rfl ?_
      refine q_imul dX12_takes_49 rfl ?_
      refine q_iadd dX12_takes_50 rfl ?_
      refine q_iconst dX12_takes_51 rfl rfl ?_
      refine q_iadd dX12_takes_52 rfl ?_
      obtain ⟨c3281, h⟩ := qk_some h
      refine q_iaload dX12_takes_53 (hL 85 (by decide)) sh_85 (qIx_0 c3281) (qIx_1 c3281) rfl ?_
      obtain ⟨q3282, h3283, h⟩ := Option.bind_eq_some_iff.mp h
      refine q_callVv (as := [qi x3, qi (S 85 (Int.toNat (x2 + (3 * x3)))), qi (S 85 (Int.toNat ((x2 + (3 * x3)) + 1))), qi (S 85 (Int.toNat ((x2 + (3 * x3)) + 2)))]) (c := 70) dX12_takes_54 ml_X12_383 rfl rfl (hL 70 (by decide)) sh_70 rfl rfl (Nat.le_of_ble_eq_true rfl) (M_lay_ok hL d x3 (S 85 (Int.toNat (x2 + (3 * x3)))) (S 85 (Int.toNat ((x2 + (3 * x3)) + 1))) (S 85 (Int.toNat ((x2 + (3 * x3)) + 2))) _ _ h3283) rfl ?_
      refine q_iinc (lv' := [(3, qi (x3 + 1)), (0, qr 70), (2, qi x2)]) dX12_takes_57 (by decide) rfl rfl rfl ?_
      refine q_goto (pc' := 7) dX12_takes_60 (by decide) ?_
      exact q_pick [1, 2, 0] rfl (ih x2 (x3 + 1) _ _ h hE)
set_option maxRecDepth 20000 in
theorem M_takes_ok {X : qX} (hL : ∀ c, c < 93 → c ∈ qLs X) (d : Nat) (a1 : Int) (S : qSto) (o : qSto) (h : M_takes a1 S = some o) (Q : Option qV → qSto → Prop) (hQ : Q none o) : qC X (d + 4) yX12_takes cX12_takes 4 none [qr 70, qi a1] S Q := by
  refine q_entry (lv := [(0, qr 70), (1, qi a1)]) pn_X12 (Nat.le_of_ble_eq_true rfl) rfl ?_
  unfold M_takes at h
  refine q_bipush dX12_takes_0 (by decide) rfl ?_
  refine q_iload_n dX12_takes_2 rfl rfl ?_
  refine q_imul dX12_takes_3 rfl ?_
  refine q_istore_n (lv' := [(2, qi (42 * a1)), (0, qr 70), (1, qi a1)]) dX12_takes_4 (by decide) rfl rfl ?_
  refine q_iconst dX12_takes_5 rfl rfl ?_
  refine q_istore_n (lv' := [(3, qi 0), (2, qi (42 * a1)), (0, qr 70), (1, qi a1)]) dX12_takes_6 (by decide) rfl rfl ?_
  obtain ⟨q3284, h3285, h⟩ := Option.bind_eq_some_iff.mp h
  refine q_pick [2, 1, 0] rfl (M_takes_L7_ok hL d qF (42 * a1) 0 _ _ h3285 ?_)
  cases h
  exact q_return dX12_takes_63 rfl hQ
set_option maxRecDepth 20000 in
theorem M_swap_ok {X : qX} (hL : ∀ c, c < 93 → c ∈ qLs X) (d : Nat) (a1 : Int) (a2 : Int) (S : qSto) (o : (Int × qSto)) (h : M_swap a1 a2 S = some o) (Q : Option qV → qSto → Prop) (hQ : Q (some (qi o.1)) o.2) : qC X (d + 8) yX12_swap cX12_swap 4 (some .int) [qr 70, qi a1, qi a2] S Q := by
  refine q_entry (lv := [(0, qr 70), (1, qi a1), (2, qi a2)]) pn_X12 (Nat.le_of_ble_eq_true rfl) rfl ?_
  unfold M_swap at h
  refine q_aload_n dX12_swap_0 rfl rfl ?_
  refine q_iload_n dX12_swap_1 rfl rfl ?_
  obtain ⟨q3231, h3232, h⟩ := Option.bind_eq_some_iff.mp h
  refine q_callVi (as := [qi a1]) (c := 70) dX12_swap_2 ml_X12_297 rfl rfl (hL 70 (by decide)) sh_70 rfl rfl (Nat.le_of_ble_eq_true rfl) (M_isShip_ok hL (d + 6) a1 _ _ h3232) rfl ?_
  obtain ⟨c3233, h⟩ := qk_some h
  refine q_if_eq (tgt := 21) dX12_swap_5 (by decide) rfl (qRb_R c3233)  (fun g => ?_) (fun g => ?_)
  · rw [if_pos (show q3231.1 = 0 from g)] at h
    refine q_iconst dX12_swap_21 rfl rfl ?_
    cases h
    exact q_ireturn dX12_swap_22 rfl hQ
  · rw [if_neg (show ¬ (q3231.1 = 0) from g)] at h
    refine q_aload_n dX12_swap_8 rfl rfl ?_
    refine q_iload_n dX12_swap_9 rfl rfl ?_
    obtain ⟨q3234, h3235, h⟩ := Option.bind_eq_some_iff.mp h
    refine q_callVi (as := [qi a2]) (c := 70) dX12_swap_10 ml_X12_297 rfl rfl (hL 70 (by decide)) sh_70 rfl rfl (Nat.le_of_ble_eq_true rfl) (M_isShip_ok hL (d + 6) a2 _ _ h3235) rfl ?_
    obtain ⟨c3236, h⟩ := qk_some h
    refine q_if_eq (tgt := 21) dX12_swap_13 (by decide) rfl (qRb_R c3236)  (fun g => ?_) (fun g => ?_)
    · rw [if_pos (show q3234.1 = 0 from g)] at h
      refine q_iconst dX12_swap_21 rfl rfl ?_
      cases h
      exact q_ireturn dX12_swap_22 rfl hQ
    · rw [if_neg (show ¬ (q3234.1 = 0) from g)] at h
      refine q_iload_n dX12_swap_16 rfl rfl ?_
      refine q_iload_n dX12_swap_17 rfl rfl ?_
      obtain ⟨c3237, h⟩ := qk_some h
      obtain ⟨c3238, h⟩ := qk_some h
      refine q_icmp_ne (tgt := 23) dX12_swap_18 (by decide) rfl (qRb_R c3237) (qRb_R c3238) (fun g => ?_) (fun g => ?_)
      · rw [if_neg (show ¬ (a1 = a2) from g)] at h
        refine q_aload_n dX12_swap_23 rfl rfl ?_
        refine q_iload_n dX12_swap_24 rfl rfl ?_
        obtain ⟨q3239, h3240, h⟩ := Option.bind_eq_some_iff.mp h
        refine q_callVi (as := [qi a1]) (c := 70) dX12_swap_25 ml_X12_326 rfl rfl (hL 70 (by decide)) sh_70 rfl rfl (Nat.le_of_ble_eq_true rfl) (M_stays_ok hL (d + 7) a1 _ _ h3240) rfl ?_
        obtain ⟨c3241, h⟩ := qk_some h
        refine q_if_eq (tgt := 39) dX12_swap_28 (by decide) rfl (qRb_R c3241)  (fun g => ?_) (fun g => ?_)
        · rw [if_pos (show q3239.1 = 0 from g)] at h
          refine q_iconst dX12_swap_39 rfl rfl ?_
          cases h
          exact q_ireturn dX12_swap_40 rfl hQ
        · rw [if_neg (show ¬ (q3239.1 = 0) from g)] at h
          refine q_aload_n dX12_swap_31 rfl rfl ?_
          refine q_iload_n dX12_swap_32 rfl rfl ?_
          obtain ⟨q3242, h3243, h⟩ := Option.bind_eq_some_iff.mp h
          refine q_callVi (as := [qi a2]) (c := 70) dX12_swap_33 ml_X12_326 rfl rfl (hL 70 (by decide)) sh_70 rfl rfl (Nat.le_of_ble_eq_true rfl) (M_stays_ok hL (d + 7) a2 _ _ h3243) rfl ?_
          obtain ⟨c3244, h⟩ := qk_some h
          refine q_if_ne (tgt := 41) dX12_swap_36 (by decide) rfl (qRb_R c3244)  (fun g => ?_) (fun g => ?_)
          · rw [if_neg (show ¬ (q3242.1 = 0) from g)] at h
            refine q_aload_n dX12_swap_41 rfl rfl ?_
            refine q_bipush dX12_swap_42 (by decide) rfl ?_
            obtain ⟨q3245, h3246, h⟩ := Option.bind_eq_some_iff.mp h
            refine q_callVv (as := [qi 16]) (c := 70) dX12_swap_44 ml_X12_414 rfl rfl (hL 70 (by decide)) sh_70 rfl rfl (Nat.le_of_ble_eq_true rfl) (M_puts_ok hL (d + 7) 16 _ _ h3246) rfl ?_
            refine q_aload_n dX12_swap_47 rfl rfl ?_
            refine q_iload_n dX12_swap_48 rfl rfl ?_
            refine q_iload_n dX12_swap_49 rfl rfl ?_
            obtain ⟨q3271, h3272, h⟩ := Option.bind_eq_some_iff.mp h
            refine q_callVi (as := [qi a1, qi a2]) (c := 70) dX12_swap_50 ml_X12_423 rfl rfl (hL 70 (by decide)) sh_70 rfl rfl (Nat.le_of_ble_eq_true rfl) (M_lawOfSwap_ok hL d a1 a2 _ _ h3272) rfl ?_
            refine q_istore_n (lv' := [(3, qi q3271.1), (0, qr 70), (1, qi a1), (2, qi a2)]) dX12_swap_53 (by decide) rfl rfl ?_
            refine q_iload_n dX12_swap_54 rfl rfl ?_
            obtain ⟨c3273, h⟩ := qk_some h
            refine q_if_le (tgt := 68) dX12_swap_55 (by decide) rfl (qRb_R c3273)  (fun g => ?_) (fun g => ?_)
            · rw [if_pos (show q3271.1 ≤ 0 from g)] at h
              refine q_aload_n dX12_swap_68 rfl rfl ?_
              obtain ⟨q3274, h3275, h⟩ := Option.bind_eq_some_iff.mp h
              refine q_callVv (as := []) (c := 70) dX12_swap_69 ml_X12_417 rfl rfl (hL 70 (by decide)) sh_70 rfl rfl (Nat.le_of_ble_eq_true rfl) (M_keeps_ok hL (d + 6) _ _ h3275) rfl ?_
              refine q_aload_n dX12_swap_72 rfl rfl ?_
              refine q_getA dX12_swap_73 fl_X12_48 (hL 70 (by decide)) sh_70 (by decide) rfl rfl ?_
              refine q_iload_n dX12_swap_76 rfl rfl ?_
              obtain ⟨c3276, h⟩ := qk_some h
              refine q_iaload dX12_swap_77 (hL 82 (by decide)) sh_82 (qIx_0 c3276) (qIx_1 c3276) rfl ?_
              cases h
              exact q_ireturn dX12_swap_78 rfl hQ
            · rw [if_neg (show ¬ (q3271.1 ≤ 0) from g)] at h
              refine q_aload_n dX12_swap_58 rfl rfl ?_
              refine q_bipush dX12_swap_59 (by decide) rfl ?_
              obtain ⟨q3286, h3287, h⟩ := Option.bind_eq_some_iff.mp h
              refine q_callVv (as := [qi 16]) (c := 70) dX12_swap_61 ml_X12_426 rfl rfl (hL 70 (by decide)) sh_70 rfl rfl (Nat.le_of_ble_eq_true rfl) (M_takes_ok hL (d + 3) 16 _ _ h3287) rfl ?_
              refine q_iconst dX12_swap_64 rfl rfl ?_
              refine q_iload_n dX12_swap_65 rfl rfl ?_
              refine q_isub dX12_swap_66 rfl ?_
              cases h
              exact q_ireturn dX12_swap_67 rfl hQ
          · rw [if_pos (show q3242.1 = 0 from g)] at h
            refine q_iconst dX12_swap_39 rfl rfl ?_
            cases h
            exact q_ireturn dX12_swap_40 rfl hQ
      · rw [if_pos (show a1 = a2 from g)] at h
        refine q_iconst dX12_swap_21 rfl rfl ?_
        cases h
        exact q_ireturn dX12_swap_22 rfl hQ
set_option maxRecDepth 20000 in
theorem M_nextOld_L5_ok {X : qX} (hL : ∀ c, c < 93 → c ∈ qLs X) (d : Nat) {Q : Option qV → qSto → Prop} : ∀ (n : Nat) (x1 : Int) (x2 : Int) (x3 : Int) (x4 : Int) (S : qSto) (o : (Int × qSto)), M_nextOld_L5 n x1 x2 x3 x4 S = some o → (qW X (d + 1) yX12_nextOld cX12_nextOld 6 (some .int) 103 [(3, qi o.1)] [] o.2 Q) → qW X (d + 1) yX12_nextOld cX12_nextOld 6 (some .int) 5 [(0, qr 70), (1, qi x1), (2, qi x2), (3, qi x3), (4, qi x4)] [] S Q := by
  intro n
  induction n with
  | zero =>
    intro x1 x2 x3 x4 S o h
    simp [M_nextOld_L5] at h
  | succ n ih =>
    intro x1 x2 x3 x4 S o h hE
    rw [M_nextOld_L5] at h
    refine q_iload dX12_nextOld_5 rfl rfl ?_
    refine q_aload_n dX12_nextOld_7 rfl rfl ?_
    refine q_getA dX12_nextOld_8 fl_X12_13 (hL 70 (by decide)) sh_70 (by decide) rfl rfl ?_
    refine q_bipush dX12_nextOld_11 (by decide) rfl ?_
    refine q_iaload dX12_nextOld_13 (hL 72 (by decide)) sh_72 (by decide) (by decide) rfl ?_
    obtain ⟨c3295, h⟩ := qk_some h
    obtain ⟨c3296, h⟩ := qk_some h
    refine q_icmp_ge (tgt := 103) dX12_nextOld_14 (by decide) rfl (qRb_R c3295) (qRb_R c3296) (fun g => ?_) (fun g => ?_)
    · rw [if_pos (show (S 72 9) ≤ x4 from g)] at h
      cases h
      exact q_pick [3] rfl (hE)
    · rw [if_neg (show ¬ ((S 72 9) ≤ x4) from g)] at h
      refine q_aload_n dX12_nextOld_17 rfl rfl ?_
      refine q_getA dX12_nextOld_18 fl_X12_64 (hL 70 (by decide)) sh_70 (by decide) rfl rfl ?_
      refine q_iload dX12_nextOld_21 rfl rfl ?_
      obtain ⟨c3297, h⟩ := qk_some h
      refine q_iaload dX12_nextOld_23 (hL 87 (by decide)) sh_87 (qIx_0 c3297) (qIx_1 c3297) rfl ?_
      refine q_iload_n dX12_nextOld_24 rfl rfl ?_
      refine q_jn (G := fun (t3305 : Int) => qW X (d + 1) yX12_nextOld cX12_nextOld 6 (some .int) 50 [(0, qr 70), (1, qi x1), (2, qi x2), (3, qi x3), (4, qi x4)] [qi t3305] S Q) h (fun t3305 h => ?_) (fun t3305 h hk4250 => ?_)
      · try dsimp only at h
        refine q_istore (lv' := [(5, qi t3305), (0, qr 70), (1, qi x1), (2, qi x2), (3, qi x3), (4, qi x4)]) dX12_nextOld_50 (by decide) rfl rfl ?_
        refine q_aload_n dX12_nextOld_52 rfl rfl ?_
        refine q_iload dX12_nextOld_53 rfl rfl ?_
        obtain ⟨q3306, h3307, h⟩ := Option.bind_eq_some_iff.mp h
        refine q_callVi (as := [qi x4]) (c := 70) dX12_nextOld_55 ml_X12_326 rfl rfl (hL 70 (by decide)) sh_70 rfl rfl (Nat.le_of_ble_eq_true rfl) (M_stays_ok hL d x4 _ _ h3307) rfl ?_
        refine q_jn (G := fun (t3316 : Int) => qW X (d + 1) yX12_nextOld cX12_nextOld 6 (some .int) 97 [(0, qr 70), (1, qi x1), (2, qi x2), (3, qi t3316), (4, qi x4)] [] q3306.2 Q) h (fun t3316 h => ?_) (fun t3316 h hk4251 => ?_)
        · try dsimp only at h
          refine q_iinc (lv' := [(4, qi (x4 + 1)), (0, qr 70), (1, qi x1), (2, qi x2), (3, qi t3316)]) dX12_nextOld_97 (by decide) rfl rfl rfl ?_
          refine q_goto (pc' := 5) dX12_nextOld_100 (by decide) ?_
          exact q_pick [1, 2, 3, 4, 0] rfl (ih x1 x2 t3316 (x4 + 1) _ _ h hE)
        · skip
          obtain ⟨c3308, h⟩ := qk_some h
          refine q_if_eq (tgt := 97) dX12_nextOld_58 (by decide) rfl (qRb_R c3308)  (fun g => ?_) (fun g => ?_)
          · rw [if_pos (show q3306.1 = 0 from g)] at h
            cases h
            exact q_pick [1, 2, 3, 4, 5] rfl hk4251
          · rw [if_neg (show ¬ (q3306.1 = 0) from g)] at h
            refine q_iload dX12_nextOld_61 rfl rfl ?_
            obtain ⟨c3309, h⟩ := qk_some h
            refine q_if_ne (tgt := 69) dX12_nextOld_63 (by decide) rfl (qRb_R c3309)  (fun g => ?_) (fun g => ?_)
            · rw [if_neg (show ¬ (t3305 = 0) from g)] at h
              refine q_iload_n dX12_nextOld_69 rfl rfl ?_
              refine q_iconst dX12_nextOld_70 rfl rfl ?_
              refine q_jn (G := fun (t3315 : Int) => qW X (d + 1) yX12_nextOld cX12_nextOld 6 (some .int) 96 [(0, qr 70), (1, qi x1), (2, qi x2), (4, qi x4)] [qi t3315] q3306.2 Q) h (fun t3315 h => ?_) (fun t3315 h hk4252 => ?_)
              · try dsimp only at h
                refine q_istore_n (lv' := [(3, qi t3315), (0, qr 70), (1, qi x1), (2, qi x2), (4, qi x4)]) dX12_nextOld_96 (by decide) rfl rfl ?_
                cases h
                exact q_pick [1, 2, 3, 0, 4] rfl hk4251
              · skip
                obtain ⟨c3310, h⟩ := qk_some h
                refine q_icmp_eq (tgt := 90) dX12_nextOld_71 (by decide) rfl (qRb_R c3310) ⟨by decide, by decide⟩ (fun g => ?_) (fun g => ?_)
                · rw [if_pos (show x3 = (-1) from g)] at h
                  refine q_iload dX12_nextOld_90 rfl rfl ?_
                  refine q_goto (pc' := 96) dX12_nextOld_92 (by decide) ?_
                  cases h
                  exact q_pick [1, 2, 3, 5] rfl hk4252
                · rw [if_neg (show ¬ (x3 = (-1)) from g)] at h
                  refine q_aload_n dX12_nextOld_74 rfl rfl ?_
                  refine q_getA dX12_nextOld_75 fl_X12_64 (hL 70 (by decide)) sh_70 (by decide) rfl rfl ?_
                  refine q_iload dX12_nextOld_78 rfl rfl ?_
                  obtain ⟨c3311, h⟩ := qk_some h
                  refine q_iaload dX12_nextOld_80 (hL 87 (by decide)) sh_87 (qIx_0 c3311) (qIx_1 c3311) rfl ?_
                  refine q_aload_n dX12_nextOld_81 rfl rfl ?_
                  refine q_getA dX12_nextOld_82 fl_X12_64 (hL 70 (by decide)) sh_70 (by decide) rfl rfl ?_
                  refine q_iload_n dX12_nextOld_85 rfl rfl ?_
                  obtain ⟨c3312, h⟩ := qk_some h
                  refine q_iaload dX12_nextOld_86 (hL 87 (by decide)) sh_87 (qIx_0 c3312) (qIx_1 c3312) rfl ?_
                  obtain ⟨c3313, h⟩ := qk_some h
                  obtain ⟨c3314, h⟩ := qk_some h
                  refine q_icmp_ge (tgt := 95) dX12_nextOld_87 (by decide) rfl (qRb_R c3313) (qRb_R c3314) (fun g => ?_) (fun g => ?_)
                  · rw [if_pos (show (q3306.2 87 (Int.toNat x3)) ≤ (q3306.2 87 (Int.toNat x4)) from g)] at h
                    refine q_iload_n dX12_nextOld_95 rfl rfl ?_
                    cases h
                    exact q_pick [1, 2, 3, 5] rfl hk4252
                  · rw [if_neg (show ¬ ((q3306.2 87 (Int.toNat x3)) ≤ (q3306.2 87 (Int.toNat x4))) from g)] at h
                    refine q_iload dX12_nextOld_90 rfl rfl ?_
                    refine q_goto (pc' := 96) dX12_nextOld_92 (by decide) ?_
                    cases h
                    exact q_pick [1, 2, 3, 5] rfl hk4252
            · rw [if_pos (show t3305 = 0 from g)] at h
              refine q_goto (pc' := 97) dX12_nextOld_66 (by decide) ?_
              cases h
              exact q_pick [1, 2, 3, 4, 5] rfl hk4251
      · skip
        obtain ⟨c3298, h⟩ := qk_some h
        obtain ⟨c3299, h⟩ := qk_some h
        refine q_icmp_gt (tgt := 45) dX12_nextOld_25 (by decide) rfl (qRb_R c3298) (qRb_R c3299) (fun g => ?_) (fun g => ?_)
        · rw [if_pos (show x1 < (S 87 (Int.toNat x4)) from g)] at h
          refine q_iconst dX12_nextOld_45 rfl rfl ?_
          refine q_goto (pc' := 50) dX12_nextOld_46 (by decide) ?_
          cases h
          exact q_pick [0, 1, 2, 3, 4] rfl hk4250
        · rw [if_neg (show ¬ (x1 < (S 87 (Int.toNat x4))) from g)] at h
          refine q_aload_n dX12_nextOld_28 rfl rfl ?_
          refine q_getA dX12_nextOld_29 fl_X12_64 (hL 70 (by decide)) sh_70 (by decide) rfl rfl ?_
          refine q_iload dX12_nextOld_32 rfl rfl ?_
          obtain ⟨c3300, h⟩ := qk_some h
          refine q_iaload dX12_nextOld_34 (hL 87 (by decide)) sh_87 (qIx_0 c3300) (qIx_1 c3300) rfl ?_
          refine q_iload_n dX12_nextOld_35 rfl rfl ?_
          obtain ⟨c3301, h⟩ := qk_some h
          obtain ⟨c3302, h⟩ := qk_some h
          refine q_icmp_ne (tgt := 49) dX12_nextOld_36 (by decide) rfl (qRb_R c3301) (qRb_R c3302) (fun g => ?_) (fun g => ?_)
          · rw [if_neg (show ¬ ((S 87 (Int.toNat x4)) = x1) from g)] at h
            refine q_iconst dX12_nextOld_49 rfl rfl ?_
            cases h
            exact q_pick [0, 1, 2, 3, 4] rfl hk4250
          · rw [if_pos (show (S 87 (Int.toNat x4)) = x1 from g)] at h
            refine q_iload dX12_nextOld_39 rfl rfl ?_
            refine q_iload_n dX12_nextOld_41 rfl rfl ?_
            obtain ⟨c3303, h⟩ := qk_some h
            obtain ⟨c3304, h⟩ := qk_some h
            refine q_icmp_le (tgt := 49) dX12_nextOld_42 (by decide) rfl (qRb_R c3303) (qRb_R c3304) (fun g => ?_) (fun g => ?_)
            · rw [if_pos (show x4 ≤ x2 from g)] at h
              refine q_iconst dX12_nextOld_49 rfl rfl ?_
              cases h
              exact q_pick [0, 1, 2, 3, 4] rfl hk4250
            · rw [if_neg (show ¬ (x4 ≤ x2) from g)] at h
              refine q_iconst dX12_nextOld_45 rfl rfl ?_
              refine q_goto (pc' := 50) dX12_nextOld_46 (by decide) ?_
              cases h
              exact q_pick [0, 1, 2, 3, 4] rfl hk4250
set_option maxRecDepth 20000 in
theorem M_nextOld_ok {X : qX} (hL : ∀ c, c < 93 → c ∈ qLs X) (d : Nat) (a1 : Int) (a2 : Int) (S : qSto) (o : (Int × qSto)) (h : M_nextOld a1 a2 S = some o) (Q : Option qV → qSto → Prop) (hQ : Q (some (qi o.1)) o.2) : qC X (d + 1) yX12_nextOld cX12_nextOld 6 (some .int) [qr 70, qi a1, qi a2] S Q := by
  refine q_entry (lv := [(0, qr 70), (1, qi a1), (2, qi a2)]) pn_X12 (Nat.le_of_ble_eq_true rfl) rfl ?_
  unfold M_nextOld at h
  refine q_iconst dX12_nextOld_0 rfl rfl ?_
  refine q_istore_n (lv' := [(3, qi (-1)), (0, qr 70), (1, qi a1), (2, qi a2)]) dX12_nextOld_1 (by decide) rfl rfl ?_
  refine q_iconst dX12_nextOld_2 rfl rfl ?_
  refine q_istore (lv' := [(4, qi 0), (3, qi (-1)), (0, qr 70), (1, qi a1), (2, qi a2)]) dX12_nextOld_3 (by decide) rfl rfl ?_
  obtain ⟨q3317, h3318, h⟩ := Option.bind_eq_some_iff.mp h
  refine q_pick [2, 3, 4, 1, 0] rfl (M_nextOld_L5_ok hL d qF a1 a2 (-1) 0 _ _ h3318 ?_)
  refine q_iload_n dX12_nextOld_103 rfl rfl ?_
  cases h
  exact q_ireturn dX12_nextOld_104 rfl hQ
set_option maxRecDepth 20000 in
theorem M_comesSooner_L7_ok {X : qX} (hL : ∀ c, c < 93 → c ∈ qLs X) (d : Nat) {Q : Option qV → qSto → Prop} : ∀ (n : Nat) (x1 : Int) (x2 : Int) (S : qSto) (o : (qSto ⊕ (Int × qSto))), M_comesSooner_L7 n x1 x2 S = some o → (∀ t, o = Sum.inl t → qW X (d + 7) yX12_comesSooner cX12_comesSooner 3 (some .boolean) 69 [] [] t Q) → (∀ w, o = Sum.inr w → Q (some (qi w.1)) w.2) → qW X (d + 7) yX12_comesSooner cX12_comesSooner 3 (some .boolean) 7 [(0, qr 70), (1, qi x1), (2, qi x2)] [] S Q := by
  intro n
  induction n with
  | zero =>
    intro x1 x2 S o h
    simp [M_comesSooner_L7] at h
  | succ n ih =>
    intro x1 x2 S o h hE hR
    rw [M_comesSooner_L7] at h
    refine q_iload_n dX12_comesSooner_7 rfl rfl ?_
    refine q_aload_n dX12_comesSooner_8 rfl rfl ?_
    refine q_getA dX12_comesSooner_9 fl_X12_39 (hL 70 (by decide)) sh_70 (by decide) rfl rfl ?_
    refine q_iload_n dX12_comesSooner_12 rfl rfl ?_
    obtain ⟨c3324, h⟩ := qk_some h
    refine q_iaload dX12_comesSooner_13 (hL 79 (by decide)) sh_79 (qIx_0 c3324) (qIx_1 c3324) rfl ?_
    obtain ⟨c3325, h⟩ := qk_some h
    obtain ⟨c3326, h⟩ := qk_some h
    refine q_icmp_ge (tgt := 69) dX12_comesSooner_14 (by decide) rfl (qRb_R c3325) (qRb_R c3326) (fun g => ?_) (fun g => ?_)
    · rw [if_pos (show (S 79 (Int.toNat x1)) ≤ x2 from g)] at h
      cases h
      exact q_pick [] rfl (hE _ rfl)
    · rw [if_neg (show ¬ ((S 79 (Int.toNat x1)) ≤ x2) from g)] at h
      refine q_aload_n dX12_comesSooner_17 rfl rfl ?_
      refine q_iload_n dX12_comesSooner_18 rfl rfl ?_
      refine q_aload_n dX12_comesSooner_19 rfl rfl ?_
      refine q_getA dX12_comesSooner_20 fl_X12_36 (hL 70 (by decide)) sh_70 (by decide) rfl rfl ?_
      refine q_iload_n dX12_comesSooner_23 rfl rfl ?_
      obtain ⟨c3327, h⟩ := qk_some h
      refine q_iaload dX12_comesSooner_24 (hL 78 (by decide)) sh_78 (qIx_0 c3327) (qIx_1 c3327) rfl ?_
      obtain ⟨c3328, h⟩ := qk_some h
      refine q_i2l dX12_comesSooner_25 (qRb_R c3328) rfl ?_
      refine q_iload_n dX12_comesSooner_26 rfl rfl ?_
      obtain ⟨c3329, h⟩ := qk_some h
      refine q_i2l dX12_comesSooner_27 (qRb_R c3329) rfl ?_
      refine q_aload_n dX12_comesSooner_28 rfl rfl ?_
      refine q_getA dX12_comesSooner_29 fl_X12_42 (hL 70 (by decide)) sh_70 (by decide) rfl rfl ?_
      refine q_iload_n dX12_comesSooner_32 rfl rfl ?_
      obtain ⟨c3330, h⟩ := qk_some h
      refine q_iaload dX12_comesSooner_33 (hL 80 (by decide)) sh_80 (qIx_0 c3330) (qIx_1 c3330) rfl ?_
      obtain ⟨q3331, h3332, h⟩ := Option.bind_eq_some_iff.mp h
      refine q_callVi (as := [qi x1, ql (S 78 (Int.toNat x1)), ql x2, qi (S 80 (Int.toNat x1))]) (c := 70) dX12_comesSooner_34 ml_X12_390 rfl rfl (hL 70 (by decide)) sh_70 rfl rfl (Nat.le_of_ble_eq_true rfl) (M_lawOf_ok hL d x1 (S 78 (Int.toNat x1)) x2 (S 80 (Int.toNat x1)) _ _ h3332) rfl ?_
      obtain ⟨c3333, h⟩ := qk_some h
      refine q_if_eq (tgt := 43) dX12_comesSooner_37 (by decide) rfl (qRb_R c3333)  (fun g => ?_) (fun g => ?_)
      · rw [if_pos (show q3331.1 = 0 from g)] at h
        refine q_aload_n dX12_comesSooner_43 rfl rfl ?_
        refine q_iload_n dX12_comesSooner_44 rfl rfl ?_
        refine q_aload_n dX12_comesSooner_45 rfl rfl ?_
        refine q_getA dX12_comesSooner_46 fl_X12_36 (hL 70 (by decide)) sh_70 (by decide) rfl rfl ?_
        refine q_iload_n dX12_comesSooner_49 rfl rfl ?_
        obtain ⟨c3334, h⟩ := qk_some h
        refine q_iaload dX12_comesSooner_50 (hL 78 (by decide)) sh_78 (qIx_0 c3334) (qIx_1 c3334) rfl ?_
        refine q_iload_n dX12_comesSooner_51 rfl rfl ?_
        refine q_aload_n dX12_comesSooner_52 rfl rfl ?_
        refine q_getA dX12_comesSooner_53 fl_X12_42 (hL 70 (by decide)) sh_70 (by decide) rfl rfl ?_
        refine q_iload_n dX12_comesSooner_56 rfl rfl ?_
        obtain ⟨c3335, h⟩ := qk_some h
        refine q_iaload dX12_comesSooner_57 (hL 80 (by decide)) sh_80 (qIx_0 c3335) (qIx_1 c3335) rfl ?_
        obtain ⟨q3336, h3337, h⟩ := Option.bind_eq_some_iff.mp h
        refine q_callVv (as := [qi x1, qi (q3331.2 78 (Int.toNat x1)), qi x2, qi (q3331.2 80 (Int.toNat x1))]) (c := 70) dX12_comesSooner_58 ml_X12_383 rfl rfl (hL 70 (by decide)) sh_70 rfl rfl (Nat.le_of_ble_eq_true rfl) (M_lay_ok hL (d + 3) x1 (q3331.2 78 (Int.toNat x1)) x2 (q3331.2 80 (Int.toNat x1)) _ _ h3337) rfl ?_
        refine q_iconst dX12_comesSooner_61 rfl rfl ?_
        cases h
        exact q_zreturn dX12_comesSooner_62 rfl (by decide) (hR _ rfl)
      · rw [if_neg (show ¬ (q3331.1 = 0) from g)] at h
        refine q_goto (pc' := 63) dX12_comesSooner_40 (by decide) ?_
        refine q_iinc (lv' := [(2, qi (x2 + 1)), (0, qr 70), (1, qi x1)]) dX12_comesSooner_63 (by decide) rfl rfl rfl ?_
        refine q_goto (pc' := 7) dX12_comesSooner_66 (by decide) ?_
        exact q_pick [1, 2, 0] rfl (ih x1 (x2 + 1) _ _ h hE hR)
set_option maxRecDepth 20000 in
theorem M_comesSooner_ok {X : qX} (hL : ∀ c, c < 93 → c ∈ qLs X) (d : Nat) (a1 : Int) (S : qSto) (o : (Int × qSto)) (h : M_comesSooner a1 S = some o) (Q : Option qV → qSto → Prop) (hQ : Q (some (qi o.1)) o.2) : qC X (d + 7) yX12_comesSooner cX12_comesSooner 3 (some .boolean) [qr 70, qi a1] S Q := by
  refine q_entry (lv := [(0, qr 70), (1, qi a1)]) pn_X12 (Nat.le_of_ble_eq_true rfl) rfl ?_
  unfold M_comesSooner at h
  refine q_aload_n dX12_comesSooner_0 rfl rfl ?_
  refine q_iload_n dX12_comesSooner_1 rfl rfl ?_
  refine q_iconst dX12_comesSooner_2 rfl rfl ?_
  obtain ⟨q3322, h3323, h⟩ := Option.bind_eq_some_iff.mp h
  refine q_callVi (as := [qi a1, qi 4]) (c := 70) dX12_comesSooner_3 ml_X12_316 rfl rfl (hL 70 (by decide)) sh_70 rfl rfl (Nat.le_of_ble_eq_true rfl) (M_of_ok hL (d + 6) a1 4 _ _ h3323) rfl ?_
  refine q_istore_n (lv' := [(2, qi q3322.1), (0, qr 70), (1, qi a1)]) dX12_comesSooner_6 (by decide) rfl rfl ?_
  obtain ⟨q3338, h3339, h⟩ := Option.bind_eq_some_iff.mp h
  refine q_pick [1, 2, 0] rfl (M_comesSooner_L7_ok hL d qF a1 q3322.1 _ _ h3339 (fun t3340 e4253 => ?_) (fun w e4253 => ?_))
  · subst e4253
    simp only [Sum.elim_inl] at h
    refine q_iconst dX12_comesSooner_69 rfl rfl ?_
    cases h
    exact q_zreturn dX12_comesSooner_70 rfl (by decide) hQ
  · subst e4253
    simp only [Sum.elim_inr] at h
    cases h
    exact hQ
set_option maxRecDepth 20000 in
theorem M_squeeze_L8_ok {X : qX} (hL : ∀ c, c < 93 → c ∈ qLs X) (d : Nat) {Q : Option qV → qSto → Prop} : ∀ (n : Nat) (x1 : Int) (S : qSto) (o : qSto), M_squeeze_L8 n x1 S = some o → (qW X (d + 8) yX12_squeeze cX12_squeeze 3 (some .int) 32 [(0, qr 70)] [] o Q) → qW X (d + 8) yX12_squeeze cX12_squeeze 3 (some .int) 8 [(0, qr 70), (1, qi x1)] [] S Q := by
  intro n
  induction n with
  | zero =>
    intro x1 S o h
    simp [M_squeeze_L8] at h
  | succ n ih =>
    intro x1 S o h hE
    rw [M_squeeze_L8] at h
    refine q_iload_n dX12_squeeze_8 rfl rfl ?_
    refine q_bipush dX12_squeeze_9 (by decide) rfl ?_
    obtain ⟨c3290, h⟩ := qk_some h
    refine q_icmp_ge (tgt := 32) dX12_squeeze_11 (by decide) rfl (qRb_R c3290) ⟨by decide, by decide⟩ (fun g => ?_) (fun g => ?_)
    · rw [if_pos (show 14 ≤ x1 from g)] at h
      cases h
      exact q_pick [0] rfl (hE)
    · rw [if_neg (show ¬ (14 ≤ x1) from g)] at h
      refine q_aload_n dX12_squeeze_14 rfl rfl ?_
      refine q_getA dX12_squeeze_15 fl_X12_64 (hL 70 (by decide)) sh_70 (by decide) rfl rfl ?_
      refine q_iload_n dX12_squeeze_18 rfl rfl ?_
      refine q_aload_n dX12_squeeze_19 rfl rfl ?_
      refine q_getA dX12_squeeze_20 fl_X12_39 (hL 70 (by decide)) sh_70 (by decide) rfl rfl ?_
      refine q_iload_n dX12_squeeze_23 rfl rfl ?_
      obtain ⟨c3291, h⟩ := qk_some h
      refine q_iaload dX12_squeeze_24 (hL 79 (by decide)) sh_79 (qIx_0 c3291) (qIx_1 c3291) rfl ?_
      obtain ⟨c3292, h⟩ := qk_some h
      refine q_iastore dX12_squeeze_25 (hL 87 (by decide)) sh_87 (qIx_0 c3292) (qIx_1 c3292) rfl ?_
      refine q_iinc (lv' := [(1, qi (x1 + 1)), (0, qr 70)]) dX12_squeeze_26 (by decide) rfl rfl rfl ?_
      refine q_goto (pc' := 8) dX12_squeeze_29 (by decide) ?_
      exact q_pick [1, 0] rfl (ih (x1 + 1) _ _ h hE)
set_option maxRecDepth 20000 in
theorem M_squeeze_L41_ok {X : qX} (hL : ∀ c, c < 93 → c ∈ qLs X) (d : Nat) {Q : Option qV → qSto → Prop} : ∀ (n : Nat) (x1 : Int) (x2 : Int) (S : qSto) (o : (Int × qSto)), M_squeeze_L41 n x1 x2 S = some o → (qW X (d + 8) yX12_squeeze cX12_squeeze 3 (some .int) 77 [(0, qr 70), (1, qi o.1)] [] o.2 Q) → qW X (d + 8) yX12_squeeze cX12_squeeze 3 (some .int) 41 [(0, qr 70), (1, qi x1), (2, qi x2)] [] S Q := by
  intro n
  induction n with
  | zero =>
    intro x1 x2 S o h
    simp [M_squeeze_L41] at h
  | succ n ih =>
    intro x1 x2 S o h hE
    rw [M_squeeze_L41] at h
    refine q_iload_n dX12_squeeze_41 rfl rfl ?_
    refine q_iconst dX12_squeeze_42 rfl rfl ?_
    obtain ⟨c3321, h⟩ := qk_some h
    refine q_icmp_eq (tgt := 77) dX12_squeeze_43 (by decide) rfl (qRb_R c3321) ⟨by decide, by decide⟩ (fun g => ?_) (fun g => ?_)
    · rw [if_pos (show x2 = (-1) from g)] at h
      cases h
      exact q_pick [0, 1] rfl (hE)
    · rw [if_neg (show ¬ (x2 = (-1)) from g)] at h
      refine q_aload_n dX12_squeeze_46 rfl rfl ?_
      refine q_iload_n dX12_squeeze_47 rfl rfl ?_
      obtain ⟨q3341, h3342, h⟩ := Option.bind_eq_some_iff.mp h
      refine q_callVi (as := [qi x2]) (c := 70) dX12_squeeze_48 ml_X12_432 rfl rfl (hL 70 (by decide)) sh_70 rfl rfl (Nat.le_of_ble_eq_true rfl) (M_comesSooner_ok hL d x2 _ _ h3342) rfl ?_
      refine q_jn (G := fun (t3344 : Int) => qW X (d + 8) yX12_squeeze cX12_squeeze 3 (some .int) 61 [(0, qr 70), (2, qi x2)] [qi t3344] q3341.2 Q) h (fun t3344 h => ?_) (fun t3344 h hk4254 => ?_)
      · try dsimp only at h
        refine q_istore_n (lv' := [(1, qi t3344), (0, qr 70), (2, qi x2)]) dX12_squeeze_61 (by decide) rfl rfl ?_
        refine q_aload_n dX12_squeeze_62 rfl rfl ?_
        refine q_aload_n dX12_squeeze_63 rfl rfl ?_
        refine q_getA dX12_squeeze_64 fl_X12_64 (hL 70 (by decide)) sh_70 (by decide) rfl rfl ?_
        refine q_iload_n dX12_squeeze_67 rfl rfl ?_
        obtain ⟨c3345, h⟩ := qk_some h
        refine q_iaload dX12_squeeze_68 (hL 87 (by decide)) sh_87 (qIx_0 c3345) (qIx_1 c3345) rfl ?_
        refine q_iload_n dX12_squeeze_69 rfl rfl ?_
        obtain ⟨q3346, h3347, h⟩ := Option.bind_eq_some_iff.mp h
        refine q_callVi (as := [qi (q3341.2 87 (Int.toNat x2)), qi x2]) (c := 70) dX12_squeeze_70 ml_X12_429 rfl rfl (hL 70 (by decide)) sh_70 rfl rfl (Nat.le_of_ble_eq_true rfl) (M_nextOld_ok hL (d + 6) (q3341.2 87 (Int.toNat x2)) x2 _ _ h3347) rfl ?_
        refine q_istore_n (lv' := [(2, qi q3346.1), (1, qi t3344), (0, qr 70)]) dX12_squeeze_73 (by decide) rfl rfl ?_
        refine q_goto (pc' := 41) dX12_squeeze_74 (by decide) ?_
        exact q_pick [2, 1, 0] rfl (ih t3344 q3346.1 _ _ h hE)
      · skip
        obtain ⟨c3343, h⟩ := qk_some h
        refine q_if_eq (tgt := 60) dX12_squeeze_51 (by decide) rfl (qRb_R c3343)  (fun g => ?_) (fun g => ?_)
        · rw [if_pos (show q3341.1 = 0 from g)] at h
          refine q_iload_n dX12_squeeze_60 rfl rfl ?_
          cases h
          exact q_pick [0, 2] rfl hk4254
        · rw [if_neg (show ¬ (q3341.1 = 0) from g)] at h
          refine q_iload_n dX12_squeeze_54 rfl rfl ?_
          refine q_iconst dX12_squeeze_55 rfl rfl ?_
          refine q_iadd dX12_squeeze_56 rfl ?_
          refine q_goto (pc' := 61) dX12_squeeze_57 (by decide) ?_
          cases h
          exact q_pick [0, 2] rfl hk4254
set_option maxRecDepth 20000 in
theorem M_squeeze_ok {X : qX} (hL : ∀ c, c < 93 → c ∈ qLs X) (d : Nat) (S : qSto) (o : (Int × qSto)) (h : M_squeeze S = some o) (Q : Option qV → qSto → Prop) (hQ : Q (some (qi o.1)) o.2) : qC X (d + 8) yX12_squeeze cX12_squeeze 3 (some .int) [qr 70] S Q := by
  refine q_entry (lv := [(0, qr 70)]) pn_X12 (Nat.le_of_ble_eq_true rfl) rfl ?_
  unfold M_squeeze at h
  refine q_aload_n dX12_squeeze_0 rfl rfl ?_
  refine q_bipush dX12_squeeze_1 (by decide) rfl ?_
  obtain ⟨q3288, h3289, h⟩ := Option.bind_eq_some_iff.mp h
  refine q_callVv (as := [qi 16]) (c := 70) dX12_squeeze_3 ml_X12_414 rfl rfl (hL 70 (by decide)) sh_70 rfl rfl (Nat.le_of_ble_eq_true rfl) (M_puts_ok hL (d + 7) 16 _ _ h3289) rfl ?_
  refine q_iconst dX12_squeeze_6 rfl rfl ?_
  refine q_istore_n (lv' := [(1, qi 0), (0, qr 70)]) dX12_squeeze_7 (by decide) rfl rfl ?_
  obtain ⟨q3293, h3294, h⟩ := Option.bind_eq_some_iff.mp h
  refine q_pick [1, 0] rfl (M_squeeze_L8_ok hL d qF 0 _ _ h3294 ?_)
  refine q_iconst dX12_squeeze_32 rfl rfl ?_
  refine q_istore_n (lv' := [(1, qi 0), (0, qr 70)]) dX12_squeeze_33 (by decide) rfl rfl ?_
  refine q_aload_n dX12_squeeze_34 rfl rfl ?_
  refine q_iconst dX12_squeeze_35 rfl rfl ?_
  refine q_iconst dX12_squeeze_36 rfl rfl ?_
  obtain ⟨q3319, h3320, h⟩ := Option.bind_eq_some_iff.mp h
  refine q_callVi (as := [qi (-1), qi (-1)]) (c := 70) dX12_squeeze_37 ml_X12_429 rfl rfl (hL 70 (by decide)) sh_70 rfl rfl (Nat.le_of_ble_eq_true rfl) (M_nextOld_ok hL (d + 6) (-1) (-1) _ _ h3320) rfl ?_
  refine q_istore_n (lv' := [(2, qi q3319.1), (1, qi 0), (0, qr 70)]) dX12_squeeze_40 (by decide) rfl rfl ?_
  obtain ⟨q3348, h3349, h⟩ := Option.bind_eq_some_iff.mp h
  refine q_pick [2, 1, 0] rfl (M_squeeze_L41_ok hL d qF 0 q3319.1 _ _ h3349 ?_)
  refine q_iload_n dX12_squeeze_77 rfl rfl ?_
  obtain ⟨c3350, h⟩ := qk_some h
  refine q_if_ne (tgt := 83) dX12_squeeze_78 (by decide) rfl (qRb_R c3350)  (fun g => ?_) (fun g => ?_)
  · rw [if_neg (show ¬ (q3348.1 = 0) from g)] at h
    refine q_aload_n dX12_squeeze_83 rfl rfl ?_
    obtain ⟨q3351, h3352, h⟩ := Option.bind_eq_some_iff.mp h
    refine q_callVv (as := []) (c := 70) dX12_squeeze_84 ml_X12_417 rfl rfl (hL 70 (by decide)) sh_70 rfl rfl (Nat.le_of_ble_eq_true rfl) (M_keeps_ok hL (d + 6) _ _ h3352) rfl ?_
    refine q_iload_n dX12_squeeze_87 rfl rfl ?_
    cases h
    exact q_ireturn dX12_squeeze_88 rfl hQ
  · rw [if_pos (show q3348.1 = 0 from g)] at h
    refine q_iconst dX12_squeeze_81 rfl rfl ?_
    cases h
    exact q_ireturn dX12_squeeze_82 rfl hQ
set_option maxRecDepth 20000 in
theorem M_places_L22_ok {X : qX} (hL : ∀ c, c < 93 → c ∈ qLs X) (d : Nat) {Q : Option qV → qSto → Prop} : ∀ (n : Nat) (x1 : Int) (x2 : Int) (x3 : Int) (x4 : Int) (x5 : Int) (x6 : Int) (S : qSto) (o : ((Int × qSto) ⊕ (Int × qSto))), M_places_L22 n x1 x2 x3 x4 x5 x6 S = some o → (∀ t, o = Sum.inl t → qW X (d + 7) yX12_places cX12_places 7 (some .int) 83 [(4, qi x4), (5, qi t.1)] [] t.2 Q) → (∀ w, o = Sum.inr w → Q (some (qi w.1)) w.2) → qW X (d + 7) yX12_places cX12_places 7 (some .int) 22 [(0, qr 70), (1, qi x1), (2, qi x2), (3, qi x3), (4, qi x4), (5, qi x5), (6, qi x6)] [] S Q := by
  intro n
  induction n with
  | zero =>
    intro x1 x2 x3 x4 x5 x6 S o h
    simp [M_places_L22] at h
  | succ n ih =>
    intro x1 x2 x3 x4 x5 x6 S o h hE hR
    rw [M_places_L22] at h
    refine q_iload dX12_places_22 rfl rfl ?_
    refine q_aload_n dX12_places_24 rfl rfl ?_
    refine q_iload_n dX12_places_25 rfl rfl ?_
    refine q_iconst dX12_places_26 rfl rfl ?_
    obtain ⟨q3357, h3358, h⟩ := Option.bind_eq_some_iff.mp h
    refine q_callVi (as := [qi x1, qi 0]) (c := 70) dX12_places_27 ml_X12_316 rfl rfl (hL 70 (by decide)) sh_70 rfl rfl (Nat.le_of_ble_eq_true rfl) (M_of_ok hL (d + 6) x1 0 _ _ h3358) rfl ?_
    refine q_iadd dX12_places_30 rfl ?_
    refine q_aload_n dX12_places_31 rfl rfl ?_
    refine q_getA dX12_places_32 fl_X12_13 (hL 70 (by decide)) sh_70 (by decide) rfl rfl ?_
    refine q_iconst dX12_places_35 rfl rfl ?_
    refine q_iaload dX12_places_36 (hL 72 (by decide)) sh_72 (by decide) (by decide) rfl ?_
    obtain ⟨c3359, h⟩ := qk_some h
    obtain ⟨c3360, h⟩ := qk_some h
    refine q_icmp_gt (tgt := 83) dX12_places_37 (by decide) rfl (qRb_R c3359) (qRb_R c3360) (fun g => ?_) (fun g => ?_)
    · rw [if_pos (show (q3357.2 72 0) < (x6 + q3357.1) from g)] at h
      cases h
      exact q_pick [4, 5] rfl (hE _ rfl)
    · rw [if_neg (show ¬ ((q3357.2 72 0) < (x6 + q3357.1)) from g)] at h
      refine q_aload_n dX12_places_40 rfl rfl ?_
      refine q_iload_n dX12_places_41 rfl rfl ?_
      refine q_iload dX12_places_42 rfl rfl ?_
      obtain ⟨c3361, h⟩ := qk_some h
      refine q_i2l dX12_places_44 (qRb_R c3361) rfl ?_
      refine q_iload_n dX12_places_45 rfl rfl ?_
      obtain ⟨c3362, h⟩ := qk_some h
      refine q_i2l dX12_places_46 (qRb_R c3362) rfl ?_
      refine q_iload_n dX12_places_47 rfl rfl ?_
      obtain ⟨q3363, h3364, h⟩ := Option.bind_eq_some_iff.mp h
      refine q_callVi (as := [qi x1, ql x6, ql x2, qi x3]) (c := 70) dX12_places_48 ml_X12_390 rfl rfl (hL 70 (by decide)) sh_70 rfl rfl (Nat.le_of_ble_eq_true rfl) (M_lawOf_ok hL d x1 x6 x2 x3 _ _ h3364) rfl ?_
      obtain ⟨c3365, h⟩ := qk_some h
      refine q_if_eq (tgt := 57) dX12_places_51 (by decide) rfl (qRb_R c3365)  (fun g => ?_) (fun g => ?_)
      · rw [if_pos (show q3363.1 = 0 from g)] at h
        refine q_iload dX12_places_57 rfl rfl ?_
        refine q_iload dX12_places_59 rfl rfl ?_
        obtain ⟨c3366, h⟩ := qk_some h
        obtain ⟨c3367, h⟩ := qk_some h
        refine q_icmp_ne (tgt := 67) dX12_places_61 (by decide) rfl (qRb_R c3366) (qRb_R c3367) (fun g => ?_) (fun g => ?_)
        · rw [if_neg (show ¬ (x5 = x4) from g)] at h
          refine q_iload dX12_places_67 rfl rfl ?_
          refine q_iconst dX12_places_69 rfl rfl ?_
          refine q_iadd dX12_places_70 rfl ?_
          refine q_istore (lv' := [(5, qi (x5 + 1)), (0, qr 70), (1, qi x1), (2, qi x2), (3, qi x3), (4, qi x4), (6, qi x6)]) dX12_places_71 (by decide) rfl rfl ?_
          refine q_iload dX12_places_73 rfl rfl ?_
          refine q_bipush dX12_places_75 (by decide) rfl ?_
          refine q_iadd dX12_places_77 rfl ?_
          refine q_istore (lv' := [(6, qi (x6 + 10)), (5, qi (x5 + 1)), (0, qr 70), (1, qi x1), (2, qi x2), (3, qi x3), (4, qi x4)]) dX12_places_78 (by decide) rfl rfl ?_
          refine q_goto (pc' := 22) dX12_places_80 (by decide) ?_
          exact q_pick [2, 3, 4, 5, 6, 1, 0] rfl (ih x1 x2 x3 x4 (x5 + 1) (x6 + 10) _ _ h hE hR)
        · rw [if_pos (show x5 = x4 from g)] at h
          refine q_iload dX12_places_64 rfl rfl ?_
          cases h
          exact q_ireturn dX12_places_66 rfl (hR _ rfl)
      · rw [if_neg (show ¬ (q3363.1 = 0) from g)] at h
        refine q_goto (pc' := 73) dX12_places_54 (by decide) ?_
        refine q_iload dX12_places_73 rfl rfl ?_
        refine q_bipush dX12_places_75 (by decide) rfl ?_
        refine q_iadd dX12_places_77 rfl ?_
        refine q_istore (lv' := [(6, qi (x6 + 10)), (0, qr 70), (1, qi x1), (2, qi x2), (3, qi x3), (4, qi x4), (5, qi x5)]) dX12_places_78 (by decide) rfl rfl ?_
        refine q_goto (pc' := 22) dX12_places_80 (by decide) ?_
        exact q_pick [1, 2, 3, 4, 5, 6, 0] rfl (ih x1 x2 x3 x4 x5 (x6 + 10) _ _ h hE hR)
set_option maxRecDepth 20000 in
theorem M_places_ok {X : qX} (hL : ∀ c, c < 93 → c ∈ qLs X) (d : Nat) (a1 : Int) (a2 : Int) (a3 : Int) (a4 : Int) (S : qSto) (o : (Int × qSto)) (h : M_places a1 a2 a3 a4 S = some o) (Q : Option qV → qSto → Prop) (hQ : Q (some (qi o.1)) o.2) : qC X (d + 7) yX12_places cX12_places 7 (some .int) [qr 70, qi a1, qi a2, qi a3, qi a4] S Q := by
  refine q_entry (lv := [(0, qr 70), (1, qi a1), (2, qi a2), (3, qi a3), (4, qi a4)]) pn_X12 (Nat.le_of_ble_eq_true rfl) rfl ?_
  unfold M_places at h
  refine q_aload_n dX12_places_0 rfl rfl ?_
  refine q_iload_n dX12_places_1 rfl rfl ?_
  obtain ⟨q3353, h3354, h⟩ := Option.bind_eq_some_iff.mp h
  refine q_callVi (as := [qi a1]) (c := 70) dX12_places_2 ml_X12_297 rfl rfl (hL 70 (by decide)) sh_70 rfl rfl (Nat.le_of_ble_eq_true rfl) (M_isShip_ok hL (d + 5) a1 _ _ h3354) rfl ?_
  obtain ⟨c3355, h⟩ := qk_some h
  refine q_if_eq (tgt := 14) dX12_places_5 (by decide) rfl (qRb_R c3355)  (fun g => ?_) (fun g => ?_)
  · rw [if_pos (show q3353.1 = 0 from g)] at h
    refine q_iconst dX12_places_14 rfl rfl ?_
    cases h
    exact q_ireturn dX12_places_15 rfl hQ
  · rw [if_neg (show ¬ (q3353.1 = 0) from g)] at h
    refine q_iload dX12_places_8 rfl rfl ?_
    refine q_iconst dX12_places_10 rfl rfl ?_
    obtain ⟨c3356, h⟩ := qk_some h
    refine q_icmp_ge (tgt := 16) dX12_places_11 (by decide) rfl (qRb_R c3356) ⟨by decide, by decide⟩ (fun g => ?_) (fun g => ?_)
    · rw [if_pos (show (-1) ≤ a4 from g)] at h
      refine q_iconst dX12_places_16 rfl rfl ?_
      refine q_istore (lv' := [(5, qi 0), (0, qr 70), (1, qi a1), (2, qi a2), (3, qi a3), (4, qi a4)]) dX12_places_17 (by decide) rfl rfl ?_
      refine q_iconst dX12_places_19 rfl rfl ?_
      refine q_istore (lv' := [(6, qi 0), (5, qi 0), (0, qr 70), (1, qi a1), (2, qi a2), (3, qi a3), (4, qi a4)]) dX12_places_20 (by decide) rfl rfl ?_
      obtain ⟨q3368, h3369, h⟩ := Option.bind_eq_some_iff.mp h
      refine q_pick [2, 3, 4, 5, 6, 1, 0] rfl (M_places_L22_ok hL d qF a1 a2 a3 a4 0 0 _ _ h3369 (fun t3370 e4255 => ?_) (fun w e4255 => ?_))
      · subst e4255
        simp only [Sum.elim_inl] at h
        refine q_iload dX12_places_83 rfl rfl ?_
        refine q_iconst dX12_places_85 rfl rfl ?_
        obtain ⟨c3371, h⟩ := qk_some h
        refine q_icmp_ne (tgt := 94) dX12_places_86 (by decide) rfl (qRb_R c3371) ⟨by decide, by decide⟩ (fun g => ?_) (fun g => ?_)
        · rw [if_neg (show ¬ (a4 = (-1)) from g)] at h
          refine q_bipush dX12_places_94 (by decide) rfl ?_
          cases h
          exact q_ireturn dX12_places_96 rfl hQ
        · rw [if_pos (show a4 = (-1) from g)] at h
          refine q_iload dX12_places_89 rfl rfl ?_
          refine q_goto (pc' := 96) dX12_places_91 (by decide) ?_
          cases h
          exact q_ireturn dX12_places_96 rfl hQ
      · subst e4255
        simp only [Sum.elim_inr] at h
        cases h
        exact hQ
    · rw [if_neg (show ¬ ((-1) ≤ a4) from g)] at h
      refine q_iconst dX12_places_14 rfl rfl ?_
      cases h
      exact q_ireturn dX12_places_15 rfl hQ
set_option maxRecDepth 20000 in
theorem M_hopeless_L8_ok {X : qX} (hL : ∀ c, c < 93 → c ∈ qLs X) (d : Nat) {Q : Option qV → qSto → Prop} : ∀ (n : Nat) (x1 : Int) (S : qSto) (o : qSto), M_hopeless_L8 n x1 S = some o → (qW X (d + 8) yX12_hopeless cX12_hopeless 3 (some .int) 27 [(0, qr 70)] [] o Q) → qW X (d + 8) yX12_hopeless cX12_hopeless 3 (some .int) 8 [(0, qr 70), (1, qi x1)] [] S Q := by
  intro n
  induction n with
  | zero =>
    intro x1 S o h
    simp [M_hopeless_L8] at h
  | succ n ih =>
    intro x1 S o h hE
    rw [M_hopeless_L8] at h
    refine q_iload_n dX12_hopeless_8 rfl rfl ?_
    refine q_bipush dX12_hopeless_9 (by decide) rfl ?_
    obtain ⟨c3374, h⟩ := qk_some h
    refine q_icmp_ge (tgt := 27) dX12_hopeless_11 (by decide) rfl (qRb_R c3374) ⟨by decide, by decide⟩ (fun g => ?_) (fun g => ?_)
    · rw [if_pos (show 14 ≤ x1 from g)] at h
      cases h
      exact q_pick [0] rfl (hE)
    · rw [if_neg (show ¬ (14 ≤ x1) from g)] at h
      refine q_aload_n dX12_hopeless_14 rfl rfl ?_
      refine q_getA dX12_hopeless_15 fl_X12_42 (hL 70 (by decide)) sh_70 (by decide) rfl rfl ?_
      refine q_iload_n dX12_hopeless_18 rfl rfl ?_
      refine q_iconst dX12_hopeless_19 rfl rfl ?_
      obtain ⟨c3375, h⟩ := qk_some h
      refine q_iastore dX12_hopeless_20 (hL 80 (by decide)) sh_80 (qIx_0 c3375) (qIx_1 c3375) rfl ?_
      refine q_iinc (lv' := [(1, qi (x1 + 1)), (0, qr 70)]) dX12_hopeless_21 (by decide) rfl rfl rfl ?_
      refine q_goto (pc' := 8) dX12_hopeless_24 (by decide) ?_
      exact q_pick [1, 0] rfl (ih (x1 + 1) _ _ h hE)
set_option maxRecDepth 20000 in
theorem M_hopeless_L31_ok {X : qX} (hL : ∀ c, c < 93 → c ∈ qLs X) (d : Nat) {Q : Option qV → qSto → Prop} : ∀ (n : Nat) (x1 : Int) (x2 : Int) (S : qSto) (o : (Int × qSto)), M_hopeless_L31 n x1 x2 S = some o → (qW X (d + 8) yX12_hopeless cX12_hopeless 3 (some .int) 67 [(0, qr 70), (1, qi o.1)] [] o.2 Q) → qW X (d + 8) yX12_hopeless cX12_hopeless 3 (some .int) 31 [(0, qr 70), (1, qi x1), (2, qi x2)] [] S Q := by
  intro n
  induction n with
  | zero =>
    intro x1 x2 S o h
    simp [M_hopeless_L31] at h
  | succ n ih =>
    intro x1 x2 S o h hE
    rw [M_hopeless_L31] at h
    refine q_iload_n dX12_hopeless_31 rfl rfl ?_
    refine q_aload_n dX12_hopeless_32 rfl rfl ?_
    refine q_getA dX12_hopeless_33 fl_X12_13 (hL 70 (by decide)) sh_70 (by decide) rfl rfl ?_
    refine q_bipush dX12_hopeless_36 (by decide) rfl ?_
    refine q_iaload dX12_hopeless_38 (hL 72 (by decide)) sh_72 (by decide) (by decide) rfl ?_
    obtain ⟨c3378, h⟩ := qk_some h
    obtain ⟨c3379, h⟩ := qk_some h
    refine q_icmp_ge (tgt := 67) dX12_hopeless_39 (by decide) rfl (qRb_R c3378) (qRb_R c3379) (fun g => ?_) (fun g => ?_)
    · rw [if_pos (show (S 72 9) ≤ x2 from g)] at h
      cases h
      exact q_pick [0, 1] rfl (hE)
    · rw [if_neg (show ¬ ((S 72 9) ≤ x2) from g)] at h
      refine q_aload_n dX12_hopeless_42 rfl rfl ?_
      refine q_iload_n dX12_hopeless_43 rfl rfl ?_
      obtain ⟨q3380, h3381, h⟩ := Option.bind_eq_some_iff.mp h
      refine q_callVi (as := [qi x2]) (c := 70) dX12_hopeless_44 ml_X12_408 rfl rfl (hL 70 (by decide)) sh_70 rfl rfl (Nat.le_of_ble_eq_true rfl) (M_seeksItself_ok hL d x2 _ _ h3381) rfl ?_
      refine q_iconst dX12_hopeless_47 rfl rfl ?_
      refine q_jn (G := fun (t3383 : Int) => qW X (d + 8) yX12_hopeless cX12_hopeless 3 (some .int) 60 [(0, qr 70), (2, qi x2)] [qi t3383] q3380.2 Q) h (fun t3383 h => ?_) (fun t3383 h hk4256 => ?_)
      · try dsimp only at h
        refine q_istore_n (lv' := [(1, qi t3383), (0, qr 70), (2, qi x2)]) dX12_hopeless_60 (by decide) rfl rfl ?_
        refine q_iinc (lv' := [(2, qi (x2 + 1)), (1, qi t3383), (0, qr 70)]) dX12_hopeless_61 (by decide) rfl rfl rfl ?_
        refine q_goto (pc' := 31) dX12_hopeless_64 (by decide) ?_
        exact q_pick [2, 1, 0] rfl (ih t3383 (x2 + 1) _ _ h hE)
      · skip
        obtain ⟨c3382, h⟩ := qk_some h
        refine q_icmp_ne (tgt := 59) dX12_hopeless_48 (by decide) rfl (qRb_R c3382) ⟨by decide, by decide⟩ (fun g => ?_) (fun g => ?_)
        · rw [if_neg (show ¬ (q3380.1 = (-1)) from g)] at h
          refine q_iload_n dX12_hopeless_59 rfl rfl ?_
          cases h
          exact q_pick [0, 2] rfl hk4256
        · rw [if_pos (show q3380.1 = (-1) from g)] at h
          refine q_iload_n dX12_hopeless_51 rfl rfl ?_
          refine q_iconst dX12_hopeless_52 rfl rfl ?_
          refine q_iload_n dX12_hopeless_53 rfl rfl ?_
          refine q_ishl dX12_hopeless_54 rfl ?_
          refine q_ior dX12_hopeless_55 rfl ?_
          refine q_goto (pc' := 60) dX12_hopeless_56 (by decide) ?_
          cases h
          exact q_pick [0, 2] rfl hk4256
set_option maxRecDepth 20000 in
theorem M_hopeless_ok {X : qX} (hL : ∀ c, c < 93 → c ∈ qLs X) (d : Nat) (S : qSto) (o : (Int × qSto)) (h : M_hopeless S = some o) (Q : Option qV → qSto → Prop) (hQ : Q (some (qi o.1)) o.2) : qC X (d + 8) yX12_hopeless cX12_hopeless 3 (some .int) [qr 70] S Q := by
  refine q_entry (lv := [(0, qr 70)]) pn_X12 (Nat.le_of_ble_eq_true rfl) rfl ?_
  unfold M_hopeless at h
  refine q_aload_n dX12_hopeless_0 rfl rfl ?_
  refine q_bipush dX12_hopeless_1 (by decide) rfl ?_
  obtain ⟨q3372, h3373, h⟩ := Option.bind_eq_some_iff.mp h
  refine q_callVv (as := [qi 16]) (c := 70) dX12_hopeless_3 ml_X12_414 rfl rfl (hL 70 (by decide)) sh_70 rfl rfl (Nat.le_of_ble_eq_true rfl) (M_puts_ok hL (d + 7) 16 _ _ h3373) rfl ?_
  refine q_iconst dX12_hopeless_6 rfl rfl ?_
  refine q_istore_n (lv' := [(1, qi 0), (0, qr 70)]) dX12_hopeless_7 (by decide) rfl rfl ?_
  obtain ⟨q3376, h3377, h⟩ := Option.bind_eq_some_iff.mp h
  refine q_pick [1, 0] rfl (M_hopeless_L8_ok hL d qF 0 _ _ h3377 ?_)
  refine q_iconst dX12_hopeless_27 rfl rfl ?_
  refine q_istore_n (lv' := [(1, qi 0), (0, qr 70)]) dX12_hopeless_28 (by decide) rfl rfl ?_
  refine q_iconst dX12_hopeless_29 rfl rfl ?_
  refine q_istore_n (lv' := [(2, qi 0), (1, qi 0), (0, qr 70)]) dX12_hopeless_30 (by decide) rfl rfl ?_
  obtain ⟨q3384, h3385, h⟩ := Option.bind_eq_some_iff.mp h
  refine q_pick [2, 1, 0] rfl (M_hopeless_L31_ok hL d qF 0 0 _ _ h3385 ?_)
  refine q_aload_n dX12_hopeless_67 rfl rfl ?_
  refine q_bipush dX12_hopeless_68 (by decide) rfl ?_
  obtain ⟨q3386, h3387, h⟩ := Option.bind_eq_some_iff.mp h
  refine q_callVv (as := [qi 16]) (c := 70) dX12_hopeless_70 ml_X12_426 rfl rfl (hL 70 (by decide)) sh_70 rfl rfl (Nat.le_of_ble_eq_true rfl) (M_takes_ok hL (d + 3) 16 _ _ h3387) rfl ?_
  refine q_iload_n dX12_hopeless_73 rfl rfl ?_
  cases h
  exact q_ireturn dX12_hopeless_74 rfl hQ
set_option maxRecDepth 20000 in
theorem M_slack_L25_ok {X : qX} (hL : ∀ c, c < 93 → c ∈ qLs X) (d : Nat) {Q : Option qV → qSto → Prop} : ∀ (n : Nat) (x1 : Int) (x2 : Int) (S : qSto) (o : (qSto ⊕ (Int × qSto))), M_slack_L25 n x1 x2 S = some o → (∀ t, o = Sum.inl t → qW X (d + 7) yX12_slack cX12_slack 3 (some .int) 73 [] [] t Q) → (∀ w, o = Sum.inr w → Q (some (qi w.1)) w.2) → qW X (d + 7) yX12_slack cX12_slack 3 (some .int) 25 [(0, qr 70), (1, qi x1), (2, qi x2)] [] S Q := by
  intro n
  induction n with
  | zero =>
    intro x1 x2 S o h
    simp [M_slack_L25] at h
  | succ n ih =>
    intro x1 x2 S o h hE hR
    rw [M_slack_L25] at h
    refine q_iload_n dX12_slack_25 rfl rfl ?_
    refine q_aload_n dX12_slack_26 rfl rfl ?_
    refine q_getA dX12_slack_27 fl_X12_39 (hL 70 (by decide)) sh_70 (by decide) rfl rfl ?_
    refine q_iload_n dX12_slack_30 rfl rfl ?_
    obtain ⟨c3394, h⟩ := qk_some h
    refine q_iaload dX12_slack_31 (hL 79 (by decide)) sh_79 (qIx_0 c3394) (qIx_1 c3394) rfl ?_
    obtain ⟨c3395, h⟩ := qk_some h
    obtain ⟨c3396, h⟩ := qk_some h
    refine q_icmp_le (tgt := 73) dX12_slack_32 (by decide) rfl (qRb_R c3395) (qRb_R c3396) (fun g => ?_) (fun g => ?_)
    · rw [if_pos (show x2 ≤ (S 79 (Int.toNat x1)) from g)] at h
      cases h
      exact q_pick [] rfl (hE _ rfl)
    · rw [if_neg (show ¬ (x2 ≤ (S 79 (Int.toNat x1))) from g)] at h
      refine q_aload_n dX12_slack_35 rfl rfl ?_
      refine q_iload_n dX12_slack_36 rfl rfl ?_
      refine q_aload_n dX12_slack_37 rfl rfl ?_
      refine q_getA dX12_slack_38 fl_X12_36 (hL 70 (by decide)) sh_70 (by decide) rfl rfl ?_
      refine q_iload_n dX12_slack_41 rfl rfl ?_
      obtain ⟨c3397, h⟩ := qk_some h
      refine q_iaload dX12_slack_42 (hL 78 (by decide)) sh_78 (qIx_0 c3397) (qIx_1 c3397) rfl ?_
      obtain ⟨c3398, h⟩ := qk_some h
      refine q_i2l dX12_slack_43 (qRb_R c3398) rfl ?_
      refine q_iload_n dX12_slack_44 rfl rfl ?_
      obtain ⟨c3399, h⟩ := qk_some h
      refine q_i2l dX12_slack_45 (qRb_R c3399) rfl ?_
      refine q_aload_n dX12_slack_46 rfl rfl ?_
      refine q_getA dX12_slack_47 fl_X12_42 (hL 70 (by decide)) sh_70 (by decide) rfl rfl ?_
      refine q_iload_n dX12_slack_50 rfl rfl ?_
      obtain ⟨c3400, h⟩ := qk_some h
      refine q_iaload dX12_slack_51 (hL 80 (by decide)) sh_80 (qIx_0 c3400) (qIx_1 c3400) rfl ?_
      obtain ⟨q3401, h3402, h⟩ := Option.bind_eq_some_iff.mp h
      refine q_callVi (as := [qi x1, ql (S 78 (Int.toNat x1)), ql x2, qi (S 80 (Int.toNat x1))]) (c := 70) dX12_slack_52 ml_X12_390 rfl rfl (hL 70 (by decide)) sh_70 rfl rfl (Nat.le_of_ble_eq_true rfl) (M_lawOf_ok hL d x1 (S 78 (Int.toNat x1)) x2 (S 80 (Int.toNat x1)) _ _ h3402) rfl ?_
      obtain ⟨c3403, h⟩ := qk_some h
      refine q_if_ne (tgt := 67) dX12_slack_55 (by decide) rfl (qRb_R c3403)  (fun g => ?_) (fun g => ?_)
      · rw [if_neg (show ¬ (q3401.1 = 0) from g)] at h
        refine q_iinc (lv' := [(2, qi (x2 + (-1))), (0, qr 70), (1, qi x1)]) dX12_slack_67 (by decide) rfl rfl rfl ?_
        refine q_goto (pc' := 25) dX12_slack_70 (by decide) ?_
        exact q_pick [1, 2, 0] rfl (ih x1 (x2 + (-1)) _ _ h hE hR)
      · rw [if_pos (show q3401.1 = 0 from g)] at h
        refine q_iload_n dX12_slack_58 rfl rfl ?_
        refine q_aload_n dX12_slack_59 rfl rfl ?_
        refine q_getA dX12_slack_60 fl_X12_39 (hL 70 (by decide)) sh_70 (by decide) rfl rfl ?_
        refine q_iload_n dX12_slack_63 rfl rfl ?_
        obtain ⟨c3404, h⟩ := qk_some h
        refine q_iaload dX12_slack_64 (hL 79 (by decide)) sh_79 (qIx_0 c3404) (qIx_1 c3404) rfl ?_
        refine q_isub dX12_slack_65 rfl ?_
        cases h
        exact q_ireturn dX12_slack_66 rfl (hR _ rfl)
set_option maxRecDepth 20000 in
theorem M_slack_ok {X : qX} (hL : ∀ c, c < 93 → c ∈ qLs X) (d : Nat) (a1 : Int) (S : qSto) (o : (Int × qSto)) (h : M_slack a1 S = some o) (Q : Option qV → qSto → Prop) (hQ : Q (some (qi o.1)) o.2) : qC X (d + 7) yX12_slack cX12_slack 3 (some .int) [qr 70, qi a1] S Q := by
  refine q_entry (lv := [(0, qr 70), (1, qi a1)]) pn_X12 (Nat.le_of_ble_eq_true rfl) rfl ?_
  unfold M_slack at h
  refine q_aload_n dX12_slack_0 rfl rfl ?_
  refine q_iload_n dX12_slack_1 rfl rfl ?_
  obtain ⟨q3388, h3389, h⟩ := Option.bind_eq_some_iff.mp h
  refine q_callVi (as := [qi a1]) (c := 70) dX12_slack_2 ml_X12_297 rfl rfl (hL 70 (by decide)) sh_70 rfl rfl (Nat.le_of_ble_eq_true rfl) (M_isShip_ok hL (d + 5) a1 _ _ h3389) rfl ?_
  obtain ⟨c3390, h⟩ := qk_some h
  refine q_if_ne (tgt := 10) dX12_slack_5 (by decide) rfl (qRb_R c3390)  (fun g => ?_) (fun g => ?_)
  · rw [if_neg (show ¬ (q3388.1 = 0) from g)] at h
    refine q_aload_n dX12_slack_10 rfl rfl ?_
    refine q_iload_n dX12_slack_11 rfl rfl ?_
    obtain ⟨q3391, h3392, h⟩ := Option.bind_eq_some_iff.mp h
    refine q_callVi (as := [qi a1]) (c := 70) dX12_slack_12 ml_X12_326 rfl rfl (hL 70 (by decide)) sh_70 rfl rfl (Nat.le_of_ble_eq_true rfl) (M_stays_ok hL (d + 6) a1 _ _ h3392) rfl ?_
    obtain ⟨c3393, h⟩ := qk_some h
    refine q_if_ne (tgt := 21) dX12_slack_15 (by decide) rfl (qRb_R c3393)  (fun g => ?_) (fun g => ?_)
    · rw [if_neg (show ¬ (q3391.1 = 0) from g)] at h
      refine q_sipush dX12_slack_21 (by decide) rfl ?_
      refine q_istore_n (lv' := [(2, qi 335), (0, qr 70), (1, qi a1)]) dX12_slack_24 (by decide) rfl rfl ?_
      obtain ⟨q3405, h3406, h⟩ := Option.bind_eq_some_iff.mp h
      refine q_pick [1, 2, 0] rfl (M_slack_L25_ok hL d qF a1 335 _ _ h3406 (fun t3407 e4257 => ?_) (fun w e4257 => ?_))
      · subst e4257
        simp only [Sum.elim_inl] at h
        refine q_iconst dX12_slack_73 rfl rfl ?_
        cases h
        exact q_ireturn dX12_slack_74 rfl hQ
      · subst e4257
        simp only [Sum.elim_inr] at h
        cases h
        exact hQ
    · rw [if_pos (show q3391.1 = 0 from g)] at h
      refine q_bipush dX12_slack_18 (by decide) rfl ?_
      cases h
      exact q_ireturn dX12_slack_20 rfl hQ
  · rw [if_pos (show q3388.1 = 0 from g)] at h
    refine q_iconst dX12_slack_8 rfl rfl ?_
    cases h
    exact q_ireturn dX12_slack_9 rfl hQ
set_option maxRecDepth 20000 in
theorem M_along_L49_ok {X : qX} (hL : ∀ c, c < 93 → c ∈ qLs X) (d : Nat) {Q : Option qV → qSto → Prop} : ∀ (n : Nat) (x1 : Int) (x3 : Int) (x4 : Int) (S : qSto) (o : (Int × qSto)), M_along_L49 n x1 x3 x4 S = some o → (qW X (d + 7) yX12_along cX12_along 5 (some .int) 84 [(4, qi o.1)] [] o.2 Q) → qW X (d + 7) yX12_along cX12_along 5 (some .int) 49 [(0, qr 70), (1, qi x1), (3, qi x3), (4, qi x4)] [] S Q := by
  intro n
  induction n with
  | zero =>
    intro x1 x3 x4 S o h
    simp [M_along_L49] at h
  | succ n ih =>
    intro x1 x3 x4 S o h hE
    rw [M_along_L49] at h
    refine q_aload_n dX12_along_49 rfl rfl ?_
    refine q_iload_n dX12_along_50 rfl rfl ?_
    refine q_iload dX12_along_51 rfl rfl ?_
    refine q_iload_n dX12_along_53 rfl rfl ?_
    refine q_iadd dX12_along_54 rfl ?_
    obtain ⟨c3421, h⟩ := qk_some h
    refine q_i2l dX12_along_55 (qRb_R c3421) rfl ?_
    refine q_aload_n dX12_along_56 rfl rfl ?_
    refine q_getA dX12_along_57 fl_X12_39 (hL 70 (by decide)) sh_70 (by decide) rfl rfl ?_
    refine q_iload_n dX12_along_60 rfl rfl ?_
    obtain ⟨c3422, h⟩ := qk_some h
    refine q_iaload dX12_along_61 (hL 79 (by decide)) sh_79 (qIx_0 c3422) (qIx_1 c3422) rfl ?_
    obtain ⟨c3423, h⟩ := qk_some h
    refine q_i2l dX12_along_62 (qRb_R c3423) rfl ?_
    refine q_aload_n dX12_along_63 rfl rfl ?_
    refine q_getA dX12_along_64 fl_X12_42 (hL 70 (by decide)) sh_70 (by decide) rfl rfl ?_
    refine q_iload_n dX12_along_67 rfl rfl ?_
    obtain ⟨c3424, h⟩ := qk_some h
    refine q_iaload dX12_along_68 (hL 80 (by decide)) sh_80 (qIx_0 c3424) (qIx_1 c3424) rfl ?_
    obtain ⟨q3425, h3426, h⟩ := Option.bind_eq_some_iff.mp h
    refine q_callVi (as := [qi x1, ql (x4 + x3), ql (S 79 (Int.toNat x1)), qi (S 80 (Int.toNat x1))]) (c := 70) dX12_along_69 ml_X12_390 rfl rfl (hL 70 (by decide)) sh_70 rfl rfl (Nat.le_of_ble_eq_true rfl) (M_lawOf_ok hL d x1 (x4 + x3) (S 79 (Int.toNat x1)) (S 80 (Int.toNat x1)) _ _ h3426) rfl ?_
    obtain ⟨c3427, h⟩ := qk_some h
    refine q_if_ne (tgt := 84) dX12_along_72 (by decide) rfl (qRb_R c3427)  (fun g => ?_) (fun g => ?_)
    · rw [if_neg (show ¬ (q3425.1 = 0) from g)] at h
      cases h
      exact q_pick [3] rfl (hE)
    · rw [if_pos (show q3425.1 = 0 from g)] at h
      refine q_iload dX12_along_75 rfl rfl ?_
      refine q_iload_n dX12_along_77 rfl rfl ?_
      refine q_iadd dX12_along_78 rfl ?_
      refine q_istore (lv' := [(4, qi (x4 + x3)), (0, qr 70), (1, qi x1), (3, qi x3)]) dX12_along_79 (by decide) rfl rfl ?_
      refine q_goto (pc' := 49) dX12_along_81 (by decide) ?_
      exact q_pick [1, 2, 3, 0] rfl (ih x1 x3 (x4 + x3) _ _ h hE)
set_option maxRecDepth 20000 in
theorem M_along_ok {X : qX} (hL : ∀ c, c < 93 → c ∈ qLs X) (d : Nat) (a1 : Int) (a2 : Int) (S : qSto) (o : (Int × qSto)) (h : M_along a1 a2 S = some o) (Q : Option qV → qSto → Prop) (hQ : Q (some (qi o.1)) o.2) : qC X (d + 7) yX12_along cX12_along 5 (some .int) [qr 70, qi a1, qi a2] S Q := by
  refine q_entry (lv := [(0, qr 70), (1, qi a1), (2, qi a2)]) pn_X12 (Nat.le_of_ble_eq_true rfl) rfl ?_
  unfold M_along at h
  refine q_aload_n dX12_along_0 rfl rfl ?_
  refine q_iload_n dX12_along_1 rfl rfl ?_
  obtain ⟨q3408, h3409, h⟩ := Option.bind_eq_some_iff.mp h
  refine q_callVi (as := [qi a1]) (c := 70) dX12_along_2 ml_X12_297 rfl rfl (hL 70 (by decide)) sh_70 rfl rfl (Nat.le_of_ble_eq_true rfl) (M_isShip_ok hL (d + 5) a1 _ _ h3409) rfl ?_
  obtain ⟨c3410, h⟩ := qk_some h
  refine q_if_eq (tgt := 18) dX12_along_5 (by decide) rfl (qRb_R c3410)  (fun g => ?_) (fun g => ?_)
  · rw [if_pos (show q3408.1 = 0 from g)] at h
    refine q_iconst dX12_along_18 rfl rfl ?_
    cases h
    exact q_ireturn dX12_along_19 rfl hQ
  · rw [if_neg (show ¬ (q3408.1 = 0) from g)] at h
    refine q_iload_n dX12_along_8 rfl rfl ?_
    obtain ⟨c3411, h⟩ := qk_some h
    refine q_i2l dX12_along_9 (qRb_R c3411) rfl ?_
    refine q_lconst (v := 0) dX12_along_10 rfl rfl ?_
    refine q_lconst (v := 1) dX12_along_11 rfl rfl ?_
    obtain ⟨q3412, h3413, h⟩ := Option.bind_eq_some_iff.mp h
    refine q_callSi (as := [ql a2, ql 0, ql 1]) dX12_along_12 ml_X12_99 rfl rfl (Nat.le_of_ble_eq_true rfl) (M_in_ok hL (d + 6) a2 0 1 _ _ h3413) rfl ?_
    obtain ⟨c3414, h⟩ := qk_some h
    refine q_if_ne (tgt := 20) dX12_along_15 (by decide) rfl (qRb_R c3414)  (fun g => ?_) (fun g => ?_)
    · rw [if_neg (show ¬ (q3412.1 = 0) from g)] at h
      refine q_aload_n dX12_along_20 rfl rfl ?_
      refine q_iload_n dX12_along_21 rfl rfl ?_
      obtain ⟨q3415, h3416, h⟩ := Option.bind_eq_some_iff.mp h
      refine q_callVi (as := [qi a1]) (c := 70) dX12_along_22 ml_X12_326 rfl rfl (hL 70 (by decide)) sh_70 rfl rfl (Nat.le_of_ble_eq_true rfl) (M_stays_ok hL (d + 6) a1 _ _ h3416) rfl ?_
      obtain ⟨c3417, h⟩ := qk_some h
      refine q_if_ne (tgt := 31) dX12_along_25 (by decide) rfl (qRb_R c3417)  (fun g => ?_) (fun g => ?_)
      · rw [if_neg (show ¬ (q3415.1 = 0) from g)] at h
        refine q_iload_n dX12_along_31 rfl rfl ?_
        refine q_jn (G := fun (t3419 : Int) => qW X (d + 7) yX12_along cX12_along 5 (some .int) 40 [(0, qr 70), (1, qi a1)] [qi t3419] q3415.2 Q) h (fun t3419 h => ?_) (fun t3419 h hk4258 => ?_)
        · try dsimp only at h
          refine q_istore_n (lv' := [(3, qi t3419), (0, qr 70), (1, qi a1)]) dX12_along_40 (by decide) rfl rfl ?_
          refine q_aload_n dX12_along_41 rfl rfl ?_
          refine q_getA dX12_along_42 fl_X12_36 (hL 70 (by decide)) sh_70 (by decide) rfl rfl ?_
          refine q_iload_n dX12_along_45 rfl rfl ?_
          obtain ⟨c3420, h⟩ := qk_some h
          refine q_iaload dX12_along_46 (hL 78 (by decide)) sh_78 (qIx_0 c3420) (qIx_1 c3420) rfl ?_
          refine q_istore (lv' := [(4, qi (q3415.2 78 (Int.toNat a1))), (3, qi t3419), (0, qr 70), (1, qi a1)]) dX12_along_47 (by decide) rfl rfl ?_
          obtain ⟨q3428, h3429, h⟩ := Option.bind_eq_some_iff.mp h
          refine q_pick [2, 3, 1, 0] rfl (M_along_L49_ok hL d qF a1 t3419 (q3415.2 78 (Int.toNat a1)) _ _ h3429 ?_)
          refine q_iload dX12_along_84 rfl rfl ?_
          cases h
          exact q_ireturn dX12_along_86 rfl hQ
        · skip
          obtain ⟨c3418, h⟩ := qk_some h
          refine q_if_ne (tgt := 39) dX12_along_32 (by decide) rfl (qRb_R c3418)  (fun g => ?_) (fun g => ?_)
          · rw [if_neg (show ¬ (a2 = 0) from g)] at h
            refine q_iconst dX12_along_39 rfl rfl ?_
            cases h
            exact q_pick [0, 1] rfl hk4258
          · rw [if_pos (show a2 = 0 from g)] at h
            refine q_iconst dX12_along_35 rfl rfl ?_
            refine q_goto (pc' := 40) dX12_along_36 (by decide) ?_
            cases h
            exact q_pick [0, 1] rfl hk4258
      · rw [if_pos (show q3415.1 = 0 from g)] at h
        refine q_bipush dX12_along_28 (by decide) rfl ?_
        cases h
        exact q_ireturn dX12_along_30 rfl hQ
    · rw [if_pos (show q3412.1 = 0 from g)] at h
      refine q_iconst dX12_along_18 rfl rfl ?_
      cases h
      exact q_ireturn dX12_along_19 rfl hQ
set_option maxRecDepth 20000 in
theorem M_first_ok {X : qX} (hL : ∀ c, c < 93 → c ∈ qLs X) (d : Nat) (a0 : Int) (a1 : Int) (a2 : Int) (S : qSto) (o : (Int × qSto)) (h : M_first a0 a1 a2 S = some o) (Q : Option qV → qSto → Prop) (hQ : Q (some (qi o.1)) o.2) : qC X d yX12_first cX12_first 3 (some .int) [qi a0, qi a1, qi a2] S Q := by
  refine q_entry (lv := [(0, qi a0), (1, qi a1), (2, qi a2)]) pn_X12 (Nat.le_of_ble_eq_true rfl) rfl ?_
  unfold M_first at h
  refine q_iload_n dX12_first_0 rfl rfl ?_
  obtain ⟨c3450, h⟩ := qk_some h
  refine q_if_eq (tgt := 8) dX12_first_1 (by decide) rfl (qRb_R c3450)  (fun g => ?_) (fun g => ?_)
  · rw [if_pos (show a0 = 0 from g)] at h
    refine q_iload_n dX12_first_8 rfl rfl ?_
    obtain ⟨c3451, h⟩ := qk_some h
    refine q_if_eq (tgt := 16) dX12_first_9 (by decide) rfl (qRb_R c3451)  (fun g => ?_) (fun g => ?_)
    · rw [if_pos (show a1 = 0 from g)] at h
      refine q_iload_n dX12_first_16 rfl rfl ?_
      cases h
      exact q_ireturn dX12_first_17 rfl hQ
    · rw [if_neg (show ¬ (a1 = 0) from g)] at h
      refine q_iload_n dX12_first_12 rfl rfl ?_
      refine q_goto (pc' := 17) dX12_first_13 (by decide) ?_
      cases h
      exact q_ireturn dX12_first_17 rfl hQ
  · rw [if_neg (show ¬ (a0 = 0) from g)] at h
    refine q_iload_n dX12_first_4 rfl rfl ?_
    refine q_goto (pc' := 17) dX12_first_5 (by decide) ?_
    cases h
    exact q_ireturn dX12_first_17 rfl hQ
set_option maxRecDepth 20000 in
theorem M_compares_ok {X : qX} (hL : ∀ c, c < 93 → c ∈ qLs X) (d : Nat) (a1 : Int) (a2 : Int) (a3 : Int) (S : qSto) (o : (Int × qSto)) (h : M_compares a1 a2 a3 S = some o) (Q : Option qV → qSto → Prop) (hQ : Q (some (qi o.1)) o.2) : qC X (d + 1) yX12_compares cX12_compares 6 (some .int) [qr 70, qi a1, qi a2, qi a3] S Q := by
  refine q_entry (lv := [(0, qr 70), (1, qi a1), (2, qi a2), (3, qi a3)]) pn_X12 (Nat.le_of_ble_eq_true rfl) rfl ?_
  unfold M_compares at h
  refine q_aload_n dX12_compares_0 rfl rfl ?_
  refine q_iload_n dX12_compares_1 rfl rfl ?_
  refine q_bipush dX12_compares_2 (by decide) rfl ?_
  obtain ⟨q3441, h3442, h⟩ := Option.bind_eq_some_iff.mp h
  refine q_callVi (as := [qi a2, qi 6]) (c := 70) dX12_compares_4 ml_X12_316 rfl rfl (hL 70 (by decide)) sh_70 rfl rfl (Nat.le_of_ble_eq_true rfl) (M_of_ok hL d a2 6 _ _ h3442) rfl ?_
  refine q_aload_n dX12_compares_7 rfl rfl ?_
  refine q_iload_n dX12_compares_8 rfl rfl ?_
  refine q_bipush dX12_compares_9 (by decide) rfl ?_
  obtain ⟨q3443, h3444, h⟩ := Option.bind_eq_some_iff.mp h
  refine q_callVi (as := [qi a3, qi 6]) (c := 70) dX12_compares_11 ml_X12_316 rfl rfl (hL 70 (by decide)) sh_70 rfl rfl (Nat.le_of_ble_eq_true rfl) (M_of_ok hL d a3 6 _ _ h3444) rfl ?_
  refine q_isub dX12_compares_14 rfl ?_
  refine q_istore (lv' := [(4, qi (q3441.1 - q3443.1)), (0, qr 70), (1, qi a1), (2, qi a2), (3, qi a3)]) dX12_compares_15 (by decide) rfl rfl ?_
  refine q_aload_n dX12_compares_17 rfl rfl ?_
  refine q_iload_n dX12_compares_18 rfl rfl ?_
  refine q_iconst dX12_compares_19 rfl rfl ?_
  obtain ⟨q3445, h3446, h⟩ := Option.bind_eq_some_iff.mp h
  refine q_callVi (as := [qi a2, qi 4]) (c := 70) dX12_compares_20 ml_X12_316 rfl rfl (hL 70 (by decide)) sh_70 rfl rfl (Nat.le_of_ble_eq_true rfl) (M_of_ok hL d a2 4 _ _ h3446) rfl ?_
  refine q_aload_n dX12_compares_23 rfl rfl ?_
  refine q_iload_n dX12_compares_24 rfl rfl ?_
  refine q_iconst dX12_compares_25 rfl rfl ?_
  obtain ⟨q3447, h3448, h⟩ := Option.bind_eq_some_iff.mp h
  refine q_callVi (as := [qi a3, qi 4]) (c := 70) dX12_compares_26 ml_X12_316 rfl rfl (hL 70 (by decide)) sh_70 rfl rfl (Nat.le_of_ble_eq_true rfl) (M_of_ok hL d a3 4 _ _ h3448) rfl ?_
  refine q_isub dX12_compares_29 rfl ?_
  refine q_istore (lv' := [(5, qi (q3445.1 - q3447.1)), (4, qi (q3441.1 - q3443.1)), (0, qr 70), (1, qi a1), (2, qi a2), (3, qi a3)]) dX12_compares_30 (by decide) rfl rfl ?_
  refine q_iload_n dX12_compares_32 rfl rfl ?_
  obtain ⟨c3449, h⟩ := qk_some h
  by_cases e4259 : a1 = 0
  · rw [if_pos e4259] at h
    refine q_tsw (tgt := 103) dX12_compares_33 (qRb_R c3449) (by decide) (fun g => absurd g (by rw [e4259]; decide)) (fun _ _ => ⟨27, 60, by rw [e4259]; rfl, by decide, ?_⟩)
    refine q_iload dX12_compares_60 rfl rfl ?_
    refine q_iload dX12_compares_62 rfl rfl ?_
    refine q_iload_n dX12_compares_64 rfl rfl ?_
    refine q_iload_n dX12_compares_65 rfl rfl ?_
    refine q_isub dX12_compares_66 rfl ?_
    obtain ⟨q3452, h3453, h⟩ := Option.bind_eq_some_iff.mp h
    refine q_callSi (as := [qi (q3441.1 - q3443.1), qi (q3445.1 - q3447.1), qi (a2 - a3)]) dX12_compares_67 ml_X12_435 rfl rfl (Nat.le_of_ble_eq_true rfl) (M_first_ok hL d (q3441.1 - q3443.1) (q3445.1 - q3447.1) (a2 - a3) _ _ h3453) rfl ?_
    cases h
    exact q_ireturn dX12_compares_70 rfl hQ
  · rw [if_neg e4259] at h
    by_cases e4260 : a1 = 1
    · rw [if_pos e4260] at h
      refine q_tsw (tgt := 103) dX12_compares_33 (qRb_R c3449) (by decide) (fun g => absurd g (by rw [e4260]; decide)) (fun _ _ => ⟨38, 71, by rw [e4260]; rfl, by decide, ?_⟩)
      refine q_iload dX12_compares_71 rfl rfl ?_
      refine q_iload dX12_compares_73 rfl rfl ?_
      refine q_iload_n dX12_compares_75 rfl rfl ?_
      refine q_iload_n dX12_compares_76 rfl rfl ?_
      refine q_isub dX12_compares_77 rfl ?_
      obtain ⟨q3454, h3455, h⟩ := Option.bind_eq_some_iff.mp h
      refine q_callSi (as := [qi (q3445.1 - q3447.1), qi (q3441.1 - q3443.1), qi (a2 - a3)]) dX12_compares_78 ml_X12_435 rfl rfl (Nat.le_of_ble_eq_true rfl) (M_first_ok hL d (q3445.1 - q3447.1) (q3441.1 - q3443.1) (a2 - a3) _ _ h3455) rfl ?_
      cases h
      exact q_ireturn dX12_compares_81 rfl hQ
    · rw [if_neg e4260] at h
      by_cases e4261 : a1 = 2
      · rw [if_pos e4261] at h
        refine q_tsw (tgt := 103) dX12_compares_33 (qRb_R c3449) (by decide) (fun g => absurd g (by rw [e4261]; decide)) (fun _ _ => ⟨49, 82, by rw [e4261]; rfl, by decide, ?_⟩)
        refine q_aload_n dX12_compares_82 rfl rfl ?_
        refine q_iload_n dX12_compares_83 rfl rfl ?_
        refine q_iconst dX12_compares_84 rfl rfl ?_
        obtain ⟨q3456, h3457, h⟩ := Option.bind_eq_some_iff.mp h
        refine q_callVi (as := [qi a2, qi 5]) (c := 70) dX12_compares_85 ml_X12_316 rfl rfl (hL 70 (by decide)) sh_70 rfl rfl (Nat.le_of_ble_eq_true rfl) (M_of_ok hL d a2 5 _ _ h3457) rfl ?_
        refine q_aload_n dX12_compares_88 rfl rfl ?_
        refine q_iload_n dX12_compares_89 rfl rfl ?_
        refine q_iconst dX12_compares_90 rfl rfl ?_
        obtain ⟨q3458, h3459, h⟩ := Option.bind_eq_some_iff.mp h
        refine q_callVi (as := [qi a3, qi 5]) (c := 70) dX12_compares_91 ml_X12_316 rfl rfl (hL 70 (by decide)) sh_70 rfl rfl (Nat.le_of_ble_eq_true rfl) (M_of_ok hL d a3 5 _ _ h3459) rfl ?_
        refine q_isub dX12_compares_94 rfl ?_
        refine q_iload_n dX12_compares_95 rfl rfl ?_
        refine q_iload_n dX12_compares_96 rfl rfl ?_
        refine q_isub dX12_compares_97 rfl ?_
        refine q_iconst dX12_compares_98 rfl rfl ?_
        obtain ⟨q3460, h3461, h⟩ := Option.bind_eq_some_iff.mp h
        refine q_callSi (as := [qi (q3456.1 - q3458.1), qi (a2 - a3), qi 0]) dX12_compares_99 ml_X12_435 rfl rfl (Nat.le_of_ble_eq_true rfl) (M_first_ok hL d (q3456.1 - q3458.1) (a2 - a3) 0 _ _ h3461) rfl ?_
        cases h
        exact q_ireturn dX12_compares_102 rfl hQ
      · rw [if_neg e4261] at h
        refine q_tsw (tgt := 103) dX12_compares_33 (qRb_R c3449) (by decide) (fun _ => ?_) (fun g1 g2 => absurd g1 (by omega))
        refine q_aload_n dX12_compares_103 rfl rfl ?_
        refine q_iload_n dX12_compares_104 rfl rfl ?_
        refine q_iconst dX12_compares_105 rfl rfl ?_
        obtain ⟨q3462, h3463, h⟩ := Option.bind_eq_some_iff.mp h
        refine q_callVi (as := [qi a3, qi 0]) (c := 70) dX12_compares_106 ml_X12_316 rfl rfl (hL 70 (by decide)) sh_70 rfl rfl (Nat.le_of_ble_eq_true rfl) (M_of_ok hL d a3 0 _ _ h3463) rfl ?_
        refine q_aload_n dX12_compares_109 rfl rfl ?_
        refine q_iload_n dX12_compares_110 rfl rfl ?_
        refine q_iconst dX12_compares_111 rfl rfl ?_
        obtain ⟨q3464, h3465, h⟩ := Option.bind_eq_some_iff.mp h
        refine q_callVi (as := [qi a2, qi 0]) (c := 70) dX12_compares_112 ml_X12_316 rfl rfl (hL 70 (by decide)) sh_70 rfl rfl (Nat.le_of_ble_eq_true rfl) (M_of_ok hL d a2 0 _ _ h3465) rfl ?_
        refine q_isub dX12_compares_115 rfl ?_
        refine q_iload_n dX12_compares_116 rfl rfl ?_
        refine q_iload_n dX12_compares_117 rfl rfl ?_
        refine q_isub dX12_compares_118 rfl ?_
        refine q_iconst dX12_compares_119 rfl rfl ?_
        obtain ⟨q3466, h3467, h⟩ := Option.bind_eq_some_iff.mp h
        refine q_callSi (as := [qi (q3462.1 - q3464.1), qi (a2 - a3), qi 0]) dX12_compares_120 ml_X12_435 rfl rfl (Nat.le_of_ble_eq_true rfl) (M_first_ok hL d (q3462.1 - q3464.1) (a2 - a3) 0 _ _ h3467) rfl ?_
        cases h
        exact q_ireturn dX12_compares_123 rfl hQ
set_option maxRecDepth 20000 in
theorem M_laysOrder_L15_ok {X : qX} (hL : ∀ c, c < 93 → c ∈ qLs X) (d : Nat) {Q : Option qV → qSto → Prop} : ∀ (n : Nat) (x1 : Int) (x2 : Int) (x3 : Int) (S : qSto) (o : (Int × qSto)), M_laysOrder_L15 n x1 x2 x3 S = some o → (qW X (d + 2) yX12_laysOrder cX12_laysOrder 4 none 57 [(0, qr 70), (1, qi x1), (2, qi x2), (3, qi o.1)] [] o.2 Q) → qW X (d + 2) yX12_laysOrder cX12_laysOrder 4 none 15 [(0, qr 70), (1, qi x1), (2, qi x2), (3, qi x3)] [] S Q := by
  intro n
  induction n with
  | zero =>
    intro x1 x2 x3 S o h
    simp [M_laysOrder_L15] at h
  | succ n ih =>
    intro x1 x2 x3 S o h hE
    rw [M_laysOrder_L15] at h
    refine q_iload_n dX12_laysOrder_15 rfl rfl ?_
    obtain ⟨c3439, h⟩ := qk_some h
    refine q_if_le (tgt := 57) dX12_laysOrder_16 (by decide) rfl (qRb_R c3439)  (fun g => ?_) (fun g => ?_)
    · rw [if_pos (show x3 ≤ 0 from g)] at h
      cases h
      exact q_pick [0, 1, 2, 3] rfl (hE)
    · rw [if_neg (show ¬ (x3 ≤ 0) from g)] at h
      refine q_aload_n dX12_laysOrder_19 rfl rfl ?_
      refine q_iload_n dX12_laysOrder_20 rfl rfl ?_
      refine q_iload_n dX12_laysOrder_21 rfl rfl ?_
      refine q_aload_n dX12_laysOrder_22 rfl rfl ?_
      refine q_getA dX12_laysOrder_23 fl_X12_67 (hL 70 (by decide)) sh_70 (by decide) rfl rfl ?_
      refine q_iload_n dX12_laysOrder_26 rfl rfl ?_
      refine q_iconst dX12_laysOrder_27 rfl rfl ?_
      refine q_isub dX12_laysOrder_28 rfl ?_
      obtain ⟨c3440, h⟩ := qk_some h
      refine q_iaload dX12_laysOrder_29 (hL 88 (by decide)) sh_88 (qIx_0 c3440) (qIx_1 c3440) rfl ?_
      obtain ⟨q3468, h3469, h⟩ := Option.bind_eq_some_iff.mp h
      refine q_callVi (as := [qi x1, qi x2, qi (S 88 (Int.toNat (x3 - 1)))]) (c := 70) dX12_laysOrder_30 ml_X12_438 rfl rfl (hL 70 (by decide)) sh_70 rfl rfl (Nat.le_of_ble_eq_true rfl) (M_compares_ok hL d x1 x2 (S 88 (Int.toNat (x3 - 1))) _ _ h3469) rfl ?_
      obtain ⟨c3470, h⟩ := qk_some h
      refine q_if_ge (tgt := 57) dX12_laysOrder_33 (by decide) rfl (qRb_R c3470)  (fun g => ?_) (fun g => ?_)
      · rw [if_pos (show 0 ≤ q3468.1 from g)] at h
        cases h
        exact q_pick [0, 1, 2, 3] rfl (hE)
      · rw [if_neg (show ¬ (0 ≤ q3468.1) from g)] at h
        refine q_aload_n dX12_laysOrder_36 rfl rfl ?_
        refine q_getA dX12_laysOrder_37 fl_X12_67 (hL 70 (by decide)) sh_70 (by decide) rfl rfl ?_
        refine q_iload_n dX12_laysOrder_40 rfl rfl ?_
        refine q_aload_n dX12_laysOrder_41 rfl rfl ?_
        refine q_getA dX12_laysOrder_42 fl_X12_67 (hL 70 (by decide)) sh_70 (by decide) rfl rfl ?_
        refine q_iload_n dX12_laysOrder_45 rfl rfl ?_
        refine q_iconst dX12_laysOrder_46 rfl rfl ?_
        refine q_isub dX12_laysOrder_47 rfl ?_
        obtain ⟨c3471, h⟩ := qk_some h
        refine q_iaload dX12_laysOrder_48 (hL 88 (by decide)) sh_88 (qIx_0 c3471) (qIx_1 c3471) rfl ?_
        obtain ⟨c3472, h⟩ := qk_some h
        refine q_iastore dX12_laysOrder_49 (hL 88 (by decide)) sh_88 (qIx_0 c3472) (qIx_1 c3472) rfl ?_
        refine q_iload_n dX12_laysOrder_50 rfl rfl ?_
        refine q_iconst dX12_laysOrder_51 rfl rfl ?_
        refine q_isub dX12_laysOrder_52 rfl ?_
        refine q_istore_n (lv' := [(3, qi (x3 - 1)), (0, qr 70), (1, qi x1), (2, qi x2)]) dX12_laysOrder_53 (by decide) rfl rfl ?_
        refine q_goto (pc' := 15) dX12_laysOrder_54 (by decide) ?_
        exact q_pick [1, 2, 3, 0] rfl (ih x1 x2 (x3 - 1) _ _ h hE)
set_option maxRecDepth 20000 in
theorem M_laysOrder_L2_ok {X : qX} (hL : ∀ c, c < 93 → c ∈ qLs X) (d : Nat) {Q : Option qV → qSto → Prop} : ∀ (n : Nat) (x1 : Int) (x2 : Int) (S : qSto) (o : qSto), M_laysOrder_L2 n x1 x2 S = some o → (qW X (d + 2) yX12_laysOrder cX12_laysOrder 4 none 70 [] [] o Q) → qW X (d + 2) yX12_laysOrder cX12_laysOrder 4 none 2 [(0, qr 70), (1, qi x1), (2, qi x2)] [] S Q := by
  intro n
  induction n with
  | zero =>
    intro x1 x2 S o h
    simp [M_laysOrder_L2] at h
  | succ n ih =>
    intro x1 x2 S o h hE
    rw [M_laysOrder_L2] at h
    refine q_iload_n dX12_laysOrder_2 rfl rfl ?_
    refine q_aload_n dX12_laysOrder_3 rfl rfl ?_
    refine q_getA dX12_laysOrder_4 fl_X12_13 (hL 70 (by decide)) sh_70 (by decide) rfl rfl ?_
    refine q_bipush dX12_laysOrder_7 (by decide) rfl ?_
    refine q_iaload dX12_laysOrder_9 (hL 72 (by decide)) sh_72 (by decide) (by decide) rfl ?_
    obtain ⟨c3437, h⟩ := qk_some h
    obtain ⟨c3438, h⟩ := qk_some h
    refine q_icmp_ge (tgt := 70) dX12_laysOrder_10 (by decide) rfl (qRb_R c3437) (qRb_R c3438) (fun g => ?_) (fun g => ?_)
    · rw [if_pos (show (S 72 9) ≤ x2 from g)] at h
      cases h
      exact q_pick [] rfl (hE)
    · rw [if_neg (show ¬ ((S 72 9) ≤ x2) from g)] at h
      refine q_iload_n dX12_laysOrder_13 rfl rfl ?_
      refine q_istore_n (lv' := [(3, qi x2), (0, qr 70), (1, qi x1), (2, qi x2)]) dX12_laysOrder_14 (by decide) rfl rfl ?_
      obtain ⟨q3473, h3474, h⟩ := Option.bind_eq_some_iff.mp h
      refine q_pick [1, 2, 3, 0] rfl (M_laysOrder_L15_ok hL d qF x1 x2 x2 _ _ h3474 ?_)
      refine q_aload_n dX12_laysOrder_57 rfl rfl ?_
      refine q_getA dX12_laysOrder_58 fl_X12_67 (hL 70 (by decide)) sh_70 (by decide) rfl rfl ?_
      refine q_iload_n dX12_laysOrder_61 rfl rfl ?_
      refine q_iload_n dX12_laysOrder_62 rfl rfl ?_
      obtain ⟨c3475, h⟩ := qk_some h
      refine q_iastore dX12_laysOrder_63 (hL 88 (by decide)) sh_88 (qIx_0 c3475) (qIx_1 c3475) rfl ?_
      refine q_iinc (lv' := [(2, qi (x2 + 1)), (0, qr 70), (1, qi x1), (3, qi q3473.1)]) dX12_laysOrder_64 (by decide) rfl rfl rfl ?_
      refine q_goto (pc' := 2) dX12_laysOrder_67 (by decide) ?_
      exact q_pick [1, 2, 0] rfl (ih x1 (x2 + 1) _ _ h hE)
set_option maxRecDepth 20000 in
theorem M_laysOrder_ok {X : qX} (hL : ∀ c, c < 93 → c ∈ qLs X) (d : Nat) (a1 : Int) (S : qSto) (o : qSto) (h : M_laysOrder a1 S = some o) (Q : Option qV → qSto → Prop) (hQ : Q none o) : qC X (d + 2) yX12_laysOrder cX12_laysOrder 4 none [qr 70, qi a1] S Q := by
  refine q_entry (lv := [(0, qr 70), (1, qi a1)]) pn_X12 (Nat.le_of_ble_eq_true rfl) rfl ?_
  unfold M_laysOrder at h
  refine q_iconst dX12_laysOrder_0 rfl rfl ?_
  refine q_istore_n (lv' := [(2, qi 0), (0, qr 70), (1, qi a1)]) dX12_laysOrder_1 (by decide) rfl rfl ?_
  obtain ⟨q3476, h3477, h⟩ := Option.bind_eq_some_iff.mp h
  refine q_pick [1, 2, 0] rfl (M_laysOrder_L2_ok hL d qF a1 0 _ _ h3477 ?_)
  cases h
  exact q_return dX12_laysOrder_70 rfl hQ
set_option maxRecDepth 20000 in
theorem M_order_ok {X : qX} (hL : ∀ c, c < 93 → c ∈ qLs X) (d : Nat) (a1 : Int) (a2 : Int) (S : qSto) (o : (Int × qSto)) (h : M_order a1 a2 S = some o) (Q : Option qV → qSto → Prop) (hQ : Q (some (qi o.1)) o.2) : qC X (d + 3) yX12_order cX12_order 3 (some .int) [qr 70, qi a1, qi a2] S Q := by
  refine q_entry (lv := [(0, qr 70), (1, qi a1), (2, qi a2)]) pn_X12 (Nat.le_of_ble_eq_true rfl) rfl ?_
  unfold M_order at h
  refine q_iload_n dX12_order_0 rfl rfl ?_
  obtain ⟨c3430, h⟩ := qk_some h
  refine q_i2l dX12_order_1 (qRb_R c3430) rfl ?_
  refine q_lconst (v := 0) dX12_order_2 rfl rfl ?_
  refine q_ldc2 (v := 3) dX12_order_3 qw_1729 rfl ?_
  obtain ⟨q3431, h3432, h⟩ := Option.bind_eq_some_iff.mp h
  refine q_callSi (as := [ql a1, ql 0, ql 3]) dX12_order_6 ml_X12_99 rfl rfl (Nat.le_of_ble_eq_true rfl) (M_in_ok hL (d + 2) a1 0 3 _ _ h3432) rfl ?_
  obtain ⟨c3433, h⟩ := qk_some h
  refine q_if_eq (tgt := 16) dX12_order_9 (by decide) rfl (qRb_R c3433)  (fun g => ?_) (fun g => ?_)
  · rw [if_pos (show q3431.1 = 0 from g)] at h
    refine q_iconst dX12_order_16 rfl rfl ?_
    cases h
    exact q_ireturn dX12_order_17 rfl hQ
  · rw [if_neg (show ¬ (q3431.1 = 0) from g)] at h
    refine q_iload_n dX12_order_12 rfl rfl ?_
    obtain ⟨c3434, h⟩ := qk_some h
    refine q_if_ge (tgt := 18) dX12_order_13 (by decide) rfl (qRb_R c3434)  (fun g => ?_) (fun g => ?_)
    · rw [if_pos (show 0 ≤ a2 from g)] at h
      refine q_iload_n dX12_order_18 rfl rfl ?_
      refine q_aload_n dX12_order_19 rfl rfl ?_
      refine q_getA dX12_order_20 fl_X12_13 (hL 70 (by decide)) sh_70 (by decide) rfl rfl ?_
      refine q_bipush dX12_order_23 (by decide) rfl ?_
      refine q_iaload dX12_order_25 (hL 72 (by decide)) sh_72 (by decide) (by decide) rfl ?_
      obtain ⟨c3435, h⟩ := qk_some h
      obtain ⟨c3436, h⟩ := qk_some h
      refine q_icmp_lt (tgt := 32) dX12_order_26 (by decide) rfl (qRb_R c3435) (qRb_R c3436) (fun g => ?_) (fun g => ?_)
      · rw [if_pos (show a2 < (q3431.2 72 9) from g)] at h
        refine q_aload_n dX12_order_32 rfl rfl ?_
        refine q_iload_n dX12_order_33 rfl rfl ?_
        obtain ⟨q3478, h3479, h⟩ := Option.bind_eq_some_iff.mp h
        refine q_callVv (as := [qi a1]) (c := 70) dX12_order_34 ml_X12_441 rfl rfl (hL 70 (by decide)) sh_70 rfl rfl (Nat.le_of_ble_eq_true rfl) (M_laysOrder_ok hL d a1 _ _ h3479) rfl ?_
        refine q_aload_n dX12_order_37 rfl rfl ?_
        refine q_getA dX12_order_38 fl_X12_67 (hL 70 (by decide)) sh_70 (by decide) rfl rfl ?_
        refine q_iload_n dX12_order_41 rfl rfl ?_
        obtain ⟨c3480, h⟩ := qk_some h
        refine q_iaload dX12_order_42 (hL 88 (by decide)) sh_88 (qIx_0 c3480) (qIx_1 c3480) rfl ?_
        cases h
        exact q_ireturn dX12_order_43 rfl hQ
      · rw [if_neg (show ¬ (a2 < (q3431.2 72 9)) from g)] at h
        refine q_bipush dX12_order_29 (by decide) rfl ?_
        cases h
        exact q_ireturn dX12_order_31 rfl hQ
    · rw [if_neg (show ¬ (0 ≤ a2) from g)] at h
      refine q_iconst dX12_order_16 rfl rfl ?_
      cases h
      exact q_ireturn dX12_order_17 rfl hQ
set_option maxRecDepth 20000 in
theorem M_all_L50_ok {X : qX} (hL : ∀ c, c < 93 → c ∈ qLs X) (d : Nat) {Q : Option qV → qSto → Prop} : ∀ (n : Nat) (x2 : Int) (x3 : Int) (S : qSto) (o : (Int × qSto)), M_all_L50 n x2 x3 S = some o → (qW X (d + 9) yX12_all cX12_all 4 (some .int) 104 [(2, qi o.1)] [] o.2 Q) → qW X (d + 9) yX12_all cX12_all 4 (some .int) 50 [(0, qr 70), (2, qi x2), (3, qi x3)] [] S Q := by
  intro n
  induction n with
  | zero =>
    intro x2 x3 S o h
    simp [M_all_L50] at h
  | succ n ih =>
    intro x2 x3 S o h hE
    rw [M_all_L50] at h
    refine q_iload_n dX12_all_50 rfl rfl ?_
    refine q_aload_n dX12_all_51 rfl rfl ?_
    refine q_getA dX12_all_52 fl_X12_13 (hL 70 (by decide)) sh_70 (by decide) rfl rfl ?_
    refine q_bipush dX12_all_55 (by decide) rfl ?_
    refine q_iaload dX12_all_57 (hL 72 (by decide)) sh_72 (by decide) (by decide) rfl ?_
    obtain ⟨c3495, h⟩ := qk_some h
    obtain ⟨c3496, h⟩ := qk_some h
    refine q_icmp_ge (tgt := 104) dX12_all_58 (by decide) rfl (qRb_R c3495) (qRb_R c3496) (fun g => ?_) (fun g => ?_)
    · rw [if_pos (show (S 72 9) ≤ x3 from g)] at h
      cases h
      exact q_pick [1] rfl (hE)
    · rw [if_neg (show ¬ ((S 72 9) ≤ x3) from g)] at h
      refine q_aload_n dX12_all_61 rfl rfl ?_
      refine q_aload_n dX12_all_62 rfl rfl ?_
      refine q_getA dX12_all_63 fl_X12_67 (hL 70 (by decide)) sh_70 (by decide) rfl rfl ?_
      refine q_iload_n dX12_all_66 rfl rfl ?_
      obtain ⟨c3497, h⟩ := qk_some h
      refine q_iaload dX12_all_67 (hL 88 (by decide)) sh_88 (qIx_0 c3497) (qIx_1 c3497) rfl ?_
      obtain ⟨q3498, h3499, h⟩ := Option.bind_eq_some_iff.mp h
      refine q_callVi (as := [qi (S 88 (Int.toNat x3))]) (c := 70) dX12_all_68 ml_X12_326 rfl rfl (hL 70 (by decide)) sh_70 rfl rfl (Nat.le_of_ble_eq_true rfl) (M_stays_ok hL (d + 8) (S 88 (Int.toNat x3)) _ _ h3499) rfl ?_
      refine q_jn (G := fun (t3506 : (Int × qSto)) => qW X (d + 9) yX12_all cX12_all 4 (some .int) 98 [(0, qr 70), (2, qi t3506.1), (3, qi x3)] [] t3506.2 Q) h (fun t3506 h => ?_) (fun t3506 h hk4262 => ?_)
      · try dsimp only at h
        refine q_iinc (lv' := [(3, qi (x3 + 1)), (0, qr 70), (2, qi t3506.1)]) dX12_all_98 (by decide) rfl rfl rfl ?_
        refine q_goto (pc' := 50) dX12_all_101 (by decide) ?_
        exact q_pick [1, 2, 0] rfl (ih t3506.1 (x3 + 1) _ _ h hE)
      · skip
        obtain ⟨c3500, h⟩ := qk_some h
        refine q_if_eq (tgt := 77) dX12_all_71 (by decide) rfl (qRb_R c3500)  (fun g => ?_) (fun g => ?_)
        · rw [if_pos (show q3498.1 = 0 from g)] at h
          refine q_aload_n dX12_all_77 rfl rfl ?_
          refine q_aload_n dX12_all_78 rfl rfl ?_
          refine q_getA dX12_all_79 fl_X12_67 (hL 70 (by decide)) sh_70 (by decide) rfl rfl ?_
          refine q_iload_n dX12_all_82 rfl rfl ?_
          obtain ⟨c3501, h⟩ := qk_some h
          refine q_iaload dX12_all_83 (hL 88 (by decide)) sh_88 (qIx_0 c3501) (qIx_1 c3501) rfl ?_
          obtain ⟨q3502, h3503, h⟩ := Option.bind_eq_some_iff.mp h
          refine q_callVi (as := [qi (q3498.2 88 (Int.toNat x3))]) (c := 70) dX12_all_84 ml_X12_420 rfl rfl (hL 70 (by decide)) sh_70 rfl rfl (Nat.le_of_ble_eq_true rfl) (M_laysItself_ok hL d (q3498.2 88 (Int.toNat x3)) _ _ h3503) rfl ?_
          refine q_jn (G := fun (t3505 : Int) => qW X (d + 9) yX12_all cX12_all 4 (some .int) 97 [(0, qr 70), (3, qi x3)] [qi t3505] q3502.2 Q) h (fun t3505 h => ?_) (fun t3505 h hk4263 => ?_)
          · try dsimp only at h
            refine q_istore_n (lv' := [(2, qi t3505), (0, qr 70), (3, qi x3)]) dX12_all_97 (by decide) rfl rfl ?_
            cases h
            exact q_pick [1, 0, 2] rfl hk4262
          · skip
            obtain ⟨c3504, h⟩ := qk_some h
            refine q_if_eq (tgt := 96) dX12_all_87 (by decide) rfl (qRb_R c3504)  (fun g => ?_) (fun g => ?_)
            · rw [if_pos (show q3502.1 = 0 from g)] at h
              refine q_iload_n dX12_all_96 rfl rfl ?_
              cases h
              exact q_pick [0, 2] rfl hk4263
            · rw [if_neg (show ¬ (q3502.1 = 0) from g)] at h
              refine q_iload_n dX12_all_90 rfl rfl ?_
              refine q_iconst dX12_all_91 rfl rfl ?_
              refine q_iadd dX12_all_92 rfl ?_
              refine q_goto (pc' := 97) dX12_all_93 (by decide) ?_
              cases h
              exact q_pick [0, 2] rfl hk4263
        · rw [if_neg (show ¬ (q3498.1 = 0) from g)] at h
          refine q_goto (pc' := 98) dX12_all_74 (by decide) ?_
          cases h
          exact q_pick [0, 1, 2] rfl hk4262
set_option maxRecDepth 20000 in
theorem M_all_ok {X : qX} (hL : ∀ c, c < 93 → c ∈ qLs X) (d : Nat) (a1 : Int) (S : qSto) (o : (Int × qSto)) (h : M_all a1 S = some o) (Q : Option qV → qSto → Prop) (hQ : Q (some (qi o.1)) o.2) : qC X (d + 9) yX12_all cX12_all 4 (some .int) [qr 70, qi a1] S Q := by
  refine q_entry (lv := [(0, qr 70), (1, qi a1)]) pn_X12 (Nat.le_of_ble_eq_true rfl) rfl ?_
  unfold M_all at h
  refine q_iload_n dX12_all_0 rfl rfl ?_
  obtain ⟨c3481, h⟩ := qk_some h
  refine q_i2l dX12_all_1 (qRb_R c3481) rfl ?_
  refine q_lconst (v := 0) dX12_all_2 rfl rfl ?_
  refine q_ldc2 (v := 3) dX12_all_3 qw_1729 rfl ?_
  obtain ⟨q3482, h3483, h⟩ := Option.bind_eq_some_iff.mp h
  refine q_callSi (as := [ql a1, ql 0, ql 3]) dX12_all_6 ml_X12_99 rfl rfl (Nat.le_of_ble_eq_true rfl) (M_in_ok hL (d + 8) a1 0 3 _ _ h3483) rfl ?_
  obtain ⟨c3484, h⟩ := qk_some h
  refine q_if_ne (tgt := 14) dX12_all_9 (by decide) rfl (qRb_R c3484)  (fun g => ?_) (fun g => ?_)
  · rw [if_neg (show ¬ (q3482.1 = 0) from g)] at h
    refine q_aload_n dX12_all_14 rfl rfl ?_
    obtain ⟨q3485, h3486, h⟩ := Option.bind_eq_some_iff.mp h
    refine q_callVi (as := []) (c := 70) dX12_all_15 ml_X12_263 rfl rfl (hL 70 (by decide)) sh_70 rfl rfl (Nat.le_of_ble_eq_true rfl) (M_staying_ok hL (d + 7) _ _ h3486) rfl ?_
    refine q_aload_n dX12_all_18 rfl rfl ?_
    refine q_getA dX12_all_19 fl_X12_13 (hL 70 (by decide)) sh_70 (by decide) rfl rfl ?_
    refine q_bipush dX12_all_22 (by decide) rfl ?_
    refine q_iaload dX12_all_24 (hL 72 (by decide)) sh_72 (by decide) (by decide) rfl ?_
    obtain ⟨c3487, h⟩ := qk_some h
    obtain ⟨c3488, h⟩ := qk_some h
    refine q_icmp_ne (tgt := 31) dX12_all_25 (by decide) rfl (qRb_R c3487) (qRb_R c3488) (fun g => ?_) (fun g => ?_)
    · rw [if_neg (show ¬ (q3485.1 = (q3485.2 72 9)) from g)] at h
      refine q_aload_n dX12_all_31 rfl rfl ?_
      refine q_bipush dX12_all_32 (by decide) rfl ?_
      obtain ⟨q3489, h3490, h⟩ := Option.bind_eq_some_iff.mp h
      refine q_callVv (as := [qi 16]) (c := 70) dX12_all_34 ml_X12_414 rfl rfl (hL 70 (by decide)) sh_70 rfl rfl (Nat.le_of_ble_eq_true rfl) (M_puts_ok hL (d + 8) 16 _ _ h3490) rfl ?_
      refine q_aload_n dX12_all_37 rfl rfl ?_
      obtain ⟨q3491, h3492, h⟩ := Option.bind_eq_some_iff.mp h
      refine q_callVv (as := []) (c := 70) dX12_all_38 ml_X12_417 rfl rfl (hL 70 (by decide)) sh_70 rfl rfl (Nat.le_of_ble_eq_true rfl) (M_keeps_ok hL (d + 7) _ _ h3492) rfl ?_
      refine q_aload_n dX12_all_41 rfl rfl ?_
      refine q_iload_n dX12_all_42 rfl rfl ?_
      obtain ⟨q3493, h3494, h⟩ := Option.bind_eq_some_iff.mp h
      refine q_callVv (as := [qi a1]) (c := 70) dX12_all_43 ml_X12_441 rfl rfl (hL 70 (by decide)) sh_70 rfl rfl (Nat.le_of_ble_eq_true rfl) (M_laysOrder_ok hL (d + 6) a1 _ _ h3494) rfl ?_
      refine q_iconst dX12_all_46 rfl rfl ?_
      refine q_istore_n (lv' := [(2, qi 0), (0, qr 70), (1, qi a1)]) dX12_all_47 (by decide) rfl rfl ?_
      refine q_iconst dX12_all_48 rfl rfl ?_
      refine q_istore_n (lv' := [(3, qi 0), (2, qi 0), (0, qr 70), (1, qi a1)]) dX12_all_49 (by decide) rfl rfl ?_
      obtain ⟨q3507, h3508, h⟩ := Option.bind_eq_some_iff.mp h
      refine q_pick [2, 1, 0] rfl (M_all_L50_ok hL d qF 0 0 _ _ h3508 ?_)
      refine q_iload_n dX12_all_104 rfl rfl ?_
      cases h
      exact q_ireturn dX12_all_105 rfl hQ
    · rw [if_pos (show q3485.1 = (q3485.2 72 9) from g)] at h
      refine q_bipush dX12_all_28 (by decide) rfl ?_
      cases h
      exact q_ireturn dX12_all_30 rfl hQ
  · rw [if_pos (show q3482.1 = 0 from g)] at h
    refine q_iconst dX12_all_12 rfl rfl ?_
    cases h
    exact q_ireturn dX12_all_13 rfl hQ
set_option maxRecDepth 20000 in
theorem M_findsFour_L7_ok {X : qX} (hL : ∀ c, c < 93 → c ∈ qLs X) (d : Nat) {Q : Option qV → qSto → Prop} : ∀ (n : Nat) (x1 : Int) (S : qSto) (o : qSto), M_findsFour_L7 n x1 S = some o → (qW X (d + 1) yX12_findsFour cX12_findsFour 2 none 63 [] [] o Q) → qW X (d + 1) yX12_findsFour cX12_findsFour 2 none 7 [(0, qr 70), (1, qi x1)] [] S Q := by
  intro n
  induction n with
  | zero =>
    intro x1 S o h
    simp [M_findsFour_L7] at h
  | succ n ih =>
    intro x1 S o h hE
    rw [M_findsFour_L7] at h
    refine q_iload_n dX12_findsFour_7 rfl rfl ?_
    refine q_aload_n dX12_findsFour_8 rfl rfl ?_
    refine q_getA dX12_findsFour_9 fl_X12_13 (hL 70 (by decide)) sh_70 (by decide) rfl rfl ?_
    refine q_bipush dX12_findsFour_12 (by decide) rfl ?_
    refine q_iaload dX12_findsFour_14 (hL 72 (by decide)) sh_72 (by decide) (by decide) rfl ?_
    obtain ⟨c3513, h⟩ := qk_some h
    obtain ⟨c3514, h⟩ := qk_some h
    refine q_icmp_ge (tgt := 63) dX12_findsFour_15 (by decide) rfl (qRb_R c3513) (qRb_R c3514) (fun g => ?_) (fun g => ?_)
    · rw [if_pos (show (S 72 9) ≤ x1 from g)] at h
      cases h
      exact q_pick [] rfl (hE)
    · rw [if_neg (show ¬ ((S 72 9) ≤ x1) from g)] at h
      refine q_aload_n dX12_findsFour_18 rfl rfl ?_
      refine q_getI dX12_findsFour_19 fl_X12_444 (hL 70 (by decide)) sh_70 (by decide) rfl rfl ?_
      refine q_iconst dX12_findsFour_22 rfl rfl ?_
      obtain ⟨c3515, h⟩ := qk_some h
      refine q_icmp_ge (tgt := 63) dX12_findsFour_23 (by decide) rfl (qRb_R c3515) ⟨by decide, by decide⟩ (fun g => ?_) (fun g => ?_)
      · rw [if_pos (show 4 ≤ (S 70 37) from g)] at h
        cases h
        exact q_pick [] rfl (hE)
      · rw [if_neg (show ¬ (4 ≤ (S 70 37)) from g)] at h
        refine q_aload_n dX12_findsFour_26 rfl rfl ?_
        refine q_iload_n dX12_findsFour_27 rfl rfl ?_
        obtain ⟨q3516, h3517, h⟩ := Option.bind_eq_some_iff.mp h
        refine q_callVi (as := [qi x1]) (c := 70) dX12_findsFour_28 ml_X12_326 rfl rfl (hL 70 (by decide)) sh_70 rfl rfl (Nat.le_of_ble_eq_true rfl) (M_stays_ok hL d x1 _ _ h3517) rfl ?_
        refine q_jn (G := fun (t3520 : qSto) => qW X (d + 1) yX12_findsFour cX12_findsFour 2 none 57 [(0, qr 70), (1, qi x1)] [] t3520 Q) h (fun t3520 h => ?_) (fun t3520 h hk4264 => ?_)
        · try dsimp only at h
          refine q_iinc (lv' := [(1, qi (x1 + 1)), (0, qr 70)]) dX12_findsFour_57 (by decide) rfl rfl rfl ?_
          refine q_goto (pc' := 7) dX12_findsFour_60 (by decide) ?_
          exact q_pick [1, 0] rfl (ih (x1 + 1) _ _ h hE)
        · skip
          obtain ⟨c3518, h⟩ := qk_some h
          refine q_if_eq (tgt := 37) dX12_findsFour_31 (by decide) rfl (qRb_R c3518)  (fun g => ?_) (fun g => ?_)
          · rw [if_pos (show q3516.1 = 0 from g)] at h
            refine q_aload_n dX12_findsFour_37 rfl rfl ?_
            refine q_getA dX12_findsFour_38 fl_X12_70 (hL 70 (by decide)) sh_70 (by decide) rfl rfl ?_
            refine q_aload_n dX12_findsFour_41 rfl rfl ?_
            refine q_getI dX12_findsFour_42 fl_X12_444 (hL 70 (by decide)) sh_70 (by decide) rfl rfl ?_
            refine q_iload_n dX12_findsFour_45 rfl rfl ?_
            obtain ⟨c3519, h⟩ := qk_some h
            refine q_iastore dX12_findsFour_46 (hL 89 (by decide)) sh_89 (qIx_0 c3519) (qIx_1 c3519) rfl ?_
            refine q_aload_n dX12_findsFour_47 rfl rfl ?_
            refine q_aload_n dX12_findsFour_48 rfl rfl ?_
            refine q_getI dX12_findsFour_49 fl_X12_444 (hL 70 (by decide)) sh_70 (by decide) rfl rfl ?_
            refine q_iconst dX12_findsFour_52 rfl rfl ?_
            refine q_iadd dX12_findsFour_53 rfl ?_
            refine q_putI dX12_findsFour_54 fl_X12_444 (hL 70 (by decide)) sh_70 (by decide) pf_12_37 pt_12_37 rfl rfl ?_
            cases h
            exact q_pick [0, 1] rfl hk4264
          · rw [if_neg (show ¬ (q3516.1 = 0) from g)] at h
            refine q_goto (pc' := 57) dX12_findsFour_34 (by decide) ?_
            cases h
            exact q_pick [0, 1] rfl hk4264
set_option maxRecDepth 20000 in
theorem M_findsFour_ok {X : qX} (hL : ∀ c, c < 93 → c ∈ qLs X) (d : Nat) (S : qSto) (o : qSto) (h : M_findsFour S = some o) (Q : Option qV → qSto → Prop) (hQ : Q none o) : qC X (d + 1) yX12_findsFour cX12_findsFour 2 none [qr 70] S Q := by
  refine q_entry (lv := [(0, qr 70)]) pn_X12 (Nat.le_of_ble_eq_true rfl) rfl ?_
  unfold M_findsFour at h
  refine q_aload_n dX12_findsFour_0 rfl rfl ?_
  refine q_iconst dX12_findsFour_1 rfl rfl ?_
  refine q_putI dX12_findsFour_2 fl_X12_444 (hL 70 (by decide)) sh_70 (by decide) pf_12_37 pt_12_37 rfl rfl ?_
  refine q_iconst dX12_findsFour_5 rfl rfl ?_
  refine q_istore_n (lv' := [(1, qi 0), (0, qr 70)]) dX12_findsFour_6 (by decide) rfl rfl ?_
  obtain ⟨q3521, h3522, h⟩ := Option.bind_eq_some_iff.mp h
  refine q_pick [1, 0] rfl (M_findsFour_L7_ok hL d qF 0 _ _ h3522 ?_)
  cases h
  exact q_return dX12_findsFour_63 rfl hQ
set_option maxRecDepth 20000 in
theorem M_tries_L6_ok {X : qX} (hL : ∀ c, c < 93 → c ∈ qLs X) (d : Nat) {Q : Option qV → qSto → Prop} : ∀ (n : Nat) (x1 : Int) (x2 : Int) (x3 : Int) (S : qSto) (o : (Int × Int × qSto)), M_tries_L6 n x1 x2 x3 S = some o → (qW X (d + 9) yX12_tries cX12_tries 5 none 58 [(0, qr 70), (1, qi o.1), (2, qi o.2.1)] [] o.2.2 Q) → qW X (d + 9) yX12_tries cX12_tries 5 none 6 [(0, qr 70), (1, qi x1), (2, qi x2), (3, qi x3)] [] S Q := by
  intro n
  induction n with
  | zero =>
    intro x1 x2 x3 S o h
    simp [M_tries_L6] at h
  | succ n ih =>
    intro x1 x2 x3 S o h hE
    rw [M_tries_L6] at h
    refine q_iload_n dX12_tries_6 rfl rfl ?_
    refine q_aload_n dX12_tries_7 rfl rfl ?_
    refine q_getI dX12_tries_8 fl_X12_444 (hL 70 (by decide)) sh_70 (by decide) rfl rfl ?_
    obtain ⟨c3534, h⟩ := qk_some h
    obtain ⟨c3535, h⟩ := qk_some h
    refine q_icmp_ge (tgt := 58) dX12_tries_11 (by decide) rfl (qRb_R c3534) (qRb_R c3535) (fun g => ?_) (fun g => ?_)
    · rw [if_pos (show (S 70 37) ≤ x3 from g)] at h
      cases h
      exact q_pick [0, 1, 2] rfl (hE)
    · rw [if_neg (show ¬ ((S 70 37) ≤ x3) from g)] at h
      refine q_aload_n dX12_tries_14 rfl rfl ?_
      refine q_getA dX12_tries_15 fl_X12_70 (hL 70 (by decide)) sh_70 (by decide) rfl rfl ?_
      refine q_aload_n dX12_tries_18 rfl rfl ?_
      refine q_getA dX12_tries_19 fl_X12_73 (hL 70 (by decide)) sh_70 (by decide) rfl rfl ?_
      refine q_iload_n dX12_tries_22 rfl rfl ?_
      obtain ⟨c3536, h⟩ := qk_some h
      refine q_iaload dX12_tries_23 (hL 90 (by decide)) sh_90 (qIx_0 c3536) (qIx_1 c3536) rfl ?_
      obtain ⟨c3537, h⟩ := qk_some h
      refine q_iaload dX12_tries_24 (hL 89 (by decide)) sh_89 (qIx_0 c3537) (qIx_1 c3537) rfl ?_
      refine q_istore (lv' := [(4, qi (S 89 (Int.toNat (S 90 (Int.toNat x3))))), (0, qr 70), (1, qi x1), (2, qi x2), (3, qi x3)]) dX12_tries_25 (by decide) rfl rfl ?_
      refine q_aload_n dX12_tries_27 rfl rfl ?_
      refine q_iload dX12_tries_28 rfl rfl ?_
      obtain ⟨q3538, h3539, h⟩ := Option.bind_eq_some_iff.mp h
      refine q_callVi (as := [qi (S 89 (Int.toNat (S 90 (Int.toNat x3))))]) (c := 70) dX12_tries_30 ml_X12_420 rfl rfl (hL 70 (by decide)) sh_70 rfl rfl (Nat.le_of_ble_eq_true rfl) (M_laysItself_ok hL d (S 89 (Int.toNat (S 90 (Int.toNat x3)))) _ _ h3539) rfl ?_
      refine q_jn (G := fun (t3543 : (Int × Int × qSto)) => qW X (d + 9) yX12_tries cX12_tries 5 none 52 [(0, qr 70), (1, qi t3543.1), (2, qi t3543.2.1), (3, qi x3)] [] t3543.2.2 Q) h (fun t3543 h => ?_) (fun t3543 h hk4265 => ?_)
      · try dsimp only at h
        refine q_iinc (lv' := [(3, qi (x3 + 1)), (0, qr 70), (1, qi t3543.1), (2, qi t3543.2.1)]) dX12_tries_52 (by decide) rfl rfl rfl ?_
        refine q_goto (pc' := 6) dX12_tries_55 (by decide) ?_
        exact q_pick [1, 2, 3, 0] rfl (ih t3543.1 t3543.2.1 (x3 + 1) _ _ h hE)
      · skip
        obtain ⟨c3540, h⟩ := qk_some h
        refine q_if_eq (tgt := 48) dX12_tries_33 (by decide) rfl (qRb_R c3540)  (fun g => ?_) (fun g => ?_)
        · rw [if_pos (show q3538.1 = 0 from g)] at h
          refine q_iload_n dX12_tries_48 rfl rfl ?_
          refine q_iconst dX12_tries_49 rfl rfl ?_
          refine q_iadd dX12_tries_50 rfl ?_
          refine q_istore_n (lv' := [(1, qi (x1 + 1)), (4, qi (S 89 (Int.toNat (S 90 (Int.toNat x3))))), (0, qr 70), (2, qi x2), (3, qi x3)]) dX12_tries_51 (by decide) rfl rfl ?_
          cases h
          exact q_pick [2, 0, 3, 4] rfl hk4265
        · rw [if_neg (show ¬ (q3538.1 = 0) from g)] at h
          refine q_iload_n dX12_tries_36 rfl rfl ?_
          refine q_aload_n dX12_tries_37 rfl rfl ?_
          refine q_iload dX12_tries_38 rfl rfl ?_
          obtain ⟨q3541, h3542, h⟩ := Option.bind_eq_some_iff.mp h
          refine q_callVi (as := [qi (S 89 (Int.toNat (S 90 (Int.toNat x3))))]) (c := 70) dX12_tries_40 ml_X12_332 rfl rfl (hL 70 (by decide)) sh_70 rfl rfl (Nat.le_of_ble_eq_true rfl) (M_costOf_ok hL (d + 6) (S 89 (Int.toNat (S 90 (Int.toNat x3)))) _ _ h3542) rfl ?_
          refine q_iadd dX12_tries_43 rfl ?_
          refine q_istore_n (lv' := [(2, qi (x2 + q3541.1)), (4, qi (S 89 (Int.toNat (S 90 (Int.toNat x3))))), (0, qr 70), (1, qi x1), (3, qi x3)]) dX12_tries_44 (by decide) rfl rfl ?_
          refine q_goto (pc' := 52) dX12_tries_45 (by decide) ?_
          cases h
          exact q_pick [2, 3, 0, 4] rfl hk4265
set_option maxRecDepth 20000 in
theorem M_tries_L109_ok {X : qX} (hL : ∀ c, c < 93 → c ∈ qLs X) (d : Nat) {Q : Option qV → qSto → Prop} : ∀ (n : Nat) (x3 : Int) (S : qSto) (o : qSto), M_tries_L109 n x3 S = some o → (qW X (d + 9) yX12_tries cX12_tries 5 none 140 [] [] o Q) → qW X (d + 9) yX12_tries cX12_tries 5 none 109 [(0, qr 70), (3, qi x3)] [] S Q := by
  intro n
  induction n with
  | zero =>
    intro x3 S o h
    simp [M_tries_L109] at h
  | succ n ih =>
    intro x3 S o h hE
    rw [M_tries_L109] at h
    refine q_iload_n dX12_tries_109 rfl rfl ?_
    refine q_aload_n dX12_tries_110 rfl rfl ?_
    refine q_getI dX12_tries_111 fl_X12_444 (hL 70 (by decide)) sh_70 (by decide) rfl rfl ?_
    obtain ⟨c3549, h⟩ := qk_some h
    obtain ⟨c3550, h⟩ := qk_some h
    refine q_icmp_ge (tgt := 140) dX12_tries_114 (by decide) rfl (qRb_R c3549) (qRb_R c3550) (fun g => ?_) (fun g => ?_)
    · rw [if_pos (show (S 70 37) ≤ x3 from g)] at h
      cases h
      exact q_pick [] rfl (hE)
    · rw [if_neg (show ¬ ((S 70 37) ≤ x3) from g)] at h
      refine q_aload_n dX12_tries_117 rfl rfl ?_
      refine q_getA dX12_tries_118 fl_X12_76 (hL 70 (by decide)) sh_70 (by decide) rfl rfl ?_
      refine q_iload_n dX12_tries_121 rfl rfl ?_
      refine q_aload_n dX12_tries_122 rfl rfl ?_
      refine q_getA dX12_tries_123 fl_X12_70 (hL 70 (by decide)) sh_70 (by decide) rfl rfl ?_
      refine q_aload_n dX12_tries_126 rfl rfl ?_
      refine q_getA dX12_tries_127 fl_X12_73 (hL 70 (by decide)) sh_70 (by decide) rfl rfl ?_
      refine q_iload_n dX12_tries_130 rfl rfl ?_
      obtain ⟨c3551, h⟩ := qk_some h
      refine q_iaload dX12_tries_131 (hL 90 (by decide)) sh_90 (qIx_0 c3551) (qIx_1 c3551) rfl ?_
      obtain ⟨c3552, h⟩ := qk_some h
      refine q_iaload dX12_tries_132 (hL 89 (by decide)) sh_89 (qIx_0 c3552) (qIx_1 c3552) rfl ?_
      obtain ⟨c3553, h⟩ := qk_some h
      refine q_iastore dX12_tries_133 (hL 91 (by decide)) sh_91 (qIx_0 c3553) (qIx_1 c3553) rfl ?_
      refine q_iinc (lv' := [(3, qi (x3 + 1)), (0, qr 70)]) dX12_tries_134 (by decide) rfl rfl rfl ?_
      refine q_goto (pc' := 109) dX12_tries_137 (by decide) ?_
      exact q_pick [1, 0] rfl (ih (x3 + 1) _ _ h hE)
set_option maxRecDepth 20000 in
theorem M_tries_ok {X : qX} (hL : ∀ c, c < 93 → c ∈ qLs X) (d : Nat) (S : qSto) (o : qSto) (h : M_tries S = some o) (Q : Option qV → qSto → Prop) (hQ : Q none o) : qC X (d + 9) yX12_tries cX12_tries 5 none [qr 70] S Q := by
  refine q_entry (lv := [(0, qr 70)]) pn_X12 (Nat.le_of_ble_eq_true rfl) rfl ?_
  unfold M_tries at h
  refine q_iconst dX12_tries_0 rfl rfl ?_
  refine q_istore_n (lv' := [(1, qi 0), (0, qr 70)]) dX12_tries_1 (by decide) rfl rfl ?_
  refine q_iconst dX12_tries_2 rfl rfl ?_
  refine q_istore_n (lv' := [(2, qi 0), (1, qi 0), (0, qr 70)]) dX12_tries_3 (by decide) rfl rfl ?_
  refine q_iconst dX12_tries_4 rfl rfl ?_
  refine q_istore_n (lv' := [(3, qi 0), (2, qi 0), (1, qi 0), (0, qr 70)]) dX12_tries_5 (by decide) rfl rfl ?_
  obtain ⟨q3544, h3545, h⟩ := Option.bind_eq_some_iff.mp h
  refine q_pick [3, 2, 1, 0] rfl (M_tries_L6_ok hL d qF 0 0 0 _ _ h3545 ?_)
  refine q_aload_n dX12_tries_58 rfl rfl ?_
  refine q_bipush dX12_tries_59 (by decide) rfl ?_
  obtain ⟨q3546, h3547, h⟩ := Option.bind_eq_some_iff.mp h
  refine q_callVv (as := [qi 17]) (c := 70) dX12_tries_61 ml_X12_426 rfl rfl (hL 70 (by decide)) sh_70 rfl rfl (Nat.le_of_ble_eq_true rfl) (M_takes_ok hL (d + 4) 17 _ _ h3547) rfl ?_
  refine q_aload_n dX12_tries_64 rfl rfl ?_
  refine q_getI dX12_tries_65 fl_X12_450 (hL 70 (by decide)) sh_70 (by decide) rfl rfl ?_
  refine q_iconst dX12_tries_68 rfl rfl ?_
  obtain ⟨c3548, h⟩ := qk_some h
  refine q_icmp_eq (tgt := 97) dX12_tries_69 (by decide) rfl (qRb_R c3548) ⟨by decide, by decide⟩ (fun g => ?_) (fun g => ?_)
  · rw [if_pos (show (q3546 70 38) = (-1) from g)] at h
    refine q_aload_n dX12_tries_97 rfl rfl ?_
    refine q_iload_n dX12_tries_98 rfl rfl ?_
    refine q_putI dX12_tries_99 fl_X12_450 (hL 70 (by decide)) sh_70 (by decide) pf_12_38 pt_12_38 rfl rfl ?_
    refine q_aload_n dX12_tries_102 rfl rfl ?_
    refine q_iload_n dX12_tries_103 rfl rfl ?_
    refine q_putI dX12_tries_104 fl_X12_453 (hL 70 (by decide)) sh_70 (by decide) pf_12_39 pt_12_39 rfl rfl ?_
    refine q_iconst dX12_tries_107 rfl rfl ?_
    refine q_istore_n (lv' := [(3, qi 0), (0, qr 70), (1, qi q3544.1), (2, qi q3544.2.1)]) dX12_tries_108 (by decide) rfl rfl ?_
    obtain ⟨q3554, h3555, h⟩ := Option.bind_eq_some_iff.mp h
    refine q_pick [1, 0] rfl (M_tries_L109_ok hL d qF 0 _ _ h3555 ?_)
    cases h
    exact q_return dX12_tries_140 rfl hQ
  · rw [if_neg (show ¬ ((q3546 70 38) = (-1)) from g)] at h
    refine q_iload_n dX12_tries_72 rfl rfl ?_
    refine q_aload_n dX12_tries_73 rfl rfl ?_
    refine q_getI dX12_tries_74 fl_X12_450 (hL 70 (by decide)) sh_70 (by decide) rfl rfl ?_
    obtain ⟨c3556, h⟩ := qk_some h
    obtain ⟨c3557, h⟩ := qk_some h
    refine q_icmp_gt (tgt := 96) dX12_tries_77 (by decide) rfl (qRb_R c3556) (qRb_R c3557) (fun g => ?_) (fun g => ?_)
    · rw [if_pos (show (q3546 70 38) < q3544.1 from g)] at h
      cases h
      exact q_return dX12_tries_96 rfl hQ
    · rw [if_neg (show ¬ ((q3546 70 38) < q3544.1) from g)] at h
      refine q_iload_n dX12_tries_80 rfl rfl ?_
      refine q_aload_n dX12_tries_81 rfl rfl ?_
      refine q_getI dX12_tries_82 fl_X12_450 (hL 70 (by decide)) sh_70 (by decide) rfl rfl ?_
      obtain ⟨c3558, h⟩ := qk_some h
      obtain ⟨c3559, h⟩ := qk_some h
      refine q_icmp_ne (tgt := 97) dX12_tries_85 (by decide) rfl (qRb_R c3558) (qRb_R c3559) (fun g => ?_) (fun g => ?_)
      · rw [if_neg (show ¬ (q3544.1 = (q3546 70 38)) from g)] at h
        refine q_aload_n dX12_tries_97 rfl rfl ?_
        refine q_iload_n dX12_tries_98 rfl rfl ?_
        refine q_putI dX12_tries_99 fl_X12_450 (hL 70 (by decide)) sh_70 (by decide) pf_12_38 pt_12_38 rfl rfl ?_
        refine q_aload_n dX12_tries_102 rfl rfl ?_
        refine q_iload_n dX12_tries_103 rfl rfl ?_
        refine q_putI dX12_tries_104 fl_X12_453 (hL 70 (by decide)) sh_70 (by decide) pf_12_39 pt_12_39 rfl rfl ?_
        refine q_iconst dX12_tries_107 rfl rfl ?_
        refine q_istore_n (lv' := [(3, qi 0), (0, qr 70), (1, qi q3544.1), (2, qi q3544.2.1)]) dX12_tries_108 (by decide) rfl rfl ?_
        obtain ⟨q3560, h3561, h⟩ := Option.bind_eq_some_iff.mp h
        refine q_pick [1, 0] rfl (M_tries_L109_ok hL d qF 0 _ _ h3561 ?_)
        cases h
        exact q_return dX12_tries_140 rfl hQ
      · rw [if_pos (show q3544.1 = (q3546 70 38) from g)] at h
        refine q_iload_n dX12_tries_88 rfl rfl ?_
        refine q_aload_n dX12_tries_89 rfl rfl ?_
        refine q_getI dX12_tries_90 fl_X12_453 (hL 70 (by decide)) sh_70 (by decide) rfl rfl ?_
        obtain ⟨c3562, h⟩ := qk_some h
        obtain ⟨c3563, h⟩ := qk_some h
        refine q_icmp_lt (tgt := 97) dX12_tries_93 (by decide) rfl (qRb_R c3562) (qRb_R c3563) (fun g => ?_) (fun g => ?_)
        · rw [if_pos (show q3544.2.1 < (q3546 70 39) from g)] at h
          refine q_aload_n dX12_tries_97 rfl rfl ?_
          refine q_iload_n dX12_tries_98 rfl rfl ?_
          refine q_putI dX12_tries_99 fl_X12_450 (hL 70 (by decide)) sh_70 (by decide) pf_12_38 pt_12_38 rfl rfl ?_
          refine q_aload_n dX12_tries_102 rfl rfl ?_
          refine q_iload_n dX12_tries_103 rfl rfl ?_
          refine q_putI dX12_tries_104 fl_X12_453 (hL 70 (by decide)) sh_70 (by decide) pf_12_39 pt_12_39 rfl rfl ?_
          refine q_iconst dX12_tries_107 rfl rfl ?_
          refine q_istore_n (lv' := [(3, qi 0), (0, qr 70), (1, qi q3544.1), (2, qi q3544.2.1)]) dX12_tries_108 (by decide) rfl rfl ?_
          obtain ⟨q3564, h3565, h⟩ := Option.bind_eq_some_iff.mp h
          refine q_pick [1, 0] rfl (M_tries_L109_ok hL d qF 0 _ _ h3565 ?_)
          cases h
          exact q_return dX12_tries_140 rfl hQ
        · rw [if_neg (show ¬ (q3544.2.1 < (q3546 70 39)) from g)] at h
          cases h
          exact q_return dX12_tries_96 rfl hQ
set_option maxRecDepth 20000 in
theorem M_swaps_ok {X : qX} (hL : ∀ c, c < 93 → c ∈ qLs X) (d : Nat) (a1 : Int) (a2 : Int) (S : qSto) (o : qSto) (h : M_swaps a1 a2 S = some o) (Q : Option qV → qSto → Prop) (hQ : Q none o) : qC X d yX12_swaps cX12_swaps 4 none [qr 70, qi a1, qi a2] S Q := by
  refine q_entry (lv := [(0, qr 70), (1, qi a1), (2, qi a2)]) pn_X12 (Nat.le_of_ble_eq_true rfl) rfl ?_
  unfold M_swaps at h
  refine q_aload_n dX12_swaps_0 rfl rfl ?_
  refine q_getA dX12_swaps_1 fl_X12_73 (hL 70 (by decide)) sh_70 (by decide) rfl rfl ?_
  refine q_iload_n dX12_swaps_4 rfl rfl ?_
  obtain ⟨c3582, h⟩ := qk_some h
  refine q_iaload dX12_swaps_5 (hL 90 (by decide)) sh_90 (qIx_0 c3582) (qIx_1 c3582) rfl ?_
  refine q_istore_n (lv' := [(3, qi (S 90 (Int.toNat a1))), (0, qr 70), (1, qi a1), (2, qi a2)]) dX12_swaps_6 (by decide) rfl rfl ?_
  refine q_aload_n dX12_swaps_7 rfl rfl ?_
  refine q_getA dX12_swaps_8 fl_X12_73 (hL 70 (by decide)) sh_70 (by decide) rfl rfl ?_
  refine q_iload_n dX12_swaps_11 rfl rfl ?_
  refine q_aload_n dX12_swaps_12 rfl rfl ?_
  refine q_getA dX12_swaps_13 fl_X12_73 (hL 70 (by decide)) sh_70 (by decide) rfl rfl ?_
  refine q_iload_n dX12_swaps_16 rfl rfl ?_
  obtain ⟨c3583, h⟩ := qk_some h
  refine q_iaload dX12_swaps_17 (hL 90 (by decide)) sh_90 (qIx_0 c3583) (qIx_1 c3583) rfl ?_
  obtain ⟨c3584, h⟩ := qk_some h
  refine q_iastore dX12_swaps_18 (hL 90 (by decide)) sh_90 (qIx_0 c3584) (qIx_1 c3584) rfl ?_
  refine q_aload_n dX12_swaps_19 rfl rfl ?_
  refine q_getA dX12_swaps_20 fl_X12_73 (hL 70 (by decide)) sh_70 (by decide) rfl rfl ?_
  refine q_iload_n dX12_swaps_23 rfl rfl ?_
  refine q_iload_n dX12_swaps_24 rfl rfl ?_
  obtain ⟨c3585, h⟩ := qk_some h
  refine q_iastore dX12_swaps_25 (hL 90 (by decide)) sh_90 (qIx_0 c3585) (qIx_1 c3585) rfl ?_
  cases h
  exact q_return dX12_swaps_26 rfl hQ
set_option maxRecDepth 20000 in
theorem M_goesOn_L7_ok {X : qX} (hL : ∀ c, c < 93 → c ∈ qLs X) (d : Nat) {Q : Option qV → qSto → Prop} : ∀ (n : Nat) (x1 : Int) (S : qSto) (o : (Int × qSto)), M_goesOn_L7 n x1 S = some o → (qW X (d + 1) yX12_goesOn cX12_goesOn 5 (some .boolean) 35 [(0, qr 70), (1, qi o.1)] [] o.2 Q) → qW X (d + 1) yX12_goesOn cX12_goesOn 5 (some .boolean) 7 [(0, qr 70), (1, qi x1)] [] S Q := by
  intro n
  induction n with
  | zero =>
    intro x1 S o h
    simp [M_goesOn_L7] at h
  | succ n ih =>
    intro x1 S o h hE
    rw [M_goesOn_L7] at h
    refine q_iload_n dX12_goesOn_7 rfl rfl ?_
    obtain ⟨c3568, h⟩ := qk_some h
    refine q_if_lt (tgt := 35) dX12_goesOn_8 (by decide) rfl (qRb_R c3568)  (fun g => ?_) (fun g => ?_)
    · rw [if_pos (show x1 < 0 from g)] at h
      cases h
      exact q_pick [0, 1] rfl (hE)
    · rw [if_neg (show ¬ (x1 < 0) from g)] at h
      refine q_aload_n dX12_goesOn_11 rfl rfl ?_
      refine q_getA dX12_goesOn_12 fl_X12_73 (hL 70 (by decide)) sh_70 (by decide) rfl rfl ?_
      refine q_iload_n dX12_goesOn_15 rfl rfl ?_
      obtain ⟨c3569, h⟩ := qk_some h
      refine q_iaload dX12_goesOn_16 (hL 90 (by decide)) sh_90 (qIx_0 c3569) (qIx_1 c3569) rfl ?_
      refine q_aload_n dX12_goesOn_17 rfl rfl ?_
      refine q_getA dX12_goesOn_18 fl_X12_73 (hL 70 (by decide)) sh_70 (by decide) rfl rfl ?_
      refine q_iload_n dX12_goesOn_21 rfl rfl ?_
      refine q_iconst dX12_goesOn_22 rfl rfl ?_
      refine q_iadd dX12_goesOn_23 rfl ?_
      obtain ⟨c3570, h⟩ := qk_some h
      refine q_iaload dX12_goesOn_24 (hL 90 (by decide)) sh_90 (qIx_0 c3570) (qIx_1 c3570) rfl ?_
      obtain ⟨c3571, h⟩ := qk_some h
      obtain ⟨c3572, h⟩ := qk_some h
      refine q_icmp_le (tgt := 35) dX12_goesOn_25 (by decide) rfl (qRb_R c3571) (qRb_R c3572) (fun g => ?_) (fun g => ?_)
      · rw [if_pos (show (S 90 (Int.toNat x1)) ≤ (S 90 (Int.toNat (x1 + 1))) from g)] at h
        cases h
        exact q_pick [0, 1] rfl (hE)
      · rw [if_neg (show ¬ ((S 90 (Int.toNat x1)) ≤ (S 90 (Int.toNat (x1 + 1)))) from g)] at h
        refine q_iload_n dX12_goesOn_28 rfl rfl ?_
        refine q_iconst dX12_goesOn_29 rfl rfl ?_
        refine q_isub dX12_goesOn_30 rfl ?_
        refine q_istore_n (lv' := [(1, qi (x1 - 1)), (0, qr 70)]) dX12_goesOn_31 (by decide) rfl rfl ?_
        refine q_goto (pc' := 7) dX12_goesOn_32 (by decide) ?_
        exact q_pick [1, 0] rfl (ih (x1 - 1) _ _ h hE)
set_option maxRecDepth 20000 in
theorem M_goesOn_L48_ok {X : qX} (hL : ∀ c, c < 93 → c ∈ qLs X) (d : Nat) {Q : Option qV → qSto → Prop} : ∀ (n : Nat) (x1 : Int) (x2 : Int) (S : qSto) (o : (Int × qSto)), M_goesOn_L48 n x1 x2 S = some o → (qW X (d + 1) yX12_goesOn cX12_goesOn 5 (some .boolean) 70 [(0, qr 70), (1, qi x1), (2, qi o.1)] [] o.2 Q) → qW X (d + 1) yX12_goesOn cX12_goesOn 5 (some .boolean) 48 [(0, qr 70), (1, qi x1), (2, qi x2)] [] S Q := by
  intro n
  induction n with
  | zero =>
    intro x1 x2 S o h
    simp [M_goesOn_L48] at h
  | succ n ih =>
    intro x1 x2 S o h hE
    rw [M_goesOn_L48] at h
    refine q_aload_n dX12_goesOn_48 rfl rfl ?_
    refine q_getA dX12_goesOn_49 fl_X12_73 (hL 70 (by decide)) sh_70 (by decide) rfl rfl ?_
    refine q_iload_n dX12_goesOn_52 rfl rfl ?_
    obtain ⟨c3576, h⟩ := qk_some h
    refine q_iaload dX12_goesOn_53 (hL 90 (by decide)) sh_90 (qIx_0 c3576) (qIx_1 c3576) rfl ?_
    refine q_aload_n dX12_goesOn_54 rfl rfl ?_
    refine q_getA dX12_goesOn_55 fl_X12_73 (hL 70 (by decide)) sh_70 (by decide) rfl rfl ?_
    refine q_iload_n dX12_goesOn_58 rfl rfl ?_
    obtain ⟨c3577, h⟩ := qk_some h
    refine q_iaload dX12_goesOn_59 (hL 90 (by decide)) sh_90 (qIx_0 c3577) (qIx_1 c3577) rfl ?_
    obtain ⟨c3578, h⟩ := qk_some h
    obtain ⟨c3579, h⟩ := qk_some h
    refine q_icmp_ge (tgt := 70) dX12_goesOn_60 (by decide) rfl (qRb_R c3578) (qRb_R c3579) (fun g => ?_) (fun g => ?_)
    · rw [if_pos (show (S 90 (Int.toNat x1)) ≤ (S 90 (Int.toNat x2)) from g)] at h
      cases h
      exact q_pick [0, 1, 2] rfl (hE)
    · rw [if_neg (show ¬ ((S 90 (Int.toNat x1)) ≤ (S 90 (Int.toNat x2))) from g)] at h
      refine q_iload_n dX12_goesOn_63 rfl rfl ?_
      refine q_iconst dX12_goesOn_64 rfl rfl ?_
      refine q_isub dX12_goesOn_65 rfl ?_
      refine q_istore_n (lv' := [(2, qi (x2 - 1)), (0, qr 70), (1, qi x1)]) dX12_goesOn_66 (by decide) rfl rfl ?_
      refine q_goto (pc' := 48) dX12_goesOn_67 (by decide) ?_
      exact q_pick [1, 2, 0] rfl (ih x1 (x2 - 1) _ _ h hE)
set_option maxRecDepth 20000 in
theorem M_goesOn_L88_ok {X : qX} (hL : ∀ c, c < 93 → c ∈ qLs X) (d : Nat) {Q : Option qV → qSto → Prop} : ∀ (n : Nat) (x3 : Int) (x4 : Int) (S : qSto) (o : qSto), M_goesOn_L88 n x3 x4 S = some o → (qW X (d + 1) yX12_goesOn cX12_goesOn 5 (some .boolean) 114 [] [] o Q) → qW X (d + 1) yX12_goesOn cX12_goesOn 5 (some .boolean) 88 [(0, qr 70), (3, qi x3), (4, qi x4)] [] S Q := by
  intro n
  induction n with
  | zero =>
    intro x3 x4 S o h
    simp [M_goesOn_L88] at h
  | succ n ih =>
    intro x3 x4 S o h hE
    rw [M_goesOn_L88] at h
    refine q_iload_n dX12_goesOn_88 rfl rfl ?_
    refine q_iload dX12_goesOn_89 rfl rfl ?_
    obtain ⟨c3588, h⟩ := qk_some h
    obtain ⟨c3589, h⟩ := qk_some h
    refine q_icmp_ge (tgt := 114) dX12_goesOn_91 (by decide) rfl (qRb_R c3588) (qRb_R c3589) (fun g => ?_) (fun g => ?_)
    · rw [if_pos (show x4 ≤ x3 from g)] at h
      cases h
      exact q_pick [] rfl (hE)
    · rw [if_neg (show ¬ (x4 ≤ x3) from g)] at h
      refine q_aload_n dX12_goesOn_94 rfl rfl ?_
      refine q_iload_n dX12_goesOn_95 rfl rfl ?_
      refine q_iload dX12_goesOn_96 rfl rfl ?_
      obtain ⟨q3590, h3591, h⟩ := Option.bind_eq_some_iff.mp h
      refine q_callVv (as := [qi x3, qi x4]) (c := 70) dX12_goesOn_98 ml_X12_447 rfl rfl (hL 70 (by decide)) sh_70 rfl rfl (Nat.le_of_ble_eq_true rfl) (M_swaps_ok hL d x3 x4 _ _ h3591) rfl ?_
      refine q_iload_n dX12_goesOn_101 rfl rfl ?_
      refine q_iconst dX12_goesOn_102 rfl rfl ?_
      refine q_iadd dX12_goesOn_103 rfl ?_
      refine q_istore_n (lv' := [(3, qi (x3 + 1)), (0, qr 70), (4, qi x4)]) dX12_goesOn_104 (by decide) rfl rfl ?_
      refine q_iload dX12_goesOn_105 rfl rfl ?_
      refine q_iconst dX12_goesOn_107 rfl rfl ?_
      refine q_isub dX12_goesOn_108 rfl ?_
      refine q_istore (lv' := [(4, qi (x4 - 1)), (3, qi (x3 + 1)), (0, qr 70)]) dX12_goesOn_109 (by decide) rfl rfl ?_
      refine q_goto (pc' := 88) dX12_goesOn_111 (by decide) ?_
      exact q_pick [2, 1, 0] rfl (ih (x3 + 1) (x4 - 1) _ _ h hE)
set_option maxRecDepth 20000 in
theorem M_goesOn_ok {X : qX} (hL : ∀ c, c < 93 → c ∈ qLs X) (d : Nat) (S : qSto) (o : (Int × qSto)) (h : M_goesOn S = some o) (Q : Option qV → qSto → Prop) (hQ : Q (some (qi o.1)) o.2) : qC X (d + 1) yX12_goesOn cX12_goesOn 5 (some .boolean) [qr 70] S Q := by
  refine q_entry (lv := [(0, qr 70)]) pn_X12 (Nat.le_of_ble_eq_true rfl) rfl ?_
  unfold M_goesOn at h
  refine q_aload_n dX12_goesOn_0 rfl rfl ?_
  refine q_getI dX12_goesOn_1 fl_X12_444 (hL 70 (by decide)) sh_70 (by decide) rfl rfl ?_
  refine q_iconst dX12_goesOn_4 rfl rfl ?_
  refine q_isub dX12_goesOn_5 rfl ?_
  refine q_istore_n (lv' := [(1, qi ((S 70 37) - 2)), (0, qr 70)]) dX12_goesOn_6 (by decide) rfl rfl ?_
  obtain ⟨q3573, h3574, h⟩ := Option.bind_eq_some_iff.mp h
  refine q_pick [1, 0] rfl (M_goesOn_L7_ok hL d qF ((S 70 37) - 2) _ _ h3574 ?_)
  refine q_iload_n dX12_goesOn_35 rfl rfl ?_
  obtain ⟨c3575, h⟩ := qk_some h
  refine q_if_ge (tgt := 41) dX12_goesOn_36 (by decide) rfl (qRb_R c3575)  (fun g => ?_) (fun g => ?_)
  · rw [if_pos (show 0 ≤ q3573.1 from g)] at h
    refine q_aload_n dX12_goesOn_41 rfl rfl ?_
    refine q_getI dX12_goesOn_42 fl_X12_444 (hL 70 (by decide)) sh_70 (by decide) rfl rfl ?_
    refine q_iconst dX12_goesOn_45 rfl rfl ?_
    refine q_isub dX12_goesOn_46 rfl ?_
    refine q_istore_n (lv' := [(2, qi ((q3573.2 70 37) - 1)), (0, qr 70), (1, qi q3573.1)]) dX12_goesOn_47 (by decide) rfl rfl ?_
    obtain ⟨q3580, h3581, h⟩ := Option.bind_eq_some_iff.mp h
    refine q_pick [1, 2, 0] rfl (M_goesOn_L48_ok hL d qF q3573.1 ((q3573.2 70 37) - 1) _ _ h3581 ?_)
    refine q_aload_n dX12_goesOn_70 rfl rfl ?_
    refine q_iload_n dX12_goesOn_71 rfl rfl ?_
    refine q_iload_n dX12_goesOn_72 rfl rfl ?_
    obtain ⟨q3586, h3587, h⟩ := Option.bind_eq_some_iff.mp h
    refine q_callVv (as := [qi q3573.1, qi q3580.1]) (c := 70) dX12_goesOn_73 ml_X12_447 rfl rfl (hL 70 (by decide)) sh_70 rfl rfl (Nat.le_of_ble_eq_true rfl) (M_swaps_ok hL d q3573.1 q3580.1 _ _ h3587) rfl ?_
    refine q_iload_n dX12_goesOn_76 rfl rfl ?_
    refine q_iconst dX12_goesOn_77 rfl rfl ?_
    refine q_iadd dX12_goesOn_78 rfl ?_
    refine q_istore_n (lv' := [(3, qi (q3573.1 + 1)), (0, qr 70), (1, qi q3573.1), (2, qi q3580.1)]) dX12_goesOn_79 (by decide) rfl rfl ?_
    refine q_aload_n dX12_goesOn_80 rfl rfl ?_
    refine q_getI dX12_goesOn_81 fl_X12_444 (hL 70 (by decide)) sh_70 (by decide) rfl rfl ?_
    refine q_iconst dX12_goesOn_84 rfl rfl ?_
    refine q_isub dX12_goesOn_85 rfl ?_
    refine q_istore (lv' := [(4, qi ((q3586 70 37) - 1)), (3, qi (q3573.1 + 1)), (0, qr 70), (1, qi q3573.1), (2, qi q3580.1)]) dX12_goesOn_86 (by decide) rfl rfl ?_
    obtain ⟨q3592, h3593, h⟩ := Option.bind_eq_some_iff.mp h
    refine q_pick [2, 1, 0] rfl (M_goesOn_L88_ok hL d qF (q3573.1 + 1) ((q3586 70 37) - 1) _ _ h3593 ?_)
    refine q_iconst dX12_goesOn_114 rfl rfl ?_
    cases h
    exact q_zreturn dX12_goesOn_115 rfl (by decide) hQ
  · rw [if_neg (show ¬ (0 ≤ q3573.1) from g)] at h
    refine q_iconst dX12_goesOn_39 rfl rfl ?_
    cases h
    exact q_zreturn dX12_goesOn_40 rfl (by decide) hQ
set_option maxRecDepth 20000 in
theorem M_laysFour_L16_ok {X : qX} (hL : ∀ c, c < 93 → c ∈ qLs X) (d : Nat) {Q : Option qV → qSto → Prop} : ∀ (n : Nat) (x1 : Int) (S : qSto) (o : qSto), M_laysFour_L16 n x1 S = some o → (qW X (d + 10) yX12_laysFour cX12_laysFour 2 none 34 [(0, qr 70)] [] o Q) → qW X (d + 10) yX12_laysFour cX12_laysFour 2 none 16 [(0, qr 70), (1, qi x1)] [] S Q := by
  intro n
  induction n with
  | zero =>
    intro x1 S o h
    simp [M_laysFour_L16] at h
  | succ n ih =>
    intro x1 S o h hE
    rw [M_laysFour_L16] at h
    refine q_iload_n dX12_laysFour_16 rfl rfl ?_
    refine q_iconst dX12_laysFour_17 rfl rfl ?_
    obtain ⟨c3525, h⟩ := qk_some h
    refine q_icmp_ge (tgt := 34) dX12_laysFour_18 (by decide) rfl (qRb_R c3525) ⟨by decide, by decide⟩ (fun g => ?_) (fun g => ?_)
    · rw [if_pos (show 4 ≤ x1 from g)] at h
      cases h
      exact q_pick [0] rfl (hE)
    · rw [if_neg (show ¬ (4 ≤ x1) from g)] at h
      refine q_aload_n dX12_laysFour_21 rfl rfl ?_
      refine q_getA dX12_laysFour_22 fl_X12_73 (hL 70 (by decide)) sh_70 (by decide) rfl rfl ?_
      refine q_iload_n dX12_laysFour_25 rfl rfl ?_
      refine q_iload_n dX12_laysFour_26 rfl rfl ?_
      obtain ⟨c3526, h⟩ := qk_some h
      refine q_iastore dX12_laysFour_27 (hL 90 (by decide)) sh_90 (qIx_0 c3526) (qIx_1 c3526) rfl ?_
      refine q_iinc (lv' := [(1, qi (x1 + 1)), (0, qr 70)]) dX12_laysFour_28 (by decide) rfl rfl rfl ?_
      refine q_goto (pc' := 16) dX12_laysFour_31 (by decide) ?_
      exact q_pick [1, 0] rfl (ih (x1 + 1) _ _ h hE)
set_option maxRecDepth 20000 in
theorem M_laysFour_L53_ok {X : qX} (hL : ∀ c, c < 93 → c ∈ qLs X) (d : Nat) {Q : Option qV → qSto → Prop} : ∀ (n : Nat) (x1 : Int) (S : qSto) (o : qSto), M_laysFour_L53 n x1 S = some o → (qW X (d + 10) yX12_laysFour cX12_laysFour 2 none 69 [] [] o Q) → qW X (d + 10) yX12_laysFour cX12_laysFour 2 none 53 [(0, qr 70), (1, qi x1)] [] S Q := by
  intro n
  induction n with
  | zero =>
    intro x1 S o h
    simp [M_laysFour_L53] at h
  | succ n ih =>
    intro x1 S o h hE
    rw [M_laysFour_L53] at h
    refine q_iload_n dX12_laysFour_53 rfl rfl ?_
    obtain ⟨c3533, h⟩ := qk_some h
    refine q_if_eq (tgt := 69) dX12_laysFour_54 (by decide) rfl (qRb_R c3533)  (fun g => ?_) (fun g => ?_)
    · rw [if_pos (show x1 = 0 from g)] at h
      cases h
      exact q_pick [] rfl (hE)
    · rw [if_neg (show ¬ (x1 = 0) from g)] at h
      refine q_aload_n dX12_laysFour_57 rfl rfl ?_
      obtain ⟨q3566, h3567, h⟩ := Option.bind_eq_some_iff.mp h
      refine q_callVv (as := []) (c := 70) dX12_laysFour_58 ml_X12_459 rfl rfl (hL 70 (by decide)) sh_70 rfl rfl (Nat.le_of_ble_eq_true rfl) (M_tries_ok hL d _ _ h3567) rfl ?_
      refine q_aload_n dX12_laysFour_61 rfl rfl ?_
      obtain ⟨q3594, h3595, h⟩ := Option.bind_eq_some_iff.mp h
      refine q_callVi (as := []) (c := 70) dX12_laysFour_62 ml_X12_462 rfl rfl (hL 70 (by decide)) sh_70 rfl rfl (Nat.le_of_ble_eq_true rfl) (M_goesOn_ok hL (d + 8) _ _ h3595) rfl ?_
      refine q_istore_n (lv' := [(1, qi q3594.1), (0, qr 70)]) dX12_laysFour_65 (by decide) rfl rfl ?_
      refine q_goto (pc' := 53) dX12_laysFour_66 (by decide) ?_
      exact q_pick [1, 0] rfl (ih q3594.1 _ _ h hE)
set_option maxRecDepth 20000 in
theorem M_laysFour_ok {X : qX} (hL : ∀ c, c < 93 → c ∈ qLs X) (d : Nat) (S : qSto) (o : qSto) (h : M_laysFour S = some o) (Q : Option qV → qSto → Prop) (hQ : Q none o) : qC X (d + 10) yX12_laysFour cX12_laysFour 2 none [qr 70] S Q := by
  refine q_entry (lv := [(0, qr 70)]) pn_X12 (Nat.le_of_ble_eq_true rfl) rfl ?_
  unfold M_laysFour at h
  refine q_aload_n dX12_laysFour_0 rfl rfl ?_
  obtain ⟨q3523, h3524, h⟩ := Option.bind_eq_some_iff.mp h
  refine q_callVv (as := []) (c := 70) dX12_laysFour_1 ml_X12_456 rfl rfl (hL 70 (by decide)) sh_70 rfl rfl (Nat.le_of_ble_eq_true rfl) (M_findsFour_ok hL (d + 8) _ _ h3524) rfl ?_
  refine q_aload_n dX12_laysFour_4 rfl rfl ?_
  refine q_iconst dX12_laysFour_5 rfl rfl ?_
  refine q_putI dX12_laysFour_6 fl_X12_450 (hL 70 (by decide)) sh_70 (by decide) pf_12_38 pt_12_38 rfl rfl ?_
  refine q_aload_n dX12_laysFour_9 rfl rfl ?_
  refine q_iconst dX12_laysFour_10 rfl rfl ?_
  refine q_putI dX12_laysFour_11 fl_X12_453 (hL 70 (by decide)) sh_70 (by decide) pf_12_39 pt_12_39 rfl rfl ?_
  refine q_iconst dX12_laysFour_14 rfl rfl ?_
  refine q_istore_n (lv' := [(1, qi 0), (0, qr 70)]) dX12_laysFour_15 (by decide) rfl rfl ?_
  obtain ⟨q3527, h3528, h⟩ := Option.bind_eq_some_iff.mp h
  refine q_pick [1, 0] rfl (M_laysFour_L16_ok hL d qF 0 _ _ h3528 ?_)
  refine q_aload_n dX12_laysFour_34 rfl rfl ?_
  refine q_bipush dX12_laysFour_35 (by decide) rfl ?_
  obtain ⟨q3529, h3530, h⟩ := Option.bind_eq_some_iff.mp h
  refine q_callVv (as := [qi 17]) (c := 70) dX12_laysFour_37 ml_X12_414 rfl rfl (hL 70 (by decide)) sh_70 rfl rfl (Nat.le_of_ble_eq_true rfl) (M_puts_ok hL (d + 9) 17 _ _ h3530) rfl ?_
  refine q_aload_n dX12_laysFour_40 rfl rfl ?_
  refine q_getI dX12_laysFour_41 fl_X12_444 (hL 70 (by decide)) sh_70 (by decide) rfl rfl ?_
  refine q_jn (G := fun (t3532 : Int) => qW X (d + 10) yX12_laysFour cX12_laysFour 2 none 52 [(0, qr 70)] [qi t3532] q3529 Q) h (fun t3532 h => ?_) (fun t3532 h hk4266 => ?_)
  · try dsimp only at h
    refine q_istore_n (lv' := [(1, qi t3532), (0, qr 70)]) dX12_laysFour_52 (by decide) rfl rfl ?_
    obtain ⟨q3596, h3597, h⟩ := Option.bind_eq_some_iff.mp h
    refine q_pick [1, 0] rfl (M_laysFour_L53_ok hL d qF t3532 _ _ h3597 ?_)
    cases h
    exact q_return dX12_laysFour_69 rfl hQ
  · skip
    obtain ⟨c3531, h⟩ := qk_some h
    refine q_if_le (tgt := 51) dX12_laysFour_44 (by decide) rfl (qRb_R c3531)  (fun g => ?_) (fun g => ?_)
    · rw [if_pos (show (q3529 70 37) ≤ 0 from g)] at h
      refine q_iconst dX12_laysFour_51 rfl rfl ?_
      cases h
      exact q_pick [0] rfl hk4266
    · rw [if_neg (show ¬ ((q3529 70 37) ≤ 0) from g)] at h
      refine q_iconst dX12_laysFour_47 rfl rfl ?_
      refine q_goto (pc' := 52) dX12_laysFour_48 (by decide) ?_
      cases h
      exact q_pick [0] rfl hk4266
