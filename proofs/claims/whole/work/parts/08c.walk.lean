set_option maxRecDepth 20000 in
theorem Search_firstMetre_L30_ok {X : qX} (hL : ∀ c, c < 93 → c ∈ qLs X) (d : Nat) {Q : Option qV → qSto → Prop} : ∀ (n : Nat) (x1 : Int) (x2 : Int) (x3 : Int) (x4 : Int) (x5 : Int) (x6 : Int) (S : qSto) (o : (qSto ⊕ (Int × qSto))), Search_firstMetre_L30 n x1 x2 x3 x4 x5 x6 S = some o → (∀ t, o = Sum.inl t → qW X (d + 3) yX6_firstMetre cX6_firstMetre 9 (some .int) 136 [] [] t Q) → (∀ w, o = Sum.inr w → Q (some (qi w.1)) w.2) → qW X (d + 3) yX6_firstMetre cX6_firstMetre 9 (some .int) 30 [(0, qr 9), (1, qi x1), (2, qi x2), (3, qi x3), (4, qi x4), (5, qi x5), (6, qi x6)] [] S Q := by
  intro n
  induction n with
  | zero =>
    intro x1 x2 x3 x4 x5 x6 S o h
    simp [Search_firstMetre_L30] at h
  | succ n ih =>
    intro x1 x2 x3 x4 x5 x6 S o h hE hR
    rw [Search_firstMetre_L30] at h
    refine q_iload dX6_firstMetre_30 rfl rfl ?_
    refine q_bipush dX6_firstMetre_32 (by decide) rfl ?_
    obtain ⟨c658, h⟩ := qk_some h
    refine q_icmp_ge (tgt := 136) dX6_firstMetre_34 (by decide) rfl (qRb_R c658) ⟨by decide, by decide⟩ (fun g => ?_) (fun g => ?_)
    · rw [if_pos (show 100 ≤ x6 from g)] at h
      cases h
      exact q_pick [] rfl (hE _ rfl)
    · rw [if_neg (show ¬ (100 ≤ x6) from g)] at h
      refine q_aload_n dX6_firstMetre_37 rfl rfl ?_
      refine q_getA dX6_firstMetre_38 fl_X6_9 (hL 9 (by decide)) sh_9 (by decide) rfl rfl ?_
      refine q_iload dX6_firstMetre_41 rfl rfl ?_
      obtain ⟨c659, h⟩ := qk_some h
      refine q_iaload dX6_firstMetre_43 (hL 46 (by decide)) sh_46 (qIx_0 c659) (qIx_1 c659) rfl ?_
      refine q_iconst dX6_firstMetre_44 rfl rfl ?_
      obtain ⟨c660, h⟩ := qk_some h
      refine q_icmp_eq (tgt := 130) dX6_firstMetre_45 (by decide) rfl (qRb_R c660) ⟨by decide, by decide⟩ (fun g => ?_) (fun g => ?_)
      · rw [if_pos (show (S 46 (Int.toNat x6)) = (-1) from g)] at h
        refine q_iinc (lv' := [(6, qi (x6 + 1)), (0, qr 9), (1, qi x1), (2, qi x2), (3, qi x3), (4, qi x4), (5, qi x5)]) dX6_firstMetre_130 (by decide) rfl rfl rfl ?_
        refine q_goto (pc' := 30) dX6_firstMetre_133 (by decide) ?_
        exact q_pick [1, 2, 3, 4, 5, 6, 0] rfl (ih x1 x2 x3 x4 x5 (x6 + 1) _ _ h hE hR)
      · rw [if_neg (show ¬ ((S 46 (Int.toNat x6)) = (-1)) from g)] at h
        refine q_aload_n dX6_firstMetre_48 rfl rfl ?_
        refine q_getA dX6_firstMetre_49 fl_X6_9 (hL 9 (by decide)) sh_9 (by decide) rfl rfl ?_
        refine q_iload dX6_firstMetre_52 rfl rfl ?_
        obtain ⟨c661, h⟩ := qk_some h
        refine q_iaload dX6_firstMetre_54 (hL 46 (by decide)) sh_46 (qIx_0 c661) (qIx_1 c661) rfl ?_
        refine q_iload dX6_firstMetre_55 rfl rfl ?_
        refine q_iadd dX6_firstMetre_57 rfl ?_
        refine q_iload dX6_firstMetre_58 rfl rfl ?_
        obtain ⟨c662, h⟩ := qk_some h
        obtain ⟨c663, h⟩ := qk_some h
        refine q_icmp_ge (tgt := 66) dX6_firstMetre_60 (by decide) rfl (qRb_R c662) (qRb_R c663) (fun g => ?_) (fun g => ?_)
        · rw [if_pos (show x5 ≤ ((S 46 (Int.toNat x6)) + x4) from g)] at h
          refine q_iload dX6_firstMetre_66 rfl rfl ?_
          refine q_bipush dX6_firstMetre_68 (by decide) rfl ?_
          refine q_imul dX6_firstMetre_70 rfl ?_
          refine q_istore (lv' := [(7, qi (x6 * 10)), (0, qr 9), (1, qi x1), (2, qi x2), (3, qi x3), (4, qi x4), (5, qi x5), (6, qi x6)]) dX6_firstMetre_71 (by decide) rfl rfl ?_
          refine q_aload_n dX6_firstMetre_73 rfl rfl ?_
          refine q_getA dX6_firstMetre_74 fl_X6_23 (hL 9 (by decide)) sh_9 (by decide) rfl rfl ?_
          refine q_iload_n dX6_firstMetre_77 rfl rfl ?_
          refine q_iload dX6_firstMetre_78 rfl rfl ?_
          refine q_iload_n dX6_firstMetre_80 rfl rfl ?_
          obtain ⟨q664, h665, h⟩ := Option.bind_eq_some_iff.mp h
          refine q_callVi (as := [qi x1, qi (x6 * 10), qi x2]) (c := 8) dX6_firstMetre_81 ml_X6_87 rfl rfl (hL 8 (by decide)) sh_8 rfl rfl (Nat.le_of_ble_eq_true rfl) (Laws_pastObstacle_ok hL d x1 (x6 * 10) x2 _ _ h665) rfl ?_
          refine q_istore (lv' := [(8, qi q664.1), (7, qi (x6 * 10)), (0, qr 9), (1, qi x1), (2, qi x2), (3, qi x3), (4, qi x4), (5, qi x5), (6, qi x6)]) dX6_firstMetre_84 (by decide) rfl rfl ?_
          refine q_iload dX6_firstMetre_86 rfl rfl ?_
          refine q_iload dX6_firstMetre_88 rfl rfl ?_
          obtain ⟨c666, h⟩ := qk_some h
          obtain ⟨c667, h⟩ := qk_some h
          refine q_icmp_le (tgt := 105) dX6_firstMetre_90 (by decide) rfl (qRb_R c666) (qRb_R c667) (fun g => ?_) (fun g => ?_)
          · rw [if_pos (show q664.1 ≤ (x6 * 10) from g)] at h
            refine q_aload_n dX6_firstMetre_105 rfl rfl ?_
            refine q_getA dX6_firstMetre_106 fl_X6_27 (hL 9 (by decide)) sh_9 (by decide) rfl rfl ?_
            refine q_iload_n dX6_firstMetre_109 rfl rfl ?_
            refine q_iload dX6_firstMetre_110 rfl rfl ?_
            refine q_iload_n dX6_firstMetre_112 rfl rfl ?_
            refine q_iload_n dX6_firstMetre_113 rfl rfl ?_
            refine q_aload_n dX6_firstMetre_114 rfl rfl ?_
            refine q_getA dX6_firstMetre_115 fl_X6_23 (hL 9 (by decide)) sh_9 (by decide) rfl rfl ?_
            refine q_getI dX6_firstMetre_118 fl_X6_90 (hL 8 (by decide)) sh_8 (by decide) rfl rfl ?_
            obtain ⟨q668, h669, h⟩ := Option.bind_eq_some_iff.mp h
            refine q_callVi (as := [qi x1, qi (x6 * 10), qi x2, qi x3, qi (q664.2 8 4)]) (c := 7) dX6_firstMetre_121 ml_X6_93 rfl rfl (hL 7 (by decide)) sh_7 rfl rfl (Nat.le_of_ble_eq_true rfl) (Dealer_suffices_ok hL d x1 (x6 * 10) x2 x3 (q664.2 8 4) _ _ h669) rfl ?_
            obtain ⟨c670, h⟩ := qk_some h
            refine q_if_eq (tgt := 130) dX6_firstMetre_124 (by decide) rfl (qRb_R c670)  (fun g => ?_) (fun g => ?_)
            · rw [if_pos (show q668.1 = 0 from g)] at h
              refine q_iinc (lv' := [(6, qi (x6 + 1)), (8, qi q664.1), (7, qi (x6 * 10)), (0, qr 9), (1, qi x1), (2, qi x2), (3, qi x3), (4, qi x4), (5, qi x5)]) dX6_firstMetre_130 (by decide) rfl rfl rfl ?_
              refine q_goto (pc' := 30) dX6_firstMetre_133 (by decide) ?_
              exact q_pick [3, 4, 5, 6, 7, 8, 0] rfl (ih x1 x2 x3 x4 x5 (x6 + 1) _ _ h hE hR)
            · rw [if_neg (show ¬ (q668.1 = 0) from g)] at h
              refine q_iload dX6_firstMetre_127 rfl rfl ?_
              cases h
              exact q_ireturn dX6_firstMetre_129 rfl (hR _ rfl)
          · rw [if_neg (show ¬ (q664.1 ≤ (x6 * 10)) from g)] at h
            refine q_iload dX6_firstMetre_93 rfl rfl ?_
            refine q_iconst dX6_firstMetre_95 rfl rfl ?_
            refine q_isub dX6_firstMetre_96 rfl ?_
            refine q_bipush dX6_firstMetre_97 (by decide) rfl ?_
            obtain ⟨c671, h⟩ := qk_some h
            refine q_idiv dX6_firstMetre_99 (qRb_R c671) ⟨by decide, by decide⟩ (by decide) rfl ?_
            refine q_istore (lv' := [(6, qi (Int.tdiv (q664.1 - 1) 10)), (8, qi q664.1), (7, qi (x6 * 10)), (0, qr 9), (1, qi x1), (2, qi x2), (3, qi x3), (4, qi x4), (5, qi x5)]) dX6_firstMetre_100 (by decide) rfl rfl ?_
            refine q_goto (pc' := 130) dX6_firstMetre_102 (by decide) ?_
            refine q_iinc (lv' := [(6, qi ((Int.tdiv (q664.1 - 1) 10) + 1)), (8, qi q664.1), (7, qi (x6 * 10)), (0, qr 9), (1, qi x1), (2, qi x2), (3, qi x3), (4, qi x4), (5, qi x5)]) dX6_firstMetre_130 (by decide) rfl rfl rfl ?_
            refine q_goto (pc' := 30) dX6_firstMetre_133 (by decide) ?_
            exact q_pick [3, 4, 5, 6, 7, 8, 0] rfl (ih x1 x2 x3 x4 x5 ((Int.tdiv (q664.1 - 1) 10) + 1) _ _ h hE hR)
        · rw [if_neg (show ¬ (x5 ≤ ((S 46 (Int.toNat x6)) + x4)) from g)] at h
          refine q_goto (pc' := 130) dX6_firstMetre_63 (by decide) ?_
          refine q_iinc (lv' := [(6, qi (x6 + 1)), (0, qr 9), (1, qi x1), (2, qi x2), (3, qi x3), (4, qi x4), (5, qi x5)]) dX6_firstMetre_130 (by decide) rfl rfl rfl ?_
          refine q_goto (pc' := 30) dX6_firstMetre_133 (by decide) ?_
          exact q_pick [1, 2, 3, 4, 5, 6, 0] rfl (ih x1 x2 x3 x4 x5 (x6 + 1) _ _ h hE hR)
set_option maxRecDepth 20000 in
theorem Search_firstMetre_ok {X : qX} (hL : ∀ c, c < 93 → c ∈ qLs X) (d : Nat) (a1 : Int) (a2 : Int) (a3 : Int) (S : qSto) (o : (Int × qSto)) (h : Search_firstMetre a1 a2 a3 S = some o) (Q : Option qV → qSto → Prop) (hQ : Q (some (qi o.1)) o.2) : qC X (d + 3) yX6_firstMetre cX6_firstMetre 9 (some .int) [qr 9, qi a1, qi a2, qi a3] S Q := by
  refine q_entry (lv := [(0, qr 9), (1, qi a1), (2, qi a2), (3, qi a3)]) pn_X6 (Nat.le_of_ble_eq_true rfl) rfl ?_
  unfold Search_firstMetre at h
  refine q_aload_n dX6_firstMetre_0 rfl rfl ?_
  refine q_getA dX6_firstMetre_1 fl_X6_19 (hL 9 (by decide)) sh_9 (by decide) rfl rfl ?_
  refine q_iload_n dX6_firstMetre_4 rfl rfl ?_
  refine q_aload_n dX6_firstMetre_5 rfl rfl ?_
  refine q_getA dX6_firstMetre_6 fl_X6_23 (hL 9 (by decide)) sh_9 (by decide) rfl rfl ?_
  refine q_getI dX6_firstMetre_9 fl_X6_63 (hL 8 (by decide)) sh_8 (by decide) rfl rfl ?_
  obtain ⟨q654, h655, h⟩ := Option.bind_eq_some_iff.mp h
  refine q_callVi (as := [qi a2, qi (S 8 5)]) (c := 5) dX6_firstMetre_12 ml_X6_78 rfl rfl (hL 5 (by decide)) sh_5 rfl rfl (Nat.le_of_ble_eq_true rfl) (Waters_lowest_ok hL (d + 1) a2 (S 8 5) _ _ h655) rfl ?_
  refine q_istore (lv' := [(4, qi q654.1), (0, qr 9), (1, qi a1), (2, qi a2), (3, qi a3)]) dX6_firstMetre_15 (by decide) rfl rfl ?_
  refine q_aload_n dX6_firstMetre_17 rfl rfl ?_
  refine q_getA dX6_firstMetre_18 fl_X6_15 (hL 9 (by decide)) sh_9 (by decide) rfl rfl ?_
  refine q_iload_n dX6_firstMetre_21 rfl rfl ?_
  obtain ⟨q656, h657, h⟩ := Option.bind_eq_some_iff.mp h
  refine q_callVi (as := [qi a1]) (c := 2) dX6_firstMetre_22 ml_X6_83 rfl rfl (hL 2 (by decide)) sh_2 rfl rfl (Nat.le_of_ble_eq_true rfl) (Told_waterNeededBy_ok hL (d + 1) a1 _ _ h657) rfl ?_
  refine q_istore (lv' := [(5, qi q656.1), (4, qi q654.1), (0, qr 9), (1, qi a1), (2, qi a2), (3, qi a3)]) dX6_firstMetre_25 (by decide) rfl rfl ?_
  refine q_iconst dX6_firstMetre_27 rfl rfl ?_
  refine q_istore (lv' := [(6, qi 0), (5, qi q656.1), (4, qi q654.1), (0, qr 9), (1, qi a1), (2, qi a2), (3, qi a3)]) dX6_firstMetre_28 (by decide) rfl rfl ?_
  obtain ⟨q672, h673, h⟩ := Option.bind_eq_some_iff.mp h
  refine q_pick [3, 4, 5, 6, 2, 1, 0] rfl (Search_firstMetre_L30_ok hL d qF a1 a2 a3 q654.1 q656.1 0 _ _ h673 (fun t674 e3777 => ?_) (fun w e3777 => ?_))
  · subst e3777
    simp only [Sum.elim_inl] at h
    refine q_iconst dX6_firstMetre_136 rfl rfl ?_
    cases h
    exact q_ireturn dX6_firstMetre_137 rfl hQ
  · subst e3777
    simp only [Sum.elim_inr] at h
    cases h
    exact hQ
set_option maxRecDepth 20000 in
theorem Search_find_L33_ok {X : qX} (hL : ∀ c, c < 93 → c ∈ qLs X) (d : Nat) {Q : Option qV → qSto → Prop} : ∀ (n : Nat) (x1 : Int) (x3 : Int) (x4 : Int) (x5 : Int) (S : qSto) (o : (qSto ⊕ (Int × qSto))), Search_find_L33 n x1 x4 x5 S = some o → (∀ t, o = Sum.inl t → qW X (d + 4) yX6_find cX6_find 8 (some .boolean) 139 [(0, qr 9), (1, qi x1), (3, qi x3), (4, qi x4)] [] t Q) → (∀ w, o = Sum.inr w → Q (some (qi w.1)) w.2) → qW X (d + 4) yX6_find cX6_find 8 (some .boolean) 33 [(0, qr 9), (1, qi x1), (3, qi x3), (4, qi x4), (5, qi x5)] [] S Q := by
  intro n
  induction n with
  | zero =>
    intro x1 x3 x4 x5 S o h
    simp [Search_find_L33] at h
  | succ n ih =>
    intro x1 x3 x4 x5 S o h hE hR
    rw [Search_find_L33] at h
    refine q_iload dX6_find_33 rfl rfl ?_
    refine q_sipush dX6_find_35 (by decide) rfl ?_
    obtain ⟨c647, h⟩ := qk_some h
    refine q_icmp_ge (tgt := 139) dX6_find_38 (by decide) rfl (qRb_R c647) ⟨by decide, by decide⟩ (fun g => ?_) (fun g => ?_)
    · rw [if_pos (show 336 ≤ x5 from g)] at h
      cases h
      exact q_pick [0, 1, 2, 3] rfl (hE _ rfl)
    · rw [if_neg (show ¬ (336 ≤ x5) from g)] at h
      refine q_aload_n dX6_find_41 rfl rfl ?_
      refine q_getA dX6_find_42 fl_X6_23 (hL 9 (by decide)) sh_9 (by decide) rfl rfl ?_
      refine q_iload_n dX6_find_45 rfl rfl ?_
      refine q_iload dX6_find_46 rfl rfl ?_
      refine q_iload dX6_find_48 rfl rfl ?_
      obtain ⟨q648, h649, h⟩ := Option.bind_eq_some_iff.mp h
      refine q_callVi (as := [qi x1, qi x5, qi x4]) (c := 8) dX6_find_50 ml_X6_41 rfl rfl (hL 8 (by decide)) sh_8 rfl rfl (Nat.le_of_ble_eq_true rfl) (Laws_ofTime_ok hL d x1 x5 x4 _ _ h649) rfl ?_
      obtain ⟨c650, h⟩ := qk_some h
      refine q_if_eq (tgt := 59) dX6_find_53 (by decide) rfl (qRb_R c650)  (fun g => ?_) (fun g => ?_)
      · rw [if_pos (show q648.1 = 0 from g)] at h
        refine q_aload_n dX6_find_59 rfl rfl ?_
        refine q_getA dX6_find_60 fl_X6_23 (hL 9 (by decide)) sh_9 (by decide) rfl rfl ?_
        refine q_iload dX6_find_63 rfl rfl ?_
        refine q_iload dX6_find_65 rfl rfl ?_
        obtain ⟨q651, h652, h⟩ := Option.bind_eq_some_iff.mp h
        refine q_callVi (as := [qi x5, qi x4]) (c := 8) dX6_find_67 ml_X6_47 rfl rfl (hL 8 (by decide)) sh_8 rfl rfl (Nat.le_of_ble_eq_true rfl) (Laws_firstShort_ok hL (d + 2) x5 x4 _ _ h652) rfl ?_
        refine q_istore (lv' := [(6, qi q651.1), (0, qr 9), (1, qi x1), (3, qi x3), (4, qi x4), (5, qi x5)]) dX6_find_70 (by decide) rfl rfl ?_
        refine q_iload dX6_find_72 rfl rfl ?_
        refine q_iconst dX6_find_74 rfl rfl ?_
        obtain ⟨c653, h⟩ := qk_some h
        refine q_icmp_eq (tgt := 85) dX6_find_75 (by decide) rfl (qRb_R c653) ⟨by decide, by decide⟩ (fun g => ?_) (fun g => ?_)
        · rw [if_pos (show q651.1 = (-1) from g)] at h
          refine q_aload_n dX6_find_85 rfl rfl ?_
          refine q_iload_n dX6_find_86 rfl rfl ?_
          refine q_iload dX6_find_87 rfl rfl ?_
          refine q_iload dX6_find_89 rfl rfl ?_
          obtain ⟨q675, h676, h⟩ := Option.bind_eq_some_iff.mp h
          refine q_callVi (as := [qi x1, qi x5, qi x4]) (c := 9) dX6_find_91 ml_X6_50 rfl rfl (hL 9 (by decide)) sh_9 rfl rfl (Nat.le_of_ble_eq_true rfl) (Search_firstMetre_ok hL d x1 x5 x4 _ _ h676) rfl ?_
          refine q_istore (lv' := [(7, qi q675.1), (6, qi q651.1), (0, qr 9), (1, qi x1), (3, qi x3), (4, qi x4), (5, qi x5)]) dX6_find_94 (by decide) rfl rfl ?_
          refine q_iload dX6_find_96 rfl rfl ?_
          refine q_iconst dX6_find_98 rfl rfl ?_
          obtain ⟨c677, h⟩ := qk_some h
          refine q_icmp_eq (tgt := 133) dX6_find_99 (by decide) rfl (qRb_R c677) ⟨by decide, by decide⟩ (fun g => ?_) (fun g => ?_)
          · rw [if_pos (show q675.1 = (-1) from g)] at h
            refine q_iinc (lv' := [(5, qi (x5 + 1)), (7, qi q675.1), (6, qi q651.1), (0, qr 9), (1, qi x1), (3, qi x3), (4, qi x4)]) dX6_find_133 (by decide) rfl rfl rfl ?_
            refine q_goto (pc' := 33) dX6_find_136 (by decide) ?_
            exact q_pick [3, 4, 5, 6, 0] rfl (ih x1 x3 x4 (x5 + 1) _ _ h hE hR)
          · rw [if_neg (show ¬ (q675.1 = (-1)) from g)] at h
            refine q_aload_n dX6_find_102 rfl rfl ?_
            refine q_iload dX6_find_103 rfl rfl ?_
            refine q_putI dX6_find_105 fl_X6_53 (hL 9 (by decide)) sh_9 (by decide) pf_6_5 pt_6_5 rfl rfl ?_
            refine q_aload_n dX6_find_108 rfl rfl ?_
            refine q_iload dX6_find_109 rfl rfl ?_
            refine q_putI dX6_find_111 fl_X6_57 (hL 9 (by decide)) sh_9 (by decide) pf_6_6 pt_6_6 rfl rfl ?_
            refine q_aload_n dX6_find_114 rfl rfl ?_
            refine q_iload dX6_find_115 rfl rfl ?_
            refine q_putI dX6_find_117 fl_X6_60 (hL 9 (by decide)) sh_9 (by decide) pf_6_7 pt_6_7 rfl rfl ?_
            refine q_aload_n dX6_find_120 rfl rfl ?_
            refine q_aload_n dX6_find_121 rfl rfl ?_
            refine q_getA dX6_find_122 fl_X6_23 (hL 9 (by decide)) sh_9 (by decide) rfl rfl ?_
            refine q_getI dX6_find_125 fl_X6_63 (hL 8 (by decide)) sh_8 (by decide) rfl rfl ?_
            refine q_putI dX6_find_128 fl_X6_66 (hL 9 (by decide)) sh_9 (by decide) pf_6_8 pt_6_8 rfl rfl ?_
            refine q_iconst dX6_find_131 rfl rfl ?_
            cases h
            exact q_zreturn dX6_find_132 rfl (by decide) (hR _ rfl)
        · rw [if_neg (show ¬ (q651.1 = (-1)) from g)] at h
          refine q_iload dX6_find_78 rfl rfl ?_
          refine q_istore (lv' := [(5, qi q651.1), (6, qi q651.1), (0, qr 9), (1, qi x1), (3, qi x3), (4, qi x4)]) dX6_find_80 (by decide) rfl rfl ?_
          refine q_goto (pc' := 133) dX6_find_82 (by decide) ?_
          refine q_iinc (lv' := [(5, qi (q651.1 + 1)), (6, qi q651.1), (0, qr 9), (1, qi x1), (3, qi x3), (4, qi x4)]) dX6_find_133 (by decide) rfl rfl rfl ?_
          refine q_goto (pc' := 33) dX6_find_136 (by decide) ?_
          exact q_pick [2, 3, 4, 5, 0] rfl (ih x1 x3 x4 (q651.1 + 1) _ _ h hE hR)
      · rw [if_neg (show ¬ (q648.1 = 0) from g)] at h
        refine q_goto (pc' := 133) dX6_find_56 (by decide) ?_
        refine q_iinc (lv' := [(5, qi (x5 + 1)), (0, qr 9), (1, qi x1), (3, qi x3), (4, qi x4)]) dX6_find_133 (by decide) rfl rfl rfl ?_
        refine q_goto (pc' := 33) dX6_find_136 (by decide) ?_
        exact q_pick [1, 2, 3, 4, 0] rfl (ih x1 x3 x4 (x5 + 1) _ _ h hE hR)
set_option maxRecDepth 20000 in
theorem Search_find_L3_ok {X : qX} (hL : ∀ c, c < 93 → c ∈ qLs X) (d : Nat) {Q : Option qV → qSto → Prop} : ∀ (n : Nat) (x1 : Int) (x3 : Int) (x4 : Int) (S : qSto) (o : (qSto ⊕ (Int × qSto))), Search_find_L3 n x1 x3 x4 S = some o → (∀ t, o = Sum.inl t → qW X (d + 4) yX6_find cX6_find 8 (some .boolean) 145 [] [] t Q) → (∀ w, o = Sum.inr w → Q (some (qi w.1)) w.2) → qW X (d + 4) yX6_find cX6_find 8 (some .boolean) 3 [(0, qr 9), (1, qi x1), (3, qi x3), (4, qi x4)] [] S Q := by
  intro n
  induction n with
  | zero =>
    intro x1 x3 x4 S o h
    simp [Search_find_L3] at h
  | succ n ih =>
    intro x1 x3 x4 S o h hE hR
    rw [Search_find_L3] at h
    refine q_iload dX6_find_3 rfl rfl ?_
    refine q_iload_n dX6_find_5 rfl rfl ?_
    obtain ⟨c610, h⟩ := qk_some h
    obtain ⟨c611, h⟩ := qk_some h
    refine q_icmp_lt (tgt := 145) dX6_find_6 (by decide) rfl (qRb_R c610) (qRb_R c611) (fun g => ?_) (fun g => ?_)
    · rw [if_pos (show x4 < x3 from g)] at h
      cases h
      exact q_pick [] rfl (hE _ rfl)
    · rw [if_neg (show ¬ (x4 < x3) from g)] at h
      refine q_aload_n dX6_find_9 rfl rfl ?_
      refine q_iload_n dX6_find_10 rfl rfl ?_
      refine q_iload dX6_find_11 rfl rfl ?_
      obtain ⟨q642, h643, h⟩ := Option.bind_eq_some_iff.mp h
      refine q_callVi (as := [qi x1, qi x4]) (c := 9) dX6_find_13 ml_X6_31 rfl rfl (hL 9 (by decide)) sh_9 rfl rfl (Nat.le_of_ble_eq_true rfl) (Search_survey_ok hL (d + 1) x1 x4 _ _ h643) rfl ?_
      obtain ⟨c644, h⟩ := qk_some h
      refine q_if_ne (tgt := 22) dX6_find_16 (by decide) rfl (qRb_R c644)  (fun g => ?_) (fun g => ?_)
      · rw [if_neg (show ¬ (q642.1 = 0) from g)] at h
        refine q_aload_n dX6_find_22 rfl rfl ?_
        refine q_getA dX6_find_23 fl_X6_15 (hL 9 (by decide)) sh_9 (by decide) rfl rfl ?_
        refine q_iload_n dX6_find_26 rfl rfl ?_
        refine q_iconst dX6_find_27 rfl rfl ?_
        obtain ⟨q645, h646, h⟩ := Option.bind_eq_some_iff.mp h
        refine q_callVi (as := [qi x1, qi 4]) (c := 2) dX6_find_28 ml_X6_35 rfl rfl (hL 2 (by decide)) sh_2 rfl rfl (Nat.le_of_ble_eq_true rfl) (Told_contractOf_ok hL (d + 3) x1 4 _ _ h646) rfl ?_
        refine q_istore (lv' := [(5, qi q645.1), (0, qr 9), (1, qi x1), (3, qi x3), (4, qi x4)]) dX6_find_31 (by decide) rfl rfl ?_
        obtain ⟨q678, h679, h⟩ := Option.bind_eq_some_iff.mp h
        refine q_pick [1, 2, 3, 4, 0] rfl (Search_find_L33_ok hL d qF x1 x3 x4 q645.1 _ _ h679 (fun t680 e3778 => ?_) (fun w e3778 => ?_))
        · subst e3778
          simp only [Sum.elim_inl] at h
          refine q_iinc (lv' := [(4, qi (x4 + (-1))), (0, qr 9), (1, qi x1), (3, qi x3)]) dX6_find_139 (by decide) rfl rfl rfl ?_
          refine q_goto (pc' := 3) dX6_find_142 (by decide) ?_
          exact q_pick [1, 2, 3, 0] rfl (ih x1 x3 (x4 + (-1)) _ _ h hE hR)
        · subst e3778
          simp only [Sum.elim_inr] at h
          cases h
          exact hR _ rfl
      · rw [if_pos (show q642.1 = 0 from g)] at h
        refine q_goto (pc' := 139) dX6_find_19 (by decide) ?_
        refine q_iinc (lv' := [(4, qi (x4 + (-1))), (0, qr 9), (1, qi x1), (3, qi x3)]) dX6_find_139 (by decide) rfl rfl rfl ?_
        refine q_goto (pc' := 3) dX6_find_142 (by decide) ?_
        exact q_pick [1, 2, 3, 0] rfl (ih x1 x3 (x4 + (-1)) _ _ h hE hR)
set_option maxRecDepth 20000 in
theorem Search_find_ok {X : qX} (hL : ∀ c, c < 93 → c ∈ qLs X) (d : Nat) (a1 : Int) (a2 : Int) (a3 : Int) (S : qSto) (o : (Int × qSto)) (h : Search_find a1 a2 a3 S = some o) (Q : Option qV → qSto → Prop) (hQ : Q (some (qi o.1)) o.2) : qC X (d + 4) yX6_find cX6_find 8 (some .boolean) [qr 9, qi a1, qi a2, qi a3] S Q := by
  refine q_entry (lv := [(0, qr 9), (1, qi a1), (2, qi a2), (3, qi a3)]) pn_X6 (Nat.le_of_ble_eq_true rfl) rfl ?_
  unfold Search_find at h
  refine q_iload_n dX6_find_0 rfl rfl ?_
  refine q_istore (lv' := [(4, qi a2), (0, qr 9), (1, qi a1), (2, qi a2), (3, qi a3)]) dX6_find_1 (by decide) rfl rfl ?_
  obtain ⟨q681, h682, h⟩ := Option.bind_eq_some_iff.mp h
  refine q_pick [1, 2, 4, 0] rfl (Search_find_L3_ok hL d qF a1 a3 a2 _ _ h682 (fun t683 e3779 => ?_) (fun w e3779 => ?_))
  · subst e3779
    simp only [Sum.elim_inl] at h
    refine q_iconst dX6_find_145 rfl rfl ?_
    cases h
    exact q_zreturn dX6_find_146 rfl (by decide) hQ
  · subst e3779
    simp only [Sum.elim_inr] at h
    cases h
    exact hQ
set_option maxRecDepth 20000 in
theorem C_earliest_ok {X : qX} (hL : ∀ c, c < 93 → c ∈ qLs X) (d : Nat) (a1 : Int) (a2 : Int) (a3 : Int) (S : qSto) (o : (Int × qSto)) (h : C_earliest a1 a2 a3 S = some o) (Q : Option qV → qSto → Prop) (hQ : Q (some (qi o.1)) o.2) : qC X (d + 5) yX11_earliest cX11_earliest 5 (some .int) [qr 0, qi a1, qi a2, qi a3] S Q := by
  refine q_entry (lv := [(0, qr 0), (1, qi a1), (2, qi a2), (3, qi a3)]) pn_X11 (Nat.le_of_ble_eq_true rfl) rfl ?_
  unfold C_earliest at h
  refine q_aload_n dX11_earliest_0 rfl rfl ?_
  refine q_iload_n dX11_earliest_1 rfl rfl ?_
  obtain ⟨q600, h601, h⟩ := Option.bind_eq_some_iff.mp h
  refine q_callVi (as := [qi a1]) (c := 0) dX11_earliest_2 ml_X11_216 rfl rfl (hL 0 (by decide)) sh_0 rfl rfl (Nat.le_of_ble_eq_true rfl) (C_isShip_ok hL (d + 4) a1 _ _ h601) rfl ?_
  obtain ⟨c602, h⟩ := qk_some h
  refine q_if_eq (tgt := 24) dX11_earliest_5 (by decide) rfl (qRb_R c602)  (fun g => ?_) (fun g => ?_)
  · rw [if_pos (show q600.1 = 0 from g)] at h
    refine q_iconst dX11_earliest_24 rfl rfl ?_
    cases h
    exact q_ireturn dX11_earliest_25 rfl hQ
  · rw [if_neg (show ¬ (q600.1 = 0) from g)] at h
    refine q_iload_n dX11_earliest_8 rfl rfl ?_
    obtain ⟨q603, h604, h⟩ := Option.bind_eq_some_iff.mp h
    refine q_callSi (as := [qi a2]) dX11_earliest_9 ml_X11_245 rfl rfl (Nat.le_of_ble_eq_true rfl) (C_isCraneNumber_ok hL (d + 4) a2 _ _ h604) rfl ?_
    obtain ⟨c605, h⟩ := qk_some h
    refine q_if_eq (tgt := 24) dX11_earliest_12 (by decide) rfl (qRb_R c605)  (fun g => ?_) (fun g => ?_)
    · rw [if_pos (show q603.1 = 0 from g)] at h
      refine q_iconst dX11_earliest_24 rfl rfl ?_
      cases h
      exact q_ireturn dX11_earliest_25 rfl hQ
    · rw [if_neg (show ¬ (q603.1 = 0) from g)] at h
      refine q_iload_n dX11_earliest_15 rfl rfl ?_
      obtain ⟨c606, h⟩ := qk_some h
      refine q_if_lt (tgt := 24) dX11_earliest_16 (by decide) rfl (qRb_R c606)  (fun g => ?_) (fun g => ?_)
      · rw [if_pos (show a3 < 0 from g)] at h
        refine q_iconst dX11_earliest_24 rfl rfl ?_
        cases h
        exact q_ireturn dX11_earliest_25 rfl hQ
      · rw [if_neg (show ¬ (a3 < 0) from g)] at h
        refine q_iload_n dX11_earliest_19 rfl rfl ?_
        refine q_iconst dX11_earliest_20 rfl rfl ?_
        obtain ⟨c607, h⟩ := qk_some h
        refine q_icmp_le (tgt := 26) dX11_earliest_21 (by decide) rfl (qRb_R c607) ⟨by decide, by decide⟩ (fun g => ?_) (fun g => ?_)
        · rw [if_pos (show a3 ≤ 2 from g)] at h
          refine q_aload_n dX11_earliest_26 rfl rfl ?_
          refine q_getA dX11_earliest_27 fl_X11_49 (hL 0 (by decide)) sh_0 (by decide) rfl rfl ?_
          refine q_iload_n dX11_earliest_30 rfl rfl ?_
          obtain ⟨q608, h609, h⟩ := Option.bind_eq_some_iff.mp h
          refine q_callVv (as := [qi a1]) (c := 6) dX11_earliest_31 ml_X11_260 rfl rfl (hL 6 (by decide)) sh_6 rfl rfl (Nat.le_of_ble_eq_true rfl) (Stays_takeUp_ok hL (d + 1) a1 _ _ h609) rfl ?_
          refine q_aload_n dX11_earliest_34 rfl rfl ?_
          refine q_getA dX11_earliest_35 fl_X11_76 (hL 0 (by decide)) sh_0 (by decide) rfl rfl ?_
          refine q_iload_n dX11_earliest_38 rfl rfl ?_
          refine q_iload_n dX11_earliest_39 rfl rfl ?_
          refine q_iload_n dX11_earliest_40 rfl rfl ?_
          obtain ⟨q684, h685, h⟩ := Option.bind_eq_some_iff.mp h
          refine q_callVi (as := [qi a1, qi a2, qi a2]) (c := 9) dX11_earliest_41 ml_X11_281 rfl rfl (hL 9 (by decide)) sh_9 rfl rfl (Nat.le_of_ble_eq_true rfl) (Search_find_ok hL d a1 a2 a2 _ _ h685) rfl ?_
          refine q_istore (lv' := [(4, qi q684.1), (0, qr 0), (1, qi a1), (2, qi a2), (3, qi a3)]) dX11_earliest_44 (by decide) rfl rfl ?_
          refine q_aload_n dX11_earliest_46 rfl rfl ?_
          refine q_getA dX11_earliest_47 fl_X11_49 (hL 0 (by decide)) sh_0 (by decide) rfl rfl ?_
          refine q_iload_n dX11_earliest_50 rfl rfl ?_
          obtain ⟨q686, h687, h⟩ := Option.bind_eq_some_iff.mp h
          refine q_callVv (as := [qi a1]) (c := 6) dX11_earliest_51 ml_X11_267 rfl rfl (hL 6 (by decide)) sh_6 rfl rfl (Nat.le_of_ble_eq_true rfl) (Stays_layBack_ok hL d a1 _ _ h687) rfl ?_
          refine q_iload dX11_earliest_54 rfl rfl ?_
          obtain ⟨c688, h⟩ := qk_some h
          refine q_if_ne (tgt := 62) dX11_earliest_56 (by decide) rfl (qRb_R c688)  (fun g => ?_) (fun g => ?_)
          · rw [if_neg (show ¬ (q684.1 = 0) from g)] at h
            refine q_iload_n dX11_earliest_62 rfl rfl ?_
            obtain ⟨c689, h⟩ := qk_some h
            by_cases e3780 : a3 = 0
            · rw [if_pos e3780] at h
              refine q_lsw (tgt := 88) (off := 25) dX11_earliest_63 (by decide) (qRb_R c689) (by rw [e3780]; rfl) (by decide) ?_
              refine q_aload_n dX11_earliest_88 rfl rfl ?_
              refine q_getA dX11_earliest_89 fl_X11_76 (hL 0 (by decide)) sh_0 (by decide) rfl rfl ?_
              refine q_getI dX11_earliest_92 fl_X11_285 (hL 9 (by decide)) sh_9 (by decide) rfl rfl ?_
              cases h
              exact q_ireturn dX11_earliest_95 rfl hQ
            · rw [if_neg e3780] at h
              by_cases e3781 : a3 = 1
              · rw [if_pos e3781] at h
                refine q_lsw (tgt := 96) (off := 33) dX11_earliest_63 (by decide) (qRb_R c689) (by rw [e3781]; rfl) (by decide) ?_
                refine q_aload_n dX11_earliest_96 rfl rfl ?_
                refine q_getA dX11_earliest_97 fl_X11_76 (hL 0 (by decide)) sh_0 (by decide) rfl rfl ?_
                refine q_getI dX11_earliest_100 fl_X11_288 (hL 9 (by decide)) sh_9 (by decide) rfl rfl ?_
                cases h
                exact q_ireturn dX11_earliest_103 rfl hQ
              · rw [if_neg e3781] at h
                refine q_lsw (tgt := 104) (off := 41) dX11_earliest_63 (by decide) (qRb_R c689) (by simp [Op.lookupswitch.offset, show ¬ (0 = a3) from fun z => e3780 z.symm, show ¬ (1 = a3) from fun z => e3781 z.symm]) (by decide) ?_
                refine q_aload_n dX11_earliest_104 rfl rfl ?_
                refine q_getA dX11_earliest_105 fl_X11_76 (hL 0 (by decide)) sh_0 (by decide) rfl rfl ?_
                refine q_getI dX11_earliest_108 fl_X11_290 (hL 9 (by decide)) sh_9 (by decide) rfl rfl ?_
                cases h
                exact q_ireturn dX11_earliest_111 rfl hQ
          · rw [if_pos (show q684.1 = 0 from g)] at h
            refine q_bipush dX11_earliest_59 (by decide) rfl ?_
            cases h
            exact q_ireturn dX11_earliest_61 rfl hQ
        · rw [if_neg (show ¬ (a3 ≤ 2) from g)] at h
          refine q_iconst dX11_earliest_24 rfl rfl ?_
          cases h
          exact q_ireturn dX11_earliest_25 rfl hQ
set_option maxRecDepth 20000 in
theorem Stays_save_14_L2_ok {X : qX} (hL : ∀ c, c < 93 → c ∈ qLs X) (d : Nat) {Q : Option qV → qSto → Prop} : ∀ (n : Nat) (x2 : Int) (S : qSto) (o : qSto), Stays_save_14_L2 n x2 S = some o → (qW X d yX7_save cX7_save 3 none 51 [] [] o Q) → qW X d yX7_save cX7_save 3 none 2 [(0, qr 6), (1, qr 14), (2, qi x2)] [] S Q := by
  intro n
  induction n with
  | zero =>
    intro x2 S o h
    simp [Stays_save_14_L2] at h
  | succ n ih =>
    intro x2 S o h hE
    rw [Stays_save_14_L2] at h
    refine q_iload_n dX7_save_2 rfl rfl ?_
    refine q_bipush dX7_save_3 (by decide) rfl ?_
    obtain ⟨c699, h⟩ := qk_some h
    refine q_icmp_ge (tgt := 51) dX7_save_5 (by decide) rfl (qRb_R c699) ⟨by decide, by decide⟩ (fun g => ?_) (fun g => ?_)
    · rw [if_pos (show 14 ≤ x2 from g)] at h
      cases h
      exact q_pick [] rfl (hE)
    · rw [if_neg (show ¬ (14 ≤ x2) from g)] at h
      refine q_aload_n dX7_save_8 rfl rfl ?_
      refine q_iload_n dX7_save_9 rfl rfl ?_
      refine q_iconst dX7_save_10 rfl rfl ?_
      refine q_imul dX7_save_11 rfl ?_
      refine q_aload_n dX7_save_12 rfl rfl ?_
      refine q_getA dX7_save_13 fl_X7_9 (hL 6 (by decide)) sh_6 (by decide) rfl rfl ?_
      refine q_iload_n dX7_save_16 rfl rfl ?_
      obtain ⟨c700, h⟩ := qk_some h
      refine q_iaload dX7_save_17 (hL 37 (by decide)) sh_37 (qIx_0 c700) (qIx_1 c700) rfl ?_
      obtain ⟨c701, h⟩ := qk_some h
      refine q_iastore dX7_save_18 (hL 14 (by decide)) sh_14 (qIx_0 c701) (qIx_1 c701) rfl ?_
      refine q_aload_n dX7_save_19 rfl rfl ?_
      refine q_iload_n dX7_save_20 rfl rfl ?_
      refine q_iconst dX7_save_21 rfl rfl ?_
      refine q_imul dX7_save_22 rfl ?_
      refine q_iconst dX7_save_23 rfl rfl ?_
      refine q_iadd dX7_save_24 rfl ?_
      refine q_aload_n dX7_save_25 rfl rfl ?_
      refine q_getA dX7_save_26 fl_X7_18 (hL 6 (by decide)) sh_6 (by decide) rfl rfl ?_
      refine q_iload_n dX7_save_29 rfl rfl ?_
      obtain ⟨c702, h⟩ := qk_some h
      refine q_iaload dX7_save_30 (hL 39 (by decide)) sh_39 (qIx_0 c702) (qIx_1 c702) rfl ?_
      obtain ⟨c703, h⟩ := qk_some h
      refine q_iastore dX7_save_31 (hL 14 (by decide)) sh_14 (qIx_0 c703) (qIx_1 c703) rfl ?_
      refine q_aload_n dX7_save_32 rfl rfl ?_
      refine q_iload_n dX7_save_33 rfl rfl ?_
      refine q_iconst dX7_save_34 rfl rfl ?_
      refine q_imul dX7_save_35 rfl ?_
      refine q_iconst dX7_save_36 rfl rfl ?_
      refine q_iadd dX7_save_37 rfl ?_
      refine q_aload_n dX7_save_38 rfl rfl ?_
      refine q_getA dX7_save_39 fl_X7_21 (hL 6 (by decide)) sh_6 (by decide) rfl rfl ?_
      refine q_iload_n dX7_save_42 rfl rfl ?_
      obtain ⟨c704, h⟩ := qk_some h
      refine q_iaload dX7_save_43 (hL 40 (by decide)) sh_40 (qIx_0 c704) (qIx_1 c704) rfl ?_
      obtain ⟨c705, h⟩ := qk_some h
      refine q_iastore dX7_save_44 (hL 14 (by decide)) sh_14 (qIx_0 c705) (qIx_1 c705) rfl ?_
      refine q_iinc (lv' := [(2, qi (x2 + 1)), (0, qr 6), (1, qr 14)]) dX7_save_45 (by decide) rfl rfl rfl ?_
      refine q_goto (pc' := 2) dX7_save_48 (by decide) ?_
      exact q_pick [1, 2, 0] rfl (ih (x2 + 1) _ _ h hE)
set_option maxRecDepth 20000 in
theorem Stays_save_14_ok {X : qX} (hL : ∀ c, c < 93 → c ∈ qLs X) (d : Nat) (S : qSto) (o : qSto) (h : Stays_save_14 S = some o) (Q : Option qV → qSto → Prop) (hQ : Q none o) : qC X d yX7_save cX7_save 3 none [qr 6, qr 14] S Q := by
  refine q_entry (lv := [(0, qr 6), (1, qr 14)]) pn_X7 (Nat.le_of_ble_eq_true rfl) rfl ?_
  unfold Stays_save_14 at h
  refine q_iconst dX7_save_0 rfl rfl ?_
  refine q_istore_n (lv' := [(2, qi 0), (0, qr 6), (1, qr 14)]) dX7_save_1 (by decide) rfl rfl ?_
  obtain ⟨q706, h707, h⟩ := Option.bind_eq_some_iff.mp h
  refine q_pick [1, 2, 0] rfl (Stays_save_14_L2_ok hL d qF 0 _ _ h707 ?_)
  cases h
  exact q_return dX7_save_51 rfl hQ
set_option maxRecDepth 20000 in
theorem History_keep_14_ok {X : qX} (hL : ∀ c, c < 93 → c ∈ qLs X) (d : Nat) (S : qSto) (o : qSto) (h : History_keep_14 S = some o) (Q : Option qV → qSto → Prop) (hQ : Q none o) : qC X d yX2_keep cX2_keep 3 none [qr 12, qr 14] S Q := by
  refine q_entry (lv := [(0, qr 12), (1, qr 14)]) pn_X2 (Nat.le_of_ble_eq_true rfl) rfl ?_
  unfold History_keep_14 at h
  refine q_aload_n dX2_keep_0 rfl rfl ?_
  refine q_getI dX2_keep_1 fl_X2_26 (hL 12 (by decide)) sh_12 (by decide) rfl rfl ?_
  refine q_aload_n dX2_keep_4 rfl rfl ?_
  refine q_getI dX2_keep_5 fl_X2_19 (hL 12 (by decide)) sh_12 (by decide) rfl rfl ?_
  refine q_iadd dX2_keep_8 rfl ?_
  refine q_bipush dX2_keep_9 (by decide) rfl ?_
  obtain ⟨c712, h⟩ := qk_some h
  refine q_irem dX2_keep_11 (qRb_R c712) ⟨by decide, by decide⟩ (by decide) rfl ?_
  refine q_istore_n (lv' := [(2, qi (Int.tmod ((S 12 1) + (S 12 2)) 12)), (0, qr 12), (1, qr 14)]) dX2_keep_12 (by decide) rfl rfl ?_
  refine q_aload_n dX2_keep_13 rfl rfl ?_
  refine q_iconst dX2_keep_14 rfl rfl ?_
  refine q_aload_n dX2_keep_15 rfl rfl ?_
  refine q_getA dX2_keep_16 fl_X2_11 (hL 12 (by decide)) sh_12 (by decide) rfl rfl ?_
  refine q_iload_n dX2_keep_19 rfl rfl ?_
  obtain ⟨c713, h⟩ := qk_some h
  refine q_aaload dX2_keep_20 (hL 51 (by decide)) sh_51 (qIx_0 c713) (qIx_1 c713) rfl ?_
  refine q_iconst dX2_keep_21 rfl rfl ?_
  refine q_bipush dX2_keep_22 (by decide) rfl ?_
  obtain ⟨c714, h⟩ := qk_some h
  refine q_copy dX2_keep_24 cw_X2_29 (hL 14 (by decide)) (hL _ (qAr_L c714)) sh_14 (qAr_S c714) (by decide) (by decide) (by decide) (by decide) (by decide) (Nat.le_of_ble_eq_true rfl) rfl ?_
  refine q_aload_n dX2_keep_27 rfl rfl ?_
  refine q_getI dX2_keep_28 fl_X2_19 (hL 12 (by decide)) sh_12 (by decide) rfl rfl ?_
  refine q_bipush dX2_keep_31 (by decide) rfl ?_
  obtain ⟨c715, h⟩ := qk_some h
  refine q_icmp_ne (tgt := 52) dX2_keep_33 (by decide) rfl (qRb_R c715) ⟨by decide, by decide⟩ (fun g => ?_) (fun g => ?_)
  · rw [if_neg (show ¬ (((qua S (qrf 51 (Int.toNat (Int.tmod ((S 12 1) + (S 12 2)) 12))) (qcpy S 14 (qrf 51 (Int.toNat (Int.tmod ((S 12 1) + (S 12 2)) 12))) 0 0 42)) 12 2) = 12) from g)] at h
    refine q_aload_n dX2_keep_52 rfl rfl ?_
    refine q_dupA dX2_keep_53 rfl ?_
    refine q_getI dX2_keep_54 fl_X2_19 (hL 12 (by decide)) sh_12 (by decide) rfl rfl ?_
    refine q_iconst dX2_keep_57 rfl rfl ?_
    refine q_iadd dX2_keep_58 rfl ?_
    refine q_putI dX2_keep_59 fl_X2_19 (hL 12 (by decide)) sh_12 (by decide) pf_2_2 pt_2_2 rfl rfl ?_
    cases h
    exact q_return dX2_keep_62 rfl hQ
  · rw [if_pos (show ((qua S (qrf 51 (Int.toNat (Int.tmod ((S 12 1) + (S 12 2)) 12))) (qcpy S 14 (qrf 51 (Int.toNat (Int.tmod ((S 12 1) + (S 12 2)) 12))) 0 0 42)) 12 2) = 12 from g)] at h
    refine q_aload_n dX2_keep_36 rfl rfl ?_
    refine q_aload_n dX2_keep_37 rfl rfl ?_
    refine q_getI dX2_keep_38 fl_X2_26 (hL 12 (by decide)) sh_12 (by decide) rfl rfl ?_
    refine q_iconst dX2_keep_41 rfl rfl ?_
    refine q_iadd dX2_keep_42 rfl ?_
    refine q_bipush dX2_keep_43 (by decide) rfl ?_
    obtain ⟨c716, h⟩ := qk_some h
    refine q_irem dX2_keep_45 (qRb_R c716) ⟨by decide, by decide⟩ (by decide) rfl ?_
    refine q_putI dX2_keep_46 fl_X2_26 (hL 12 (by decide)) sh_12 (by decide) pf_2_1 pt_2_1 rfl rfl ?_
    refine q_goto (pc' := 62) dX2_keep_49 (by decide) ?_
    cases h
    exact q_return dX2_keep_62 rfl hQ
set_option maxRecDepth 20000 in
theorem C_keepAct_ok {X : qX} (hL : ∀ c, c < 93 → c ∈ qLs X) (d : Nat) (S : qSto) (o : qSto) (h : C_keepAct S = some o) (Q : Option qV → qSto → Prop) (hQ : Q none o) : qC X (d + 1) yX11_keepAct cX11_keepAct 1 none [qr 0] S Q := by
  refine q_entry (lv := [(0, qr 0)]) pn_X11 (Nat.le_of_ble_eq_true rfl) rfl ?_
  unfold C_keepAct at h
  refine q_aload_n dX11_keepAct_0 rfl rfl ?_
  refine q_getA dX11_keepAct_1 fl_X11_99 (hL 0 (by decide)) sh_0 (by decide) rfl rfl ?_
  refine q_aload_n dX11_keepAct_4 rfl rfl ?_
  refine q_getA dX11_keepAct_5 fl_X11_110 (hL 0 (by decide)) sh_0 (by decide) rfl rfl ?_
  obtain ⟨q717, h718, h⟩ := Option.bind_eq_some_iff.mp h
  refine q_callVv (as := [qr 14]) (c := 12) dX11_keepAct_8 ml_X11_306 rfl rfl (hL 12 (by decide)) sh_12 rfl rfl (Nat.le_of_ble_eq_true rfl) (History_keep_14_ok hL d _ _ h718) rfl ?_
  refine q_aload_n dX11_keepAct_11 rfl rfl ?_
  refine q_getA dX11_keepAct_12 fl_X11_92 (hL 0 (by decide)) sh_0 (by decide) rfl rfl ?_
  refine q_iconst dX11_keepAct_15 rfl rfl ?_
  refine q_putZ dX11_keepAct_16 fl_X11_136 (hL 11 (by decide)) sh_11 (by decide) pf_1_3 pt_1_3 rfl (by decide) rfl ?_
  cases h
  exact q_return dX11_keepAct_19 rfl hQ
set_option maxRecDepth 20000 in
theorem C_refusal_ok {X : qX} (hL : ∀ c, c < 93 → c ∈ qLs X) (d : Nat) (a0 : Int) (S : qSto) (o : (Int × qSto)) (h : C_refusal a0 S = some o) (Q : Option qV → qSto → Prop) (hQ : Q (some (qi o.1)) o.2) : qC X d yX11_refusal cX11_refusal 1 (some .int) [qi a0] S Q := by
  refine q_entry (lv := [(0, qi a0)]) pn_X11 (Nat.le_of_ble_eq_true rfl) rfl ?_
  unfold C_refusal at h
  refine q_iconst dX11_refusal_0 rfl rfl ?_
  refine q_iload_n dX11_refusal_1 rfl rfl ?_
  refine q_isub dX11_refusal_2 rfl ?_
  cases h
  exact q_ireturn dX11_refusal_3 rfl hQ
set_option maxRecDepth 20000 in
theorem C_put_ok {X : qX} (hL : ∀ c, c < 93 → c ∈ qLs X) (d : Nat) (a1 : Int) (a2 : Int) (a3 : Int) (a4 : Int) (S : qSto) (o : (Int × qSto)) (h : C_put a1 a2 a3 a4 S = some o) (Q : Option qV → qSto → Prop) (hQ : Q (some (qi o.1)) o.2) : qC X (d + 5) yX11_put cX11_put 6 (some .int) [qr 0, qi a1, qi a2, qi a3, qi a4] S Q := by
  refine q_entry (lv := [(0, qr 0), (1, qi a1), (2, qi a2), (3, qi a3), (4, qi a4)]) pn_X11 (Nat.le_of_ble_eq_true rfl) rfl ?_
  unfold C_put at h
  refine q_aload_n dX11_put_0 rfl rfl ?_
  refine q_iload_n dX11_put_1 rfl rfl ?_
  obtain ⟨q690, h691, h⟩ := Option.bind_eq_some_iff.mp h
  refine q_callVi (as := [qi a1]) (c := 0) dX11_put_2 ml_X11_216 rfl rfl (hL 0 (by decide)) sh_0 rfl rfl (Nat.le_of_ble_eq_true rfl) (C_isShip_ok hL (d + 4) a1 _ _ h691) rfl ?_
  obtain ⟨c692, h⟩ := qk_some h
  refine q_if_eq (tgt := 19) dX11_put_5 (by decide) rfl (qRb_R c692)  (fun g => ?_) (fun g => ?_)
  · rw [if_pos (show q690.1 = 0 from g)] at h
    refine q_iconst dX11_put_19 rfl rfl ?_
    cases h
    exact q_ireturn dX11_put_20 rfl hQ
  · rw [if_neg (show ¬ (q690.1 = 0) from g)] at h
    refine q_aload_n dX11_put_8 rfl rfl ?_
    refine q_getA dX11_put_9 fl_X11_49 (hL 0 (by decide)) sh_0 (by decide) rfl rfl ?_
    refine q_iload_n dX11_put_12 rfl rfl ?_
    obtain ⟨q693, h694, h⟩ := Option.bind_eq_some_iff.mp h
    refine q_callVi (as := [qi a1]) (c := 6) dX11_put_13 ml_X11_178 rfl rfl (hL 6 (by decide)) sh_6 rfl rfl (Nat.le_of_ble_eq_true rfl) (Stays_has_ok hL (d + 4) a1 _ _ h694) rfl ?_
    obtain ⟨c695, h⟩ := qk_some h
    refine q_if_eq (tgt := 21) dX11_put_16 (by decide) rfl (qRb_R c695)  (fun g => ?_) (fun g => ?_)
    · rw [if_pos (show q693.1 = 0 from g)] at h
      refine q_aload_n dX11_put_21 rfl rfl ?_
      refine q_getA dX11_put_22 fl_X11_67 (hL 0 (by decide)) sh_0 (by decide) rfl rfl ?_
      refine q_iload_n dX11_put_25 rfl rfl ?_
      refine q_iload_n dX11_put_26 rfl rfl ?_
      refine q_iload_n dX11_put_27 rfl rfl ?_
      refine q_iload dX11_put_28 rfl rfl ?_
      obtain ⟨q696, h697, h⟩ := Option.bind_eq_some_iff.mp h
      refine q_callVi (as := [qi a1, qi a2, qi a3, qi a4]) (c := 8) dX11_put_30 ml_X11_263 rfl rfl (hL 8 (by decide)) sh_8 rfl rfl (Nat.le_of_ble_eq_true rfl) (Laws_firstBroken_ok hL d a1 a2 a3 a4 _ _ h697) rfl ?_
      refine q_istore (lv' := [(5, qi q696.1), (0, qr 0), (1, qi a1), (2, qi a2), (3, qi a3), (4, qi a4)]) dX11_put_33 (by decide) rfl rfl ?_
      refine q_iload dX11_put_35 rfl rfl ?_
      obtain ⟨c698, h⟩ := qk_some h
      refine q_if_eq (tgt := 46) dX11_put_37 (by decide) rfl (qRb_R c698)  (fun g => ?_) (fun g => ?_)
      · rw [if_pos (show q696.1 = 0 from g)] at h
        refine q_aload_n dX11_put_46 rfl rfl ?_
        refine q_getA dX11_put_47 fl_X11_49 (hL 0 (by decide)) sh_0 (by decide) rfl rfl ?_
        refine q_aload_n dX11_put_50 rfl rfl ?_
        refine q_getA dX11_put_51 fl_X11_110 (hL 0 (by decide)) sh_0 (by decide) rfl rfl ?_
        obtain ⟨q708, h709, h⟩ := Option.bind_eq_some_iff.mp h
        refine q_callVv (as := [qr 14]) (c := 6) dX11_put_54 ml_X11_295 rfl rfl (hL 6 (by decide)) sh_6 rfl rfl (Nat.le_of_ble_eq_true rfl) (Stays_save_14_ok hL (d + 4) _ _ h709) rfl ?_
        refine q_aload_n dX11_put_57 rfl rfl ?_
        refine q_getA dX11_put_58 fl_X11_49 (hL 0 (by decide)) sh_0 (by decide) rfl rfl ?_
        refine q_iload_n dX11_put_61 rfl rfl ?_
        refine q_iload_n dX11_put_62 rfl rfl ?_
        refine q_iload_n dX11_put_63 rfl rfl ?_
        refine q_iload dX11_put_64 rfl rfl ?_
        obtain ⟨q710, h711, h⟩ := Option.bind_eq_some_iff.mp h
        refine q_callVv (as := [qi a1, qi a2, qi a3, qi a4]) (c := 6) dX11_put_66 ml_X11_299 rfl rfl (hL 6 (by decide)) sh_6 rfl rfl (Nat.le_of_ble_eq_true rfl) (Stays_lay_ok hL (d + 1) a1 a2 a3 a4 _ _ h711) rfl ?_
        refine q_aload_n dX11_put_69 rfl rfl ?_
        obtain ⟨q719, h720, h⟩ := Option.bind_eq_some_iff.mp h
        refine q_callVv (as := []) (c := 0) dX11_put_70 ml_X11_303 rfl rfl (hL 0 (by decide)) sh_0 rfl rfl (Nat.le_of_ble_eq_true rfl) (C_keepAct_ok hL (d + 3) _ _ h720) rfl ?_
        refine q_aload_n dX11_put_73 rfl rfl ?_
        refine q_getA dX11_put_74 fl_X11_49 (hL 0 (by decide)) sh_0 (by decide) rfl rfl ?_
        refine q_getA dX11_put_77 fl_X11_236 (hL 6 (by decide)) sh_6 (by decide) rfl rfl ?_
        refine q_iload_n dX11_put_80 rfl rfl ?_
        obtain ⟨c721, h⟩ := qk_some h
        refine q_iaload dX11_put_81 (hL 42 (by decide)) sh_42 (qIx_0 c721) (qIx_1 c721) rfl ?_
        cases h
        exact q_ireturn dX11_put_82 rfl hQ
      · rw [if_neg (show ¬ (q696.1 = 0) from g)] at h
        refine q_iload dX11_put_40 rfl rfl ?_
        obtain ⟨q722, h723, h⟩ := Option.bind_eq_some_iff.mp h
        refine q_callSi (as := [qi q696.1]) dX11_put_42 ml_X11_292 rfl rfl (Nat.le_of_ble_eq_true rfl) (C_refusal_ok hL (d + 4) q696.1 _ _ h723) rfl ?_
        cases h
        exact q_ireturn dX11_put_45 rfl hQ
    · rw [if_neg (show ¬ (q693.1 = 0) from g)] at h
      refine q_iconst dX11_put_19 rfl rfl ?_
      cases h
      exact q_ireturn dX11_put_20 rfl hQ
set_option maxRecDepth 20000 in
theorem C_layByItself_ok {X : qX} (hL : ∀ c, c < 93 → c ∈ qLs X) (d : Nat) (a1 : Int) (S : qSto) (o : (Int × qSto)) (h : C_layByItself a1 S = some o) (Q : Option qV → qSto → Prop) (hQ : Q (some (qi o.1)) o.2) : qC X (d + 5) yX11_layByItself cX11_layByItself 2 (some .boolean) [qr 0, qi a1] S Q := by
  refine q_entry (lv := [(0, qr 0), (1, qi a1)]) pn_X11 (Nat.le_of_ble_eq_true rfl) rfl ?_
  unfold C_layByItself at h
  refine q_aload_n dX11_layByItself_0 rfl rfl ?_
  refine q_getA dX11_layByItself_1 fl_X11_76 (hL 0 (by decide)) sh_0 (by decide) rfl rfl ?_
  refine q_iload_n dX11_layByItself_4 rfl rfl ?_
  refine q_aload_n dX11_layByItself_5 rfl rfl ?_
  refine q_getA dX11_layByItself_6 fl_X11_16 (hL 0 (by decide)) sh_0 (by decide) rfl rfl ?_
  refine q_iload_n dX11_layByItself_9 rfl rfl ?_
  refine q_bipush dX11_layByItself_10 (by decide) rfl ?_
  obtain ⟨q732, h733, h⟩ := Option.bind_eq_some_iff.mp h
  refine q_callVi (as := [qi a1, qi 8]) (c := 2) dX11_layByItself_12 ml_X11_219 rfl rfl (hL 2 (by decide)) sh_2 rfl rfl (Nat.le_of_ble_eq_true rfl) (Told_contractOf_ok hL (d + 4) a1 8 _ _ h733) rfl ?_
  refine q_aload_n dX11_layByItself_15 rfl rfl ?_
  refine q_getA dX11_layByItself_16 fl_X11_16 (hL 0 (by decide)) sh_0 (by decide) rfl rfl ?_
  refine q_iload_n dX11_layByItself_19 rfl rfl ?_
  refine q_bipush dX11_layByItself_20 (by decide) rfl ?_
  obtain ⟨q734, h735, h⟩ := Option.bind_eq_some_iff.mp h
  refine q_callVi (as := [qi a1, qi 7]) (c := 2) dX11_layByItself_22 ml_X11_219 rfl rfl (hL 2 (by decide)) sh_2 rfl rfl (Nat.le_of_ble_eq_true rfl) (Told_contractOf_ok hL (d + 4) a1 7 _ _ h735) rfl ?_
  obtain ⟨q736, h737, h⟩ := Option.bind_eq_some_iff.mp h
  refine q_callVi (as := [qi a1, qi q732.1, qi q734.1]) (c := 9) dX11_layByItself_25 ml_X11_281 rfl rfl (hL 9 (by decide)) sh_9 rfl rfl (Nat.le_of_ble_eq_true rfl) (Search_find_ok hL d a1 q732.1 q734.1 _ _ h737) rfl ?_
  obtain ⟨c738, h⟩ := qk_some h
  refine q_if_ne (tgt := 33) dX11_layByItself_28 (by decide) rfl (qRb_R c738)  (fun g => ?_) (fun g => ?_)
  · rw [if_neg (show ¬ (q736.1 = 0) from g)] at h
    refine q_aload_n dX11_layByItself_33 rfl rfl ?_
    refine q_getA dX11_layByItself_34 fl_X11_49 (hL 0 (by decide)) sh_0 (by decide) rfl rfl ?_
    refine q_iload_n dX11_layByItself_37 rfl rfl ?_
    refine q_aload_n dX11_layByItself_38 rfl rfl ?_
    refine q_getA dX11_layByItself_39 fl_X11_76 (hL 0 (by decide)) sh_0 (by decide) rfl rfl ?_
    refine q_getI dX11_layByItself_42 fl_X11_288 (hL 9 (by decide)) sh_9 (by decide) rfl rfl ?_
    refine q_aload_n dX11_layByItself_45 rfl rfl ?_
    refine q_getA dX11_layByItself_46 fl_X11_76 (hL 0 (by decide)) sh_0 (by decide) rfl rfl ?_
    refine q_getI dX11_layByItself_49 fl_X11_285 (hL 9 (by decide)) sh_9 (by decide) rfl rfl ?_
    refine q_aload_n dX11_layByItself_52 rfl rfl ?_
    refine q_getA dX11_layByItself_53 fl_X11_76 (hL 0 (by decide)) sh_0 (by decide) rfl rfl ?_
    refine q_getI dX11_layByItself_56 fl_X11_312 (hL 9 (by decide)) sh_9 (by decide) rfl rfl ?_
    obtain ⟨q739, h740, h⟩ := Option.bind_eq_some_iff.mp h
    refine q_callVv (as := [qi a1, qi (q736.2 9 5), qi (q736.2 9 6), qi (q736.2 9 7)]) (c := 6) dX11_layByItself_59 ml_X11_299 rfl rfl (hL 6 (by decide)) sh_6 rfl rfl (Nat.le_of_ble_eq_true rfl) (Stays_lay_ok hL (d + 1) a1 (q736.2 9 5) (q736.2 9 6) (q736.2 9 7) _ _ h740) rfl ?_
    refine q_iconst dX11_layByItself_62 rfl rfl ?_
    cases h
    exact q_zreturn dX11_layByItself_63 rfl (by decide) hQ
  · rw [if_pos (show q736.1 = 0 from g)] at h
    refine q_iconst dX11_layByItself_31 rfl rfl ?_
    cases h
    exact q_zreturn dX11_layByItself_32 rfl (by decide) hQ
set_option maxRecDepth 20000 in
theorem C_itself_ok {X : qX} (hL : ∀ c, c < 93 → c ∈ qLs X) (d : Nat) (a1 : Int) (S : qSto) (o : (Int × qSto)) (h : C_itself a1 S = some o) (Q : Option qV → qSto → Prop) (hQ : Q (some (qi o.1)) o.2) : qC X (d + 6) yX11_itself cX11_itself 2 (some .int) [qr 0, qi a1] S Q := by
  refine q_entry (lv := [(0, qr 0), (1, qi a1)]) pn_X11 (Nat.le_of_ble_eq_true rfl) rfl ?_
  unfold C_itself at h
  refine q_aload_n dX11_itself_0 rfl rfl ?_
  refine q_iload_n dX11_itself_1 rfl rfl ?_
  obtain ⟨q724, h725, h⟩ := Option.bind_eq_some_iff.mp h
  refine q_callVi (as := [qi a1]) (c := 0) dX11_itself_2 ml_X11_216 rfl rfl (hL 0 (by decide)) sh_0 rfl rfl (Nat.le_of_ble_eq_true rfl) (C_isShip_ok hL (d + 5) a1 _ _ h725) rfl ?_
  obtain ⟨c726, h⟩ := qk_some h
  refine q_if_eq (tgt := 19) dX11_itself_5 (by decide) rfl (qRb_R c726)  (fun g => ?_) (fun g => ?_)
  · rw [if_pos (show q724.1 = 0 from g)] at h
    refine q_iconst dX11_itself_19 rfl rfl ?_
    cases h
    exact q_ireturn dX11_itself_20 rfl hQ
  · rw [if_neg (show ¬ (q724.1 = 0) from g)] at h
    refine q_aload_n dX11_itself_8 rfl rfl ?_
    refine q_getA dX11_itself_9 fl_X11_49 (hL 0 (by decide)) sh_0 (by decide) rfl rfl ?_
    refine q_iload_n dX11_itself_12 rfl rfl ?_
    obtain ⟨q727, h728, h⟩ := Option.bind_eq_some_iff.mp h
    refine q_callVi (as := [qi a1]) (c := 6) dX11_itself_13 ml_X11_178 rfl rfl (hL 6 (by decide)) sh_6 rfl rfl (Nat.le_of_ble_eq_true rfl) (Stays_has_ok hL (d + 5) a1 _ _ h728) rfl ?_
    obtain ⟨c729, h⟩ := qk_some h
    refine q_if_eq (tgt := 21) dX11_itself_16 (by decide) rfl (qRb_R c729)  (fun g => ?_) (fun g => ?_)
    · rw [if_pos (show q727.1 = 0 from g)] at h
      refine q_aload_n dX11_itself_21 rfl rfl ?_
      refine q_getA dX11_itself_22 fl_X11_49 (hL 0 (by decide)) sh_0 (by decide) rfl rfl ?_
      refine q_aload_n dX11_itself_25 rfl rfl ?_
      refine q_getA dX11_itself_26 fl_X11_110 (hL 0 (by decide)) sh_0 (by decide) rfl rfl ?_
      obtain ⟨q730, h731, h⟩ := Option.bind_eq_some_iff.mp h
      refine q_callVv (as := [qr 14]) (c := 6) dX11_itself_29 ml_X11_295 rfl rfl (hL 6 (by decide)) sh_6 rfl rfl (Nat.le_of_ble_eq_true rfl) (Stays_save_14_ok hL (d + 5) _ _ h731) rfl ?_
      refine q_aload_n dX11_itself_32 rfl rfl ?_
      refine q_iload_n dX11_itself_33 rfl rfl ?_
      obtain ⟨q741, h742, h⟩ := Option.bind_eq_some_iff.mp h
      refine q_callVi (as := [qi a1]) (c := 0) dX11_itself_34 ml_X11_309 rfl rfl (hL 0 (by decide)) sh_0 rfl rfl (Nat.le_of_ble_eq_true rfl) (C_layByItself_ok hL d a1 _ _ h742) rfl ?_
      obtain ⟨c743, h⟩ := qk_some h
      refine q_if_ne (tgt := 43) dX11_itself_37 (by decide) rfl (qRb_R c743)  (fun g => ?_) (fun g => ?_)
      · rw [if_neg (show ¬ (q741.1 = 0) from g)] at h
        refine q_aload_n dX11_itself_43 rfl rfl ?_
        obtain ⟨q744, h745, h⟩ := Option.bind_eq_some_iff.mp h
        refine q_callVv (as := []) (c := 0) dX11_itself_44 ml_X11_303 rfl rfl (hL 0 (by decide)) sh_0 rfl rfl (Nat.le_of_ble_eq_true rfl) (C_keepAct_ok hL (d + 4) _ _ h745) rfl ?_
        refine q_aload_n dX11_itself_47 rfl rfl ?_
        refine q_getA dX11_itself_48 fl_X11_49 (hL 0 (by decide)) sh_0 (by decide) rfl rfl ?_
        refine q_getA dX11_itself_51 fl_X11_228 (hL 6 (by decide)) sh_6 (by decide) rfl rfl ?_
        refine q_iload_n dX11_itself_54 rfl rfl ?_
        obtain ⟨c746, h⟩ := qk_some h
        refine q_iaload dX11_itself_55 (hL 39 (by decide)) sh_39 (qIx_0 c746) (qIx_1 c746) rfl ?_
        cases h
        exact q_ireturn dX11_itself_56 rfl hQ
      · rw [if_pos (show q741.1 = 0 from g)] at h
        refine q_bipush dX11_itself_40 (by decide) rfl ?_
        cases h
        exact q_ireturn dX11_itself_42 rfl hQ
    · rw [if_neg (show ¬ (q727.1 = 0) from g)] at h
      refine q_iconst dX11_itself_19 rfl rfl ?_
      cases h
      exact q_ireturn dX11_itself_20 rfl hQ
set_option maxRecDepth 20000 in
theorem C_away_ok {X : qX} (hL : ∀ c, c < 93 → c ∈ qLs X) (d : Nat) (a1 : Int) (S : qSto) (o : (Int × qSto)) (h : C_away a1 S = some o) (Q : Option qV → qSto → Prop) (hQ : Q (some (qi o.1)) o.2) : qC X (d + 3) yX11_away cX11_away 2 (some .boolean) [qr 0, qi a1] S Q := by
  refine q_entry (lv := [(0, qr 0), (1, qi a1)]) pn_X11 (Nat.le_of_ble_eq_true rfl) rfl ?_
  unfold C_away at h
  refine q_aload_n dX11_away_0 rfl rfl ?_
  refine q_iload_n dX11_away_1 rfl rfl ?_
  obtain ⟨q747, h748, h⟩ := Option.bind_eq_some_iff.mp h
  refine q_callVi (as := [qi a1]) (c := 0) dX11_away_2 ml_X11_216 rfl rfl (hL 0 (by decide)) sh_0 rfl rfl (Nat.le_of_ble_eq_true rfl) (C_isShip_ok hL (d + 2) a1 _ _ h748) rfl ?_
  obtain ⟨c749, h⟩ := qk_some h
  refine q_if_eq (tgt := 19) dX11_away_5 (by decide) rfl (qRb_R c749)  (fun g => ?_) (fun g => ?_)
  · rw [if_pos (show q747.1 = 0 from g)] at h
    refine q_iconst dX11_away_19 rfl rfl ?_
    cases h
    exact q_zreturn dX11_away_20 rfl (by decide) hQ
  · rw [if_neg (show ¬ (q747.1 = 0) from g)] at h
    refine q_aload_n dX11_away_8 rfl rfl ?_
    refine q_getA dX11_away_9 fl_X11_49 (hL 0 (by decide)) sh_0 (by decide) rfl rfl ?_
    refine q_iload_n dX11_away_12 rfl rfl ?_
    obtain ⟨q750, h751, h⟩ := Option.bind_eq_some_iff.mp h
    refine q_callVi (as := [qi a1]) (c := 6) dX11_away_13 ml_X11_178 rfl rfl (hL 6 (by decide)) sh_6 rfl rfl (Nat.le_of_ble_eq_true rfl) (Stays_has_ok hL (d + 2) a1 _ _ h751) rfl ?_
    obtain ⟨c752, h⟩ := qk_some h
    refine q_if_ne (tgt := 21) dX11_away_16 (by decide) rfl (qRb_R c752)  (fun g => ?_) (fun g => ?_)
    · rw [if_neg (show ¬ (q750.1 = 0) from g)] at h
      refine q_aload_n dX11_away_21 rfl rfl ?_
      refine q_getA dX11_away_22 fl_X11_49 (hL 0 (by decide)) sh_0 (by decide) rfl rfl ?_
      refine q_aload_n dX11_away_25 rfl rfl ?_
      refine q_getA dX11_away_26 fl_X11_110 (hL 0 (by decide)) sh_0 (by decide) rfl rfl ?_
      obtain ⟨q753, h754, h⟩ := Option.bind_eq_some_iff.mp h
      refine q_callVv (as := [qr 14]) (c := 6) dX11_away_29 ml_X11_295 rfl rfl (hL 6 (by decide)) sh_6 rfl rfl (Nat.le_of_ble_eq_true rfl) (Stays_save_14_ok hL (d + 2) _ _ h754) rfl ?_
      refine q_aload_n dX11_away_32 rfl rfl ?_
      refine q_getA dX11_away_33 fl_X11_49 (hL 0 (by decide)) sh_0 (by decide) rfl rfl ?_
      refine q_iload_n dX11_away_36 rfl rfl ?_
      obtain ⟨q755, h756, h⟩ := Option.bind_eq_some_iff.mp h
      refine q_callVv (as := [qi a1]) (c := 6) dX11_away_37 ml_X11_313 rfl rfl (hL 6 (by decide)) sh_6 rfl rfl (Nat.le_of_ble_eq_true rfl) (Stays_lift_ok hL d a1 _ _ h756) rfl ?_
      refine q_aload_n dX11_away_40 rfl rfl ?_
      obtain ⟨q757, h758, h⟩ := Option.bind_eq_some_iff.mp h
      refine q_callVv (as := []) (c := 0) dX11_away_41 ml_X11_303 rfl rfl (hL 0 (by decide)) sh_0 rfl rfl (Nat.le_of_ble_eq_true rfl) (C_keepAct_ok hL (d + 1) _ _ h758) rfl ?_
      refine q_iconst dX11_away_44 rfl rfl ?_
      cases h
      exact q_zreturn dX11_away_45 rfl (by decide) hQ
    · rw [if_pos (show q750.1 = 0 from g)] at h
      refine q_iconst dX11_away_19 rfl rfl ?_
      cases h
      exact q_zreturn dX11_away_20 rfl (by decide) hQ
set_option maxRecDepth 20000 in
theorem Jm_minL_ok {X : qX} (hL : ∀ c, c < 93 → c ∈ qLs X) (d : Nat) (a0 : Int) (a2 : Int) (S : qSto) (o : (Int × qSto)) (h : Jm_minL a0 a2 S = some o) (Q : Option qV → qSto → Prop) (hQ : Q (some (ql o.1)) o.2) : qC X d yJ9_min_f86c9 cJ9_min_f86c9 4 (some .long) [ql a0, ql a2] S Q := by
  refine q_entryF (lv := [(0, ql a0), (2, ql a2)]) pn_J9_min_f86c9 (Nat.le_of_ble_eq_true rfl) rfl ?_
  unfold Jm_minL at h
  refine q_lload_n dJ9_min_f86c9_0 rfl rfl ?_
  refine q_lload_n dJ9_min_f86c9_1 rfl rfl ?_
  obtain ⟨c769, h⟩ := qk_some h
  obtain ⟨c770, h⟩ := qk_some h
  refine q_lcmp dJ9_min_f86c9_2 (qRLb_R c769) (qRLb_R c770) rfl ?_
  refine q_if_gt (tgt := 10) dJ9_min_f86c9_3 (by decide) rfl (q3_R _ _)  (fun g => ?_) (fun g => ?_)
  · rw [if_pos (show a2 < a0 from (q3_gt _ _).mp g)] at h
    refine q_lload_n dJ9_min_f86c9_10 rfl rfl ?_
    cases h
    exact q_lreturn dJ9_min_f86c9_11 rfl hQ
  · rw [if_neg (show ¬ (a2 < a0) from fun e => g ((q3_gt _ _).mpr e))] at h
    refine q_lload_n dJ9_min_f86c9_6 rfl rfl ?_
    refine q_goto (pc' := 11) dJ9_min_f86c9_7 (by decide) ?_
    cases h
    exact q_lreturn dJ9_min_f86c9_11 rfl hQ
set_option maxRecDepth 20000 in
theorem Jm_maxL_ok {X : qX} (hL : ∀ c, c < 93 → c ∈ qLs X) (d : Nat) (a0 : Int) (a2 : Int) (S : qSto) (o : (Int × qSto)) (h : Jm_maxL a0 a2 S = some o) (Q : Option qV → qSto → Prop) (hQ : Q (some (ql o.1)) o.2) : qC X d yJ9_max_f86c9 cJ9_max_f86c9 4 (some .long) [ql a0, ql a2] S Q := by
  refine q_entryF (lv := [(0, ql a0), (2, ql a2)]) pn_J9_max_f86c9 (Nat.le_of_ble_eq_true rfl) rfl ?_
  unfold Jm_maxL at h
  refine q_lload_n dJ9_max_f86c9_0 rfl rfl ?_
  refine q_lload_n dJ9_max_f86c9_1 rfl rfl ?_
  obtain ⟨c773, h⟩ := qk_some h
  obtain ⟨c774, h⟩ := qk_some h
  refine q_lcmp dJ9_max_f86c9_2 (qRLb_R c773) (qRLb_R c774) rfl ?_
  refine q_if_lt (tgt := 10) dJ9_max_f86c9_3 (by decide) rfl (q3_R _ _)  (fun g => ?_) (fun g => ?_)
  · rw [if_pos (show a0 < a2 from (q3_lt _ _).mp g)] at h
    refine q_lload_n dJ9_max_f86c9_10 rfl rfl ?_
    cases h
    exact q_lreturn dJ9_max_f86c9_11 rfl hQ
  · rw [if_neg (show ¬ (a0 < a2) from fun e => g ((q3_lt _ _).mpr e))] at h
    refine q_lload_n dJ9_max_f86c9_6 rfl rfl ?_
    refine q_goto (pc' := 11) dJ9_max_f86c9_7 (by decide) ?_
    cases h
    exact q_lreturn dJ9_max_f86c9_11 rfl hQ
set_option maxRecDepth 20000 in
theorem C_sum_ok {X : qX} (hL : ∀ c, c < 93 → c ∈ qLs X) (d : Nat) (a0 : Int) (a1 : Int) (S : qSto) (o : (Int × qSto)) (h : C_sum a0 a1 S = some o) (Q : Option qV → qSto → Prop) (hQ : Q (some (qi o.1)) o.2) : qC X (d + 1) yX11_sum cX11_sum 4 (some .int) [qi a0, qi a1] S Q := by
  refine q_entry (lv := [(0, qi a0), (1, qi a1)]) pn_X11 (Nat.le_of_ble_eq_true rfl) rfl ?_
  unfold C_sum at h
  refine q_iload_n dX11_sum_0 rfl rfl ?_
  obtain ⟨c767, h⟩ := qk_some h
  refine q_i2l dX11_sum_1 (qRb_R c767) rfl ?_
  refine q_iload_n dX11_sum_2 rfl rfl ?_
  obtain ⟨c768, h⟩ := qk_some h
  refine q_i2l dX11_sum_3 (qRb_R c768) rfl ?_
  refine q_ladd dX11_sum_4 rfl ?_
  refine q_lstore_n (lv' := [(2, ql (a0 + a1)), (0, qi a0), (1, qi a1)]) dX11_sum_5 (by decide) rfl rfl ?_
  refine q_ldc2 (v := (-100000)) dX11_sum_6 qw_1101 rfl ?_
  refine q_ldc2 (v := 100000) dX11_sum_9 qw_1102 rfl ?_
  refine q_lload_n dX11_sum_12 rfl rfl ?_
  obtain ⟨q771, h772, h⟩ := Option.bind_eq_some_iff.mp h
  refine q_callSl (as := [ql 100000, ql (a0 + a1)]) dX11_sum_13 ml_X11_323 rfl rfl (Nat.le_of_ble_eq_true rfl) (Jm_minL_ok hL d 100000 (a0 + a1) _ _ h772) rfl ?_
  obtain ⟨q775, h776, h⟩ := Option.bind_eq_some_iff.mp h
  refine q_callSl (as := [ql (-100000), ql q771.1]) dX11_sum_16 ml_X11_329 rfl rfl (Nat.le_of_ble_eq_true rfl) (Jm_maxL_ok hL d (-100000) q771.1 _ _ h776) rfl ?_
  refine q_l2i dX11_sum_19 rfl ?_
  cases h
  exact q_ireturn dX11_sum_20 rfl hQ
set_option maxRecDepth 20000 in
theorem C_move_ok {X : qX} (hL : ∀ c, c < 93 → c ∈ qLs X) (d : Nat) (a1 : Int) (a2 : Int) (a3 : Int) (S : qSto) (o : (Int × qSto)) (h : C_move a1 a2 a3 S = some o) (Q : Option qV → qSto → Prop) (hQ : Q (some (qi o.1)) o.2) : qC X (d + 5) yX11_move cX11_move 8 (some .int) [qr 0, qi a1, qi a2, qi a3] S Q := by
  refine q_entry (lv := [(0, qr 0), (1, qi a1), (2, qi a2), (3, qi a3)]) pn_X11 (Nat.le_of_ble_eq_true rfl) rfl ?_
  unfold C_move at h
  refine q_aload_n dX11_move_0 rfl rfl ?_
  refine q_iload_n dX11_move_1 rfl rfl ?_
  obtain ⟨q759, h760, h⟩ := Option.bind_eq_some_iff.mp h
  refine q_callVi (as := [qi a1]) (c := 0) dX11_move_2 ml_X11_216 rfl rfl (hL 0 (by decide)) sh_0 rfl rfl (Nat.le_of_ble_eq_true rfl) (C_isShip_ok hL (d + 4) a1 _ _ h760) rfl ?_
  obtain ⟨c761, h⟩ := qk_some h
  refine q_if_eq (tgt := 27) dX11_move_5 (by decide) rfl (qRb_R c761)  (fun g => ?_) (fun g => ?_)
  · rw [if_pos (show q759.1 = 0 from g)] at h
    refine q_iconst dX11_move_27 rfl rfl ?_
    cases h
    exact q_ireturn dX11_move_28 rfl hQ
  · rw [if_neg (show ¬ (q759.1 = 0) from g)] at h
    refine q_aload_n dX11_move_8 rfl rfl ?_
    refine q_getA dX11_move_9 fl_X11_49 (hL 0 (by decide)) sh_0 (by decide) rfl rfl ?_
    refine q_iload_n dX11_move_12 rfl rfl ?_
    obtain ⟨q762, h763, h⟩ := Option.bind_eq_some_iff.mp h
    refine q_callVi (as := [qi a1]) (c := 6) dX11_move_13 ml_X11_178 rfl rfl (hL 6 (by decide)) sh_6 rfl rfl (Nat.le_of_ble_eq_true rfl) (Stays_has_ok hL (d + 4) a1 _ _ h763) rfl ?_
    obtain ⟨c764, h⟩ := qk_some h
    refine q_if_eq (tgt := 27) dX11_move_16 (by decide) rfl (qRb_R c764)  (fun g => ?_) (fun g => ?_)
    · rw [if_pos (show q762.1 = 0 from g)] at h
      refine q_iconst dX11_move_27 rfl rfl ?_
      cases h
      exact q_ireturn dX11_move_28 rfl hQ
    · rw [if_neg (show ¬ (q762.1 = 0) from g)] at h
      refine q_iload_n dX11_move_19 rfl rfl ?_
      obtain ⟨c765, h⟩ := qk_some h
      refine q_if_ne (tgt := 29) dX11_move_20 (by decide) rfl (qRb_R c765)  (fun g => ?_) (fun g => ?_)
      · rw [if_neg (show ¬ (a2 = 0) from g)] at h
        refine q_aload_n dX11_move_29 rfl rfl ?_
        refine q_getA dX11_move_30 fl_X11_49 (hL 0 (by decide)) sh_0 (by decide) rfl rfl ?_
        refine q_getA dX11_move_33 fl_X11_225 (hL 6 (by decide)) sh_6 (by decide) rfl rfl ?_
        refine q_iload_n dX11_move_36 rfl rfl ?_
        obtain ⟨c766, h⟩ := qk_some h
        refine q_iaload dX11_move_37 (hL 37 (by decide)) sh_37 (qIx_0 c766) (qIx_1 c766) rfl ?_
        refine q_iload_n dX11_move_38 rfl rfl ?_
        obtain ⟨q777, h778, h⟩ := Option.bind_eq_some_iff.mp h
        refine q_callSi (as := [qi (q762.2 37 (Int.toNat a1)), qi a2]) dX11_move_39 ml_X11_316 rfl rfl (Nat.le_of_ble_eq_true rfl) (C_sum_ok hL (d + 3) (q762.2 37 (Int.toNat a1)) a2 _ _ h778) rfl ?_
        refine q_istore (lv' := [(4, qi q777.1), (0, qr 0), (1, qi a1), (2, qi a2), (3, qi a3)]) dX11_move_42 (by decide) rfl rfl ?_
        refine q_aload_n dX11_move_44 rfl rfl ?_
        refine q_getA dX11_move_45 fl_X11_49 (hL 0 (by decide)) sh_0 (by decide) rfl rfl ?_
        refine q_getA dX11_move_48 fl_X11_228 (hL 6 (by decide)) sh_6 (by decide) rfl rfl ?_
        refine q_iload_n dX11_move_51 rfl rfl ?_
        obtain ⟨c779, h⟩ := qk_some h
        refine q_iaload dX11_move_52 (hL 39 (by decide)) sh_39 (qIx_0 c779) (qIx_1 c779) rfl ?_
        refine q_iload_n dX11_move_53 rfl rfl ?_
        obtain ⟨q780, h781, h⟩ := Option.bind_eq_some_iff.mp h
        refine q_callSi (as := [qi (q777.2 39 (Int.toNat a1)), qi a3]) dX11_move_54 ml_X11_316 rfl rfl (Nat.le_of_ble_eq_true rfl) (C_sum_ok hL (d + 3) (q777.2 39 (Int.toNat a1)) a3 _ _ h781) rfl ?_
        refine q_istore (lv' := [(5, qi q780.1), (4, qi q777.1), (0, qr 0), (1, qi a1), (2, qi a2), (3, qi a3)]) dX11_move_57 (by decide) rfl rfl ?_
        refine q_aload_n dX11_move_59 rfl rfl ?_
        refine q_getA dX11_move_60 fl_X11_49 (hL 0 (by decide)) sh_0 (by decide) rfl rfl ?_
        refine q_getA dX11_move_63 fl_X11_231 (hL 6 (by decide)) sh_6 (by decide) rfl rfl ?_
        refine q_iload_n dX11_move_66 rfl rfl ?_
        obtain ⟨c782, h⟩ := qk_some h
        refine q_iaload dX11_move_67 (hL 40 (by decide)) sh_40 (qIx_0 c782) (qIx_1 c782) rfl ?_
        refine q_istore (lv' := [(6, qi (q780.2 40 (Int.toNat a1))), (5, qi q780.1), (4, qi q777.1), (0, qr 0), (1, qi a1), (2, qi a2), (3, qi a3)]) dX11_move_68 (by decide) rfl rfl ?_
        refine q_aload_n dX11_move_70 rfl rfl ?_
        refine q_getA dX11_move_71 fl_X11_49 (hL 0 (by decide)) sh_0 (by decide) rfl rfl ?_
        refine q_aload_n dX11_move_74 rfl rfl ?_
        refine q_getA dX11_move_75 fl_X11_110 (hL 0 (by decide)) sh_0 (by decide) rfl rfl ?_
        obtain ⟨q783, h784, h⟩ := Option.bind_eq_some_iff.mp h
        refine q_callVv (as := [qr 14]) (c := 6) dX11_move_78 ml_X11_295 rfl rfl (hL 6 (by decide)) sh_6 rfl rfl (Nat.le_of_ble_eq_true rfl) (Stays_save_14_ok hL (d + 4) _ _ h784) rfl ?_
        refine q_aload_n dX11_move_81 rfl rfl ?_
        refine q_getA dX11_move_82 fl_X11_49 (hL 0 (by decide)) sh_0 (by decide) rfl rfl ?_
        refine q_iload_n dX11_move_85 rfl rfl ?_
        obtain ⟨q785, h786, h⟩ := Option.bind_eq_some_iff.mp h
        refine q_callVv (as := [qi a1]) (c := 6) dX11_move_86 ml_X11_260 rfl rfl (hL 6 (by decide)) sh_6 rfl rfl (Nat.le_of_ble_eq_true rfl) (Stays_takeUp_ok hL (d + 1) a1 _ _ h786) rfl ?_
        refine q_aload_n dX11_move_89 rfl rfl ?_
        refine q_getA dX11_move_90 fl_X11_67 (hL 0 (by decide)) sh_0 (by decide) rfl rfl ?_
        refine q_iload_n dX11_move_93 rfl rfl ?_
        refine q_iload dX11_move_94 rfl rfl ?_
        refine q_iload dX11_move_96 rfl rfl ?_
        refine q_iload dX11_move_98 rfl rfl ?_
        obtain ⟨q787, h788, h⟩ := Option.bind_eq_some_iff.mp h
        refine q_callVi (as := [qi a1, qi q777.1, qi q780.1, qi (q780.2 40 (Int.toNat a1))]) (c := 8) dX11_move_100 ml_X11_263 rfl rfl (hL 8 (by decide)) sh_8 rfl rfl (Nat.le_of_ble_eq_true rfl) (Laws_firstBroken_ok hL d a1 q777.1 q780.1 (q780.2 40 (Int.toNat a1)) _ _ h788) rfl ?_
        refine q_istore (lv' := [(7, qi q787.1), (6, qi (q780.2 40 (Int.toNat a1))), (5, qi q780.1), (4, qi q777.1), (0, qr 0), (1, qi a1), (2, qi a2), (3, qi a3)]) dX11_move_103 (by decide) rfl rfl ?_
        refine q_iload dX11_move_105 rfl rfl ?_
        obtain ⟨c789, h⟩ := qk_some h
        refine q_if_eq (tgt := 124) dX11_move_107 (by decide) rfl (qRb_R c789)  (fun g => ?_) (fun g => ?_)
        · rw [if_pos (show q787.1 = 0 from g)] at h
          refine q_aload_n dX11_move_124 rfl rfl ?_
          refine q_getA dX11_move_125 fl_X11_49 (hL 0 (by decide)) sh_0 (by decide) rfl rfl ?_
          refine q_iload_n dX11_move_128 rfl rfl ?_
          refine q_iload dX11_move_129 rfl rfl ?_
          refine q_iload dX11_move_131 rfl rfl ?_
          refine q_iload dX11_move_133 rfl rfl ?_
          obtain ⟨q790, h791, h⟩ := Option.bind_eq_some_iff.mp h
          refine q_callVv (as := [qi a1, qi q777.1, qi q780.1, qi (q780.2 40 (Int.toNat a1))]) (c := 6) dX11_move_135 ml_X11_299 rfl rfl (hL 6 (by decide)) sh_6 rfl rfl (Nat.le_of_ble_eq_true rfl) (Stays_lay_ok hL (d + 1) a1 q777.1 q780.1 (q780.2 40 (Int.toNat a1)) _ _ h791) rfl ?_
          refine q_aload_n dX11_move_138 rfl rfl ?_
          obtain ⟨q792, h793, h⟩ := Option.bind_eq_some_iff.mp h
          refine q_callVv (as := []) (c := 0) dX11_move_139 ml_X11_303 rfl rfl (hL 0 (by decide)) sh_0 rfl rfl (Nat.le_of_ble_eq_true rfl) (C_keepAct_ok hL (d + 3) _ _ h793) rfl ?_
          refine q_aload_n dX11_move_142 rfl rfl ?_
          refine q_getA dX11_move_143 fl_X11_49 (hL 0 (by decide)) sh_0 (by decide) rfl rfl ?_
          refine q_getA dX11_move_146 fl_X11_236 (hL 6 (by decide)) sh_6 (by decide) rfl rfl ?_
          refine q_iload_n dX11_move_149 rfl rfl ?_
          obtain ⟨c794, h⟩ := qk_some h
          refine q_iaload dX11_move_150 (hL 42 (by decide)) sh_42 (qIx_0 c794) (qIx_1 c794) rfl ?_
          cases h
          exact q_ireturn dX11_move_151 rfl hQ
        · rw [if_neg (show ¬ (q787.1 = 0) from g)] at h
          refine q_aload_n dX11_move_110 rfl rfl ?_
          refine q_getA dX11_move_111 fl_X11_49 (hL 0 (by decide)) sh_0 (by decide) rfl rfl ?_
          refine q_iload_n dX11_move_114 rfl rfl ?_
          obtain ⟨q795, h796, h⟩ := Option.bind_eq_some_iff.mp h
          refine q_callVv (as := [qi a1]) (c := 6) dX11_move_115 ml_X11_267 rfl rfl (hL 6 (by decide)) sh_6 rfl rfl (Nat.le_of_ble_eq_true rfl) (Stays_layBack_ok hL d a1 _ _ h796) rfl ?_
          refine q_iload dX11_move_118 rfl rfl ?_
          obtain ⟨q797, h798, h⟩ := Option.bind_eq_some_iff.mp h
          refine q_callSi (as := [qi q787.1]) dX11_move_120 ml_X11_292 rfl rfl (Nat.le_of_ble_eq_true rfl) (C_refusal_ok hL (d + 4) q787.1 _ _ h798) rfl ?_
          cases h
          exact q_ireturn dX11_move_123 rfl hQ
      · rw [if_pos (show a2 = 0 from g)] at h
        refine q_iload_n dX11_move_23 rfl rfl ?_
        obtain ⟨c799, h⟩ := qk_some h
        refine q_if_ne (tgt := 29) dX11_move_24 (by decide) rfl (qRb_R c799)  (fun g => ?_) (fun g => ?_)
        · rw [if_neg (show ¬ (a3 = 0) from g)] at h
          refine q_aload_n dX11_move_29 rfl rfl ?_
          refine q_getA dX11_move_30 fl_X11_49 (hL 0 (by decide)) sh_0 (by decide) rfl rfl ?_
          refine q_getA dX11_move_33 fl_X11_225 (hL 6 (by decide)) sh_6 (by decide) rfl rfl ?_
          refine q_iload_n dX11_move_36 rfl rfl ?_
          obtain ⟨c800, h⟩ := qk_some h
          refine q_iaload dX11_move_37 (hL 37 (by decide)) sh_37 (qIx_0 c800) (qIx_1 c800) rfl ?_
          refine q_iload_n dX11_move_38 rfl rfl ?_
          obtain ⟨q801, h802, h⟩ := Option.bind_eq_some_iff.mp h
          refine q_callSi (as := [qi (q762.2 37 (Int.toNat a1)), qi a2]) dX11_move_39 ml_X11_316 rfl rfl (Nat.le_of_ble_eq_true rfl) (C_sum_ok hL (d + 3) (q762.2 37 (Int.toNat a1)) a2 _ _ h802) rfl ?_
          refine q_istore (lv' := [(4, qi q801.1), (0, qr 0), (1, qi a1), (2, qi a2), (3, qi a3)]) dX11_move_42 (by decide) rfl rfl ?_
          refine q_aload_n dX11_move_44 rfl rfl ?_
          refine q_getA dX11_move_45 fl_X11_49 (hL 0 (by decide)) sh_0 (by decide) rfl rfl ?_
          refine q_getA dX11_move_48 fl_X11_228 (hL 6 (by decide)) sh_6 (by decide) rfl rfl ?_
          refine q_iload_n dX11_move_51 rfl rfl ?_
          obtain ⟨c803, h⟩ := qk_some h
          refine q_iaload dX11_move_52 (hL 39 (by decide)) sh_39 (qIx_0 c803) (qIx_1 c803) rfl ?_
          refine q_iload_n dX11_move_53 rfl rfl ?_
          obtain ⟨q804, h805, h⟩ := Option.bind_eq_some_iff.mp h
          refine q_callSi (as := [qi (q801.2 39 (Int.toNat a1)), qi a3]) dX11_move_54 ml_X11_316 rfl rfl (Nat.le_of_ble_eq_true rfl) (C_sum_ok hL (d + 3) (q801.2 39 (Int.toNat a1)) a3 _ _ h805) rfl ?_
          refine q_istore (lv' := [(5, qi q804.1), (4, qi q801.1), (0, qr 0), (1, qi a1), (2, qi a2), (3, qi a3)]) dX11_move_57 (by decide) rfl rfl ?_
          refine q_aload_n dX11_move_59 rfl rfl ?_
          refine q_getA dX11_move_60 fl_X11_49 (hL 0 (by decide)) sh_0 (by decide) rfl rfl ?_
          refine q_getA dX11_move_63 fl_X11_231 (hL 6 (by decide)) sh_6 (by decide) rfl rfl ?_
          refine q_iload_n dX11_move_66 rfl rfl ?_
          obtain ⟨c806, h⟩ := qk_some h
          refine q_iaload dX11_move_67 (hL 40 (by decide)) sh_40 (qIx_0 c806) (qIx_1 c806) rfl ?_
          refine q_istore (lv' := [(6, qi (q804.2 40 (Int.toNat a1))), (5, qi q804.1), (4, qi q801.1), (0, qr 0), (1, qi a1), (2, qi a2), (3, qi a3)]) dX11_move_68 (by decide) rfl rfl ?_
          refine q_aload_n dX11_move_70 rfl rfl ?_
          refine q_getA dX11_move_71 fl_X11_49 (hL 0 (by decide)) sh_0 (by decide) rfl rfl ?_
          refine q_aload_n dX11_move_74 rfl rfl ?_
          refine q_getA dX11_move_75 fl_X11_110 (hL 0 (by decide)) sh_0 (by decide) rfl rfl ?_
          obtain ⟨q807, h808, h⟩ := Option.bind_eq_some_iff.mp h
          refine q_callVv (as := [qr 14]) (c := 6) dX11_move_78 ml_X11_295 rfl rfl (hL 6 (by decide)) sh_6 rfl rfl (Nat.le_of_ble_eq_true rfl) (Stays_save_14_ok hL (d + 4) _ _ h808) rfl ?_
          refine q_aload_n dX11_move_81 rfl rfl ?_
          refine q_getA dX11_move_82 fl_X11_49 (hL 0 (by decide)) sh_0 (by decide) rfl rfl ?_
          refine q_iload_n dX11_move_85 rfl rfl ?_
          obtain ⟨q809, h810, h⟩ := Option.bind_eq_some_iff.mp h
          refine q_callVv (as := [qi a1]) (c := 6) dX11_move_86 ml_X11_260 rfl rfl (hL 6 (by decide)) sh_6 rfl rfl (Nat.le_of_ble_eq_true rfl) (Stays_takeUp_ok hL (d + 1) a1 _ _ h810) rfl ?_
          refine q_aload_n dX11_move_89 rfl rfl ?_
          refine q_getA dX11_move_90 fl_X11_67 (hL 0 (by decide)) sh_0 (by decide) rfl rfl ?_
          refine q_iload_n dX11_move_93 rfl rfl ?_
          refine q_iload dX11_move_94 rfl rfl ?_
          refine q_iload dX11_move_96 rfl rfl ?_
          refine q_iload dX11_move_98 rfl rfl ?_
          obtain ⟨q811, h812, h⟩ := Option.bind_eq_some_iff.mp h
          refine q_callVi (as := [qi a1, qi q801.1, qi q804.1, qi (q804.2 40 (Int.toNat a1))]) (c := 8) dX11_move_100 ml_X11_263 rfl rfl (hL 8 (by decide)) sh_8 rfl rfl (Nat.le_of_ble_eq_true rfl) (Laws_firstBroken_ok hL d a1 q801.1 q804.1 (q804.2 40 (Int.toNat a1)) _ _ h812) rfl ?_
          refine q_istore (lv' := [(7, qi q811.1), (6, qi (q804.2 40 (Int.toNat a1))), (5, qi q804.1), (4, qi q801.1), (0, qr 0), (1, qi a1), (2, qi a2), (3, qi a3)]) dX11_move_103 (by decide) rfl rfl ?_
          refine q_iload dX11_move_105 rfl rfl ?_
          obtain ⟨c813, h⟩ := qk_some h
          refine q_if_eq (tgt := 124) dX11_move_107 (by decide) rfl (qRb_R c813)  (fun g => ?_) (fun g => ?_)
          · rw [if_pos (show q811.1 = 0 from g)] at h
            refine q_aload_n dX11_move_124 rfl rfl ?_
            refine q_getA dX11_move_125 fl_X11_49 (hL 0 (by decide)) sh_0 (by decide) rfl rfl ?_
            refine q_iload_n dX11_move_128 rfl rfl ?_
            refine q_iload dX11_move_129 rfl rfl ?_
            refine q_iload dX11_move_131 rfl rfl ?_
            refine q_iload dX11_move_133 rfl rfl ?_
            obtain ⟨q814, h815, h⟩ := Option.bind_eq_some_iff.mp h
            refine q_callVv (as := [qi a1, qi q801.1, qi q804.1, qi (q804.2 40 (Int.toNat a1))]) (c := 6) dX11_move_135 ml_X11_299 rfl rfl (hL 6 (by decide)) sh_6 rfl rfl (Nat.le_of_ble_eq_true rfl) (Stays_lay_ok hL (d + 1) a1 q801.1 q804.1 (q804.2 40 (Int.toNat a1)) _ _ h815) rfl ?_
            refine q_aload_n dX11_move_138 rfl rfl ?_
            obtain ⟨q816, h817, h⟩ := Option.bind_eq_some_iff.mp h
            refine q_callVv (as := []) (c := 0) dX11_move_139 ml_X11_303 rfl rfl (hL 0 (by decide)) sh_0 rfl rfl (Nat.le_of_ble_eq_true rfl) (C_keepAct_ok hL (d + 3) _ _ h817) rfl ?_
            refine q_aload_n dX11_move_142 rfl rfl ?_
            refine q_getA dX11_move_143 fl_X11_49 (hL 0 (by decide)) sh_0 (by decide) rfl rfl ?_
            refine q_getA dX11_move_146 fl_X11_236 (hL 6 (by decide)) sh_6 (by decide) rfl rfl ?_
            refine q_iload_n dX11_move_149 rfl rfl ?_
            obtain ⟨c818, h⟩ := qk_some h
            refine q_iaload dX11_move_150 (hL 42 (by decide)) sh_42 (qIx_0 c818) (qIx_1 c818) rfl ?_
            cases h
            exact q_ireturn dX11_move_151 rfl hQ
          · rw [if_neg (show ¬ (q811.1 = 0) from g)] at h
            refine q_aload_n dX11_move_110 rfl rfl ?_
            refine q_getA dX11_move_111 fl_X11_49 (hL 0 (by decide)) sh_0 (by decide) rfl rfl ?_
            refine q_iload_n dX11_move_114 rfl rfl ?_
            obtain ⟨q819, h820, h⟩ := Option.bind_eq_some_iff.mp h
            refine q_callVv (as := [qi a1]) (c := 6) dX11_move_115 ml_X11_267 rfl rfl (hL 6 (by decide)) sh_6 rfl rfl (Nat.le_of_ble_eq_true rfl) (Stays_layBack_ok hL d a1 _ _ h820) rfl ?_
            refine q_iload dX11_move_118 rfl rfl ?_
            obtain ⟨q821, h822, h⟩ := Option.bind_eq_some_iff.mp h
            refine q_callSi (as := [qi q811.1]) dX11_move_120 ml_X11_292 rfl rfl (Nat.le_of_ble_eq_true rfl) (C_refusal_ok hL (d + 4) q811.1 _ _ h822) rfl ?_
            cases h
            exact q_ireturn dX11_move_123 rfl hQ
        · rw [if_pos (show a3 = 0 from g)] at h
          refine q_iconst dX11_move_27 rfl rfl ?_
          cases h
          exact q_ireturn dX11_move_28 rfl hQ
set_option maxRecDepth 20000 in
theorem C_layLawful_ok {X : qX} (hL : ∀ c, c < 93 → c ∈ qLs X) (d : Nat) (a1 : Int) (a2 : Int) (a3 : Int) (a4 : Int) (S : qSto) (o : (Int × qSto)) (h : C_layLawful a1 a2 a3 a4 S = some o) (Q : Option qV → qSto → Prop) (hQ : Q (some (qi o.1)) o.2) : qC X (d + 5) yX11_layLawful cX11_layLawful 6 (some .int) [qr 0, qi a1, qi a2, qi a3, qi a4] S Q := by
  refine q_entry (lv := [(0, qr 0), (1, qi a1), (2, qi a2), (3, qi a3), (4, qi a4)]) pn_X11 (Nat.le_of_ble_eq_true rfl) rfl ?_
  unfold C_layLawful at h
  refine q_aload_n dX11_layLawful_0 rfl rfl ?_
  refine q_getA dX11_layLawful_1 fl_X11_67 (hL 0 (by decide)) sh_0 (by decide) rfl rfl ?_
  refine q_iload_n dX11_layLawful_4 rfl rfl ?_
  refine q_iload_n dX11_layLawful_5 rfl rfl ?_
  refine q_iload_n dX11_layLawful_6 rfl rfl ?_
  refine q_iload dX11_layLawful_7 rfl rfl ?_
  obtain ⟨q849, h850, h⟩ := Option.bind_eq_some_iff.mp h
  refine q_callVi (as := [qi a1, qi a2, qi a3, qi a4]) (c := 8) dX11_layLawful_9 ml_X11_263 rfl rfl (hL 8 (by decide)) sh_8 rfl rfl (Nat.le_of_ble_eq_true rfl) (Laws_firstBroken_ok hL d a1 a2 a3 a4 _ _ h850) rfl ?_
  refine q_istore (lv' := [(5, qi q849.1), (0, qr 0), (1, qi a1), (2, qi a2), (3, qi a3), (4, qi a4)]) dX11_layLawful_12 (by decide) rfl rfl ?_
  refine q_iload dX11_layLawful_14 rfl rfl ?_
  obtain ⟨c851, h⟩ := qk_some h
  refine q_if_ne (tgt := 31) dX11_layLawful_16 (by decide) rfl (qRb_R c851)  (fun g => ?_) (fun g => ?_)
  · rw [if_neg (show ¬ (q849.1 = 0) from g)] at h
    refine q_iload dX11_layLawful_31 rfl rfl ?_
    cases h
    exact q_ireturn dX11_layLawful_33 rfl hQ
  · rw [if_pos (show q849.1 = 0 from g)] at h
    refine q_aload_n dX11_layLawful_19 rfl rfl ?_
    refine q_getA dX11_layLawful_20 fl_X11_49 (hL 0 (by decide)) sh_0 (by decide) rfl rfl ?_
    refine q_iload_n dX11_layLawful_23 rfl rfl ?_
    refine q_iload_n dX11_layLawful_24 rfl rfl ?_
    refine q_iload_n dX11_layLawful_25 rfl rfl ?_
    refine q_iload dX11_layLawful_26 rfl rfl ?_
    obtain ⟨q852, h853, h⟩ := Option.bind_eq_some_iff.mp h
    refine q_callVv (as := [qi a1, qi a2, qi a3, qi a4]) (c := 6) dX11_layLawful_28 ml_X11_299 rfl rfl (hL 6 (by decide)) sh_6 rfl rfl (Nat.le_of_ble_eq_true rfl) (Stays_lay_ok hL (d + 1) a1 a2 a3 a4 _ _ h853) rfl ?_
    refine q_iload dX11_layLawful_31 rfl rfl ?_
    cases h
    exact q_ireturn dX11_layLawful_33 rfl hQ
set_option maxRecDepth 20000 in
theorem Ja_fill_40_L5_ok {X : qX} (hL : ∀ c, c < 93 → c ∈ qLs X) (d : Nat) {Q : Option qV → qSto → Prop} : ∀ (n : Nat) (x1 : Int) (x2 : Int) (S : qSto) (o : qSto), Ja_fill_40_L5 n x1 x2 S = some o → (qW X d yJ7_fill_53178 cJ7_fill_53178 4 none 20 [] [] o Q) → qW X d yJ7_fill_53178 cJ7_fill_53178 4 none 5 [(0, qr 40), (1, qi x1), (2, qi x2), (3, qi 14)] [] S Q := by
  intro n
  induction n with
  | zero =>
    intro x1 x2 S o h
    simp [Ja_fill_40_L5] at h
  | succ n ih =>
    intro x1 x2 S o h hE
    rw [Ja_fill_40_L5] at h
    refine q_iload_n dJ7_fill_53178_5 rfl rfl ?_
    refine q_iload_n dJ7_fill_53178_6 rfl rfl ?_
    obtain ⟨c864, h⟩ := qk_some h
    refine q_icmp_ge (tgt := 20) dJ7_fill_53178_7 (by decide) rfl (qRb_R c864) ⟨by decide, by decide⟩ (fun g => ?_) (fun g => ?_)
    · rw [if_pos (show 14 ≤ x2 from g)] at h
      cases h
      exact q_pick [] rfl (hE)
    · rw [if_neg (show ¬ (14 ≤ x2) from g)] at h
      refine q_aload_n dJ7_fill_53178_10 rfl rfl ?_
      refine q_iload_n dJ7_fill_53178_11 rfl rfl ?_
      refine q_iload_n dJ7_fill_53178_12 rfl rfl ?_
      obtain ⟨c865, h⟩ := qk_some h
      refine q_iastore dJ7_fill_53178_13 (hL 40 (by decide)) sh_40 (qIx_0 c865) (qIx_1 c865) rfl ?_
      refine q_iinc (lv' := [(2, qi (x2 + 1)), (0, qr 40), (1, qi x1), (3, qi 14)]) dJ7_fill_53178_14 (by decide) rfl rfl rfl ?_
      refine q_goto (pc' := 5) dJ7_fill_53178_17 (by decide) ?_
      exact q_pick [1, 2, 0, 3] rfl (ih x1 (x2 + 1) _ _ h hE)
set_option maxRecDepth 20000 in
theorem Ja_fill_40_ok {X : qX} (hL : ∀ c, c < 93 → c ∈ qLs X) (d : Nat) (a1 : Int) (S : qSto) (o : qSto) (h : Ja_fill_40 a1 S = some o) (Q : Option qV → qSto → Prop) (hQ : Q none o) : qC X d yJ7_fill_53178 cJ7_fill_53178 4 none [qr 40, qi a1] S Q := by
  refine q_entry (lv := [(0, qr 40), (1, qi a1)]) pn_J7 (Nat.le_of_ble_eq_true rfl) rfl ?_
  unfold Ja_fill_40 at h
  refine q_iconst dJ7_fill_53178_0 rfl rfl ?_
  refine q_istore_n (lv' := [(2, qi 0), (0, qr 40), (1, qi a1)]) dJ7_fill_53178_1 (by decide) rfl rfl ?_
  refine q_aload_n dJ7_fill_53178_2 rfl rfl ?_
  refine q_alen (k0 := 0) dJ7_fill_53178_3 (hL 40 (by decide)) sh_40 (by decide) rfl ?_
  refine q_istore_n (lv' := [(3, qi 14), (2, qi 0), (0, qr 40), (1, qi a1)]) dJ7_fill_53178_4 (by decide) rfl rfl ?_
  obtain ⟨q866, h867, h⟩ := Option.bind_eq_some_iff.mp h
  refine q_pick [2, 3, 1, 0] rfl (Ja_fill_40_L5_ok hL d qF a1 0 _ _ h867 ?_)
  cases h
  exact q_return dJ7_fill_53178_20 rfl hQ
set_option maxRecDepth 20000 in
theorem Ja_fill_43_L5_ok {X : qX} (hL : ∀ c, c < 93 → c ∈ qLs X) (d : Nat) {Q : Option qV → qSto → Prop} : ∀ (n : Nat) (x1 : Int) (x2 : Int) (S : qSto) (o : qSto), Ja_fill_43_L5 n x1 x2 S = some o → (qW X d yJ7_fill_53178 cJ7_fill_53178 4 none 20 [] [] o Q) → qW X d yJ7_fill_53178 cJ7_fill_53178 4 none 5 [(0, qr 43), (1, qi x1), (2, qi x2), (3, qi 336)] [] S Q := by
  intro n
  induction n with
  | zero =>
    intro x1 x2 S o h
    simp [Ja_fill_43_L5] at h
  | succ n ih =>
    intro x1 x2 S o h hE
    rw [Ja_fill_43_L5] at h
    refine q_iload_n dJ7_fill_53178_5 rfl rfl ?_
    refine q_iload_n dJ7_fill_53178_6 rfl rfl ?_
    obtain ⟨c870, h⟩ := qk_some h
    refine q_icmp_ge (tgt := 20) dJ7_fill_53178_7 (by decide) rfl (qRb_R c870) ⟨by decide, by decide⟩ (fun g => ?_) (fun g => ?_)
    · rw [if_pos (show 336 ≤ x2 from g)] at h
      cases h
      exact q_pick [] rfl (hE)
    · rw [if_neg (show ¬ (336 ≤ x2) from g)] at h
      refine q_aload_n dJ7_fill_53178_10 rfl rfl ?_
      refine q_iload_n dJ7_fill_53178_11 rfl rfl ?_
      refine q_iload_n dJ7_fill_53178_12 rfl rfl ?_
      obtain ⟨c871, h⟩ := qk_some h
      refine q_iastore dJ7_fill_53178_13 (hL 43 (by decide)) sh_43 (qIx_0 c871) (qIx_1 c871) rfl ?_
      refine q_iinc (lv' := [(2, qi (x2 + 1)), (0, qr 43), (1, qi x1), (3, qi 336)]) dJ7_fill_53178_14 (by decide) rfl rfl rfl ?_
      refine q_goto (pc' := 5) dJ7_fill_53178_17 (by decide) ?_
      exact q_pick [1, 2, 0, 3] rfl (ih x1 (x2 + 1) _ _ h hE)
set_option maxRecDepth 20000 in
theorem Ja_fill_43_ok {X : qX} (hL : ∀ c, c < 93 → c ∈ qLs X) (d : Nat) (a1 : Int) (S : qSto) (o : qSto) (h : Ja_fill_43 a1 S = some o) (Q : Option qV → qSto → Prop) (hQ : Q none o) : qC X d yJ7_fill_53178 cJ7_fill_53178 4 none [qr 43, qi a1] S Q := by
  refine q_entry (lv := [(0, qr 43), (1, qi a1)]) pn_J7 (Nat.le_of_ble_eq_true rfl) rfl ?_
  unfold Ja_fill_43 at h
  refine q_iconst dJ7_fill_53178_0 rfl rfl ?_
  refine q_istore_n (lv' := [(2, qi 0), (0, qr 43), (1, qi a1)]) dJ7_fill_53178_1 (by decide) rfl rfl ?_
  refine q_aload_n dJ7_fill_53178_2 rfl rfl ?_
  refine q_alen (k0 := 0) dJ7_fill_53178_3 (hL 43 (by decide)) sh_43 (by decide) rfl ?_
  refine q_istore_n (lv' := [(3, qi 336), (2, qi 0), (0, qr 43), (1, qi a1)]) dJ7_fill_53178_4 (by decide) rfl rfl ?_
  obtain ⟨q872, h873, h⟩ := Option.bind_eq_some_iff.mp h
  refine q_pick [2, 3, 1, 0] rfl (Ja_fill_43_L5_ok hL d qF a1 0 _ _ h873 ?_)
  cases h
  exact q_return dJ7_fill_53178_20 rfl hQ
set_option maxRecDepth 20000 in
theorem Stays_clear_ok {X : qX} (hL : ∀ c, c < 93 → c ∈ qLs X) (d : Nat) (S : qSto) (o : qSto) (h : Stays_clear S = some o) (Q : Option qV → qSto → Prop) (hQ : Q none o) : qC X (d + 1) yX7_clear cX7_clear 1 none [qr 6] S Q := by
  refine q_entry (lv := [(0, qr 6)]) pn_X7 (Nat.le_of_ble_eq_true rfl) rfl ?_
  unfold Stays_clear at h
  refine q_aload_n dX7_clear_0 rfl rfl ?_
  refine q_getA dX7_clear_1 fl_X7_21 (hL 6 (by decide)) sh_6 (by decide) rfl rfl ?_
  refine q_iconst dX7_clear_4 rfl rfl ?_
  obtain ⟨q868, h869, h⟩ := Option.bind_eq_some_iff.mp h
  refine q_callSv (as := [qr 40, qi 0]) dX7_clear_5 ml_X7_96 rfl rfl (Nat.le_of_ble_eq_true rfl) (Ja_fill_40_ok hL d 0 _ _ h869) rfl ?_
  refine q_aload_n dX7_clear_8 rfl rfl ?_
  refine q_getA dX7_clear_9 fl_X7_30 (hL 6 (by decide)) sh_6 (by decide) rfl rfl ?_
  refine q_iconst dX7_clear_12 rfl rfl ?_
  obtain ⟨q874, h875, h⟩ := Option.bind_eq_some_iff.mp h
  refine q_callSv (as := [qr 43, qi 0]) dX7_clear_13 ml_X7_96 rfl rfl (Nat.le_of_ble_eq_true rfl) (Ja_fill_43_ok hL d 0 _ _ h875) rfl ?_
  cases h
  exact q_return dX7_clear_16 rfl hQ
set_option maxRecDepth 20000 in
theorem Stays_load_14_L6_ok {X : qX} (hL : ∀ c, c < 93 → c ∈ qLs X) (d : Nat) {Q : Option qV → qSto → Prop} : ∀ (n : Nat) (x2 : Int) (S : qSto) (o : qSto), Stays_load_14_L6 n x2 S = some o → (qW X (d + 4) yX7_load cX7_load 3 none 57 [] [] o Q) → qW X (d + 4) yX7_load cX7_load 3 none 6 [(0, qr 6), (1, qr 14), (2, qi x2)] [] S Q := by
  intro n
  induction n with
  | zero =>
    intro x2 S o h
    simp [Stays_load_14_L6] at h
  | succ n ih =>
    intro x2 S o h hE
    rw [Stays_load_14_L6] at h
    refine q_iload_n dX7_load_6 rfl rfl ?_
    refine q_aload_n dX7_load_7 rfl rfl ?_
    refine q_getA dX7_load_8 fl_X7_36 (hL 6 (by decide)) sh_6 (by decide) rfl rfl ?_
    refine q_getI dX7_load_11 fl_X7_44 (hL 2 (by decide)) sh_2 (by decide) rfl rfl ?_
    obtain ⟨c878, h⟩ := qk_some h
    obtain ⟨c879, h⟩ := qk_some h
    refine q_icmp_ge (tgt := 57) dX7_load_14 (by decide) rfl (qRb_R c878) (qRb_R c879) (fun g => ?_) (fun g => ?_)
    · rw [if_pos (show (S 2 12) ≤ x2 from g)] at h
      cases h
      exact q_pick [] rfl (hE)
    · rw [if_neg (show ¬ ((S 2 12) ≤ x2) from g)] at h
      refine q_aload_n dX7_load_17 rfl rfl ?_
      refine q_iload_n dX7_load_18 rfl rfl ?_
      refine q_iconst dX7_load_19 rfl rfl ?_
      refine q_imul dX7_load_20 rfl ?_
      refine q_iconst dX7_load_21 rfl rfl ?_
      refine q_iadd dX7_load_22 rfl ?_
      obtain ⟨c880, h⟩ := qk_some h
      refine q_iaload dX7_load_23 (hL 14 (by decide)) sh_14 (qIx_0 c880) (qIx_1 c880) rfl ?_
      refine q_jn (G := fun (t887 : qSto) => qW X (d + 4) yX7_load cX7_load 3 none 51 [(0, qr 6), (1, qr 14), (2, qi x2)] [] t887 Q) h (fun t887 h => ?_) (fun t887 h hk3782 => ?_)
      · try dsimp only at h
        refine q_iinc (lv' := [(2, qi (x2 + 1)), (0, qr 6), (1, qr 14)]) dX7_load_51 (by decide) rfl rfl rfl ?_
        refine q_goto (pc' := 6) dX7_load_54 (by decide) ?_
        exact q_pick [1, 2, 0] rfl (ih (x2 + 1) _ _ h hE)
      · skip
        obtain ⟨c881, h⟩ := qk_some h
        refine q_if_le (tgt := 51) dX7_load_24 (by decide) rfl (qRb_R c881)  (fun g => ?_) (fun g => ?_)
        · rw [if_pos (show (S 14 (Int.toNat ((x2 * 3) + 2))) ≤ 0 from g)] at h
          cases h
          exact q_pick [0, 1, 2] rfl hk3782
        · rw [if_neg (show ¬ ((S 14 (Int.toNat ((x2 * 3) + 2))) ≤ 0) from g)] at h
          refine q_aload_n dX7_load_27 rfl rfl ?_
          refine q_iload_n dX7_load_28 rfl rfl ?_
          refine q_aload_n dX7_load_29 rfl rfl ?_
          refine q_iload_n dX7_load_30 rfl rfl ?_
          refine q_iconst dX7_load_31 rfl rfl ?_
          refine q_imul dX7_load_32 rfl ?_
          obtain ⟨c882, h⟩ := qk_some h
          refine q_iaload dX7_load_33 (hL 14 (by decide)) sh_14 (qIx_0 c882) (qIx_1 c882) rfl ?_
          refine q_aload_n dX7_load_34 rfl rfl ?_
          refine q_iload_n dX7_load_35 rfl rfl ?_
          refine q_iconst dX7_load_36 rfl rfl ?_
          refine q_imul dX7_load_37 rfl ?_
          refine q_iconst dX7_load_38 rfl rfl ?_
          refine q_iadd dX7_load_39 rfl ?_
          obtain ⟨c883, h⟩ := qk_some h
          refine q_iaload dX7_load_40 (hL 14 (by decide)) sh_14 (qIx_0 c883) (qIx_1 c883) rfl ?_
          refine q_aload_n dX7_load_41 rfl rfl ?_
          refine q_iload_n dX7_load_42 rfl rfl ?_
          refine q_iconst dX7_load_43 rfl rfl ?_
          refine q_imul dX7_load_44 rfl ?_
          refine q_iconst dX7_load_45 rfl rfl ?_
          refine q_iadd dX7_load_46 rfl ?_
          obtain ⟨c884, h⟩ := qk_some h
          refine q_iaload dX7_load_47 (hL 14 (by decide)) sh_14 (qIx_0 c884) (qIx_1 c884) rfl ?_
          obtain ⟨q885, h886, h⟩ := Option.bind_eq_some_iff.mp h
          refine q_callVv (as := [qi x2, qi (S 14 (Int.toNat (x2 * 3))), qi (S 14 (Int.toNat ((x2 * 3) + 1))), qi (S 14 (Int.toNat ((x2 * 3) + 2)))]) (c := 6) dX7_load_48 ml_X7_92 rfl rfl (hL 6 (by decide)) sh_6 rfl rfl (Nat.le_of_ble_eq_true rfl) (Stays_lay_ok hL d x2 (S 14 (Int.toNat (x2 * 3))) (S 14 (Int.toNat ((x2 * 3) + 1))) (S 14 (Int.toNat ((x2 * 3) + 2))) _ _ h886) rfl ?_
          cases h
          exact q_pick [0, 1, 2] rfl hk3782
set_option maxRecDepth 20000 in
theorem Stays_load_14_ok {X : qX} (hL : ∀ c, c < 93 → c ∈ qLs X) (d : Nat) (S : qSto) (o : qSto) (h : Stays_load_14 S = some o) (Q : Option qV → qSto → Prop) (hQ : Q none o) : qC X (d + 4) yX7_load cX7_load 3 none [qr 6, qr 14] S Q := by
  refine q_entry (lv := [(0, qr 6), (1, qr 14)]) pn_X7 (Nat.le_of_ble_eq_true rfl) rfl ?_
  unfold Stays_load_14 at h
  refine q_aload_n dX7_load_0 rfl rfl ?_
  obtain ⟨q876, h877, h⟩ := Option.bind_eq_some_iff.mp h
  refine q_callVv (as := []) (c := 6) dX7_load_1 ml_X7_102 rfl rfl (hL 6 (by decide)) sh_6 rfl rfl (Nat.le_of_ble_eq_true rfl) (Stays_clear_ok hL (d + 2) _ _ h877) rfl ?_
  refine q_iconst dX7_load_4 rfl rfl ?_
  refine q_istore_n (lv' := [(2, qi 0), (0, qr 6), (1, qr 14)]) dX7_load_5 (by decide) rfl rfl ?_
  obtain ⟨q888, h889, h⟩ := Option.bind_eq_some_iff.mp h
  refine q_pick [1, 2, 0] rfl (Stays_load_14_L6_ok hL d qF 0 _ _ h889 ?_)
  cases h
  exact q_return dX7_load_57 rfl hQ
set_option maxRecDepth 20000 in
theorem C_swap_ok {X : qX} (hL : ∀ c, c < 93 → c ∈ qLs X) (d : Nat) (a1 : Int) (a2 : Int) (S : qSto) (o : (Int × qSto)) (h : C_swap a1 a2 S = some o) (Q : Option qV → qSto → Prop) (hQ : Q (some (qi o.1)) o.2) : qC X (d + 6) yX11_swap cX11_swap 10 (some .int) [qr 0, qi a1, qi a2] S Q := by
  refine q_entry (lv := [(0, qr 0), (1, qi a1), (2, qi a2)]) pn_X11 (Nat.le_of_ble_eq_true rfl) rfl ?_
  unfold C_swap at h
  refine q_aload_n dX11_swap_0 rfl rfl ?_
  refine q_iload_n dX11_swap_1 rfl rfl ?_
  obtain ⟨q823, h824, h⟩ := Option.bind_eq_some_iff.mp h
  refine q_callVi (as := [qi a1]) (c := 0) dX11_swap_2 ml_X11_216 rfl rfl (hL 0 (by decide)) sh_0 rfl rfl (Nat.le_of_ble_eq_true rfl) (C_isShip_ok hL (d + 5) a1 _ _ h824) rfl ?_
  obtain ⟨c825, h⟩ := qk_some h
  refine q_if_eq (tgt := 43) dX11_swap_5 (by decide) rfl (qRb_R c825)  (fun g => ?_) (fun g => ?_)
  · rw [if_pos (show q823.1 = 0 from g)] at h
    refine q_iconst dX11_swap_43 rfl rfl ?_
    cases h
    exact q_ireturn dX11_swap_44 rfl hQ
  · rw [if_neg (show ¬ (q823.1 = 0) from g)] at h
    refine q_aload_n dX11_swap_8 rfl rfl ?_
    refine q_iload_n dX11_swap_9 rfl rfl ?_
    obtain ⟨q826, h827, h⟩ := Option.bind_eq_some_iff.mp h
    refine q_callVi (as := [qi a2]) (c := 0) dX11_swap_10 ml_X11_216 rfl rfl (hL 0 (by decide)) sh_0 rfl rfl (Nat.le_of_ble_eq_true rfl) (C_isShip_ok hL (d + 5) a2 _ _ h827) rfl ?_
    obtain ⟨c828, h⟩ := qk_some h
    refine q_if_eq (tgt := 43) dX11_swap_13 (by decide) rfl (qRb_R c828)  (fun g => ?_) (fun g => ?_)
    · rw [if_pos (show q826.1 = 0 from g)] at h
      refine q_iconst dX11_swap_43 rfl rfl ?_
      cases h
      exact q_ireturn dX11_swap_44 rfl hQ
    · rw [if_neg (show ¬ (q826.1 = 0) from g)] at h
      refine q_iload_n dX11_swap_16 rfl rfl ?_
      refine q_iload_n dX11_swap_17 rfl rfl ?_
      obtain ⟨c829, h⟩ := qk_some h
      obtain ⟨c830, h⟩ := qk_some h
      refine q_icmp_eq (tgt := 43) dX11_swap_18 (by decide) rfl (qRb_R c829) (qRb_R c830) (fun g => ?_) (fun g => ?_)
      · rw [if_pos (show a1 = a2 from g)] at h
        refine q_iconst dX11_swap_43 rfl rfl ?_
        cases h
        exact q_ireturn dX11_swap_44 rfl hQ
      · rw [if_neg (show ¬ (a1 = a2) from g)] at h
        refine q_aload_n dX11_swap_21 rfl rfl ?_
        refine q_getA dX11_swap_22 fl_X11_49 (hL 0 (by decide)) sh_0 (by decide) rfl rfl ?_
        refine q_iload_n dX11_swap_25 rfl rfl ?_
        obtain ⟨q831, h832, h⟩ := Option.bind_eq_some_iff.mp h
        refine q_callVi (as := [qi a1]) (c := 6) dX11_swap_26 ml_X11_178 rfl rfl (hL 6 (by decide)) sh_6 rfl rfl (Nat.le_of_ble_eq_true rfl) (Stays_has_ok hL (d + 5) a1 _ _ h832) rfl ?_
        obtain ⟨c833, h⟩ := qk_some h
        refine q_if_eq (tgt := 43) dX11_swap_29 (by decide) rfl (qRb_R c833)  (fun g => ?_) (fun g => ?_)
        · rw [if_pos (show q831.1 = 0 from g)] at h
          refine q_iconst dX11_swap_43 rfl rfl ?_
          cases h
          exact q_ireturn dX11_swap_44 rfl hQ
        · rw [if_neg (show ¬ (q831.1 = 0) from g)] at h
          refine q_aload_n dX11_swap_32 rfl rfl ?_
          refine q_getA dX11_swap_33 fl_X11_49 (hL 0 (by decide)) sh_0 (by decide) rfl rfl ?_
          refine q_iload_n dX11_swap_36 rfl rfl ?_
          obtain ⟨q834, h835, h⟩ := Option.bind_eq_some_iff.mp h
          refine q_callVi (as := [qi a2]) (c := 6) dX11_swap_37 ml_X11_178 rfl rfl (hL 6 (by decide)) sh_6 rfl rfl (Nat.le_of_ble_eq_true rfl) (Stays_has_ok hL (d + 5) a2 _ _ h835) rfl ?_
          obtain ⟨c836, h⟩ := qk_some h
          refine q_if_ne (tgt := 45) dX11_swap_40 (by decide) rfl (qRb_R c836)  (fun g => ?_) (fun g => ?_)
          · rw [if_neg (show ¬ (q834.1 = 0) from g)] at h
            refine q_aload_n dX11_swap_45 rfl rfl ?_
            refine q_getA dX11_swap_46 fl_X11_49 (hL 0 (by decide)) sh_0 (by decide) rfl rfl ?_
            refine q_getA dX11_swap_49 fl_X11_225 (hL 6 (by decide)) sh_6 (by decide) rfl rfl ?_
            refine q_iload_n dX11_swap_52 rfl rfl ?_
            obtain ⟨c837, h⟩ := qk_some h
            refine q_iaload dX11_swap_53 (hL 37 (by decide)) sh_37 (qIx_0 c837) (qIx_1 c837) rfl ?_
            refine q_istore_n (lv' := [(3, qi (q834.2 37 (Int.toNat a1))), (0, qr 0), (1, qi a1), (2, qi a2)]) dX11_swap_54 (by decide) rfl rfl ?_
            refine q_aload_n dX11_swap_55 rfl rfl ?_
            refine q_getA dX11_swap_56 fl_X11_49 (hL 0 (by decide)) sh_0 (by decide) rfl rfl ?_
            refine q_getA dX11_swap_59 fl_X11_228 (hL 6 (by decide)) sh_6 (by decide) rfl rfl ?_
            refine q_iload_n dX11_swap_62 rfl rfl ?_
            obtain ⟨c838, h⟩ := qk_some h
            refine q_iaload dX11_swap_63 (hL 39 (by decide)) sh_39 (qIx_0 c838) (qIx_1 c838) rfl ?_
            refine q_istore (lv' := [(4, qi (q834.2 39 (Int.toNat a1))), (3, qi (q834.2 37 (Int.toNat a1))), (0, qr 0), (1, qi a1), (2, qi a2)]) dX11_swap_64 (by decide) rfl rfl ?_
            refine q_aload_n dX11_swap_66 rfl rfl ?_
            refine q_getA dX11_swap_67 fl_X11_49 (hL 0 (by decide)) sh_0 (by decide) rfl rfl ?_
            refine q_getA dX11_swap_70 fl_X11_225 (hL 6 (by decide)) sh_6 (by decide) rfl rfl ?_
            refine q_iload_n dX11_swap_73 rfl rfl ?_
            obtain ⟨c839, h⟩ := qk_some h
            refine q_iaload dX11_swap_74 (hL 37 (by decide)) sh_37 (qIx_0 c839) (qIx_1 c839) rfl ?_
            refine q_istore (lv' := [(5, qi (q834.2 37 (Int.toNat a2))), (4, qi (q834.2 39 (Int.toNat a1))), (3, qi (q834.2 37 (Int.toNat a1))), (0, qr 0), (1, qi a1), (2, qi a2)]) dX11_swap_75 (by decide) rfl rfl ?_
            refine q_aload_n dX11_swap_77 rfl rfl ?_
            refine q_getA dX11_swap_78 fl_X11_49 (hL 0 (by decide)) sh_0 (by decide) rfl rfl ?_
            refine q_getA dX11_swap_81 fl_X11_228 (hL 6 (by decide)) sh_6 (by decide) rfl rfl ?_
            refine q_iload_n dX11_swap_84 rfl rfl ?_
            obtain ⟨c840, h⟩ := qk_some h
            refine q_iaload dX11_swap_85 (hL 39 (by decide)) sh_39 (qIx_0 c840) (qIx_1 c840) rfl ?_
            refine q_istore (lv' := [(6, qi (q834.2 39 (Int.toNat a2))), (5, qi (q834.2 37 (Int.toNat a2))), (4, qi (q834.2 39 (Int.toNat a1))), (3, qi (q834.2 37 (Int.toNat a1))), (0, qr 0), (1, qi a1), (2, qi a2)]) dX11_swap_86 (by decide) rfl rfl ?_
            refine q_aload_n dX11_swap_88 rfl rfl ?_
            refine q_getA dX11_swap_89 fl_X11_49 (hL 0 (by decide)) sh_0 (by decide) rfl rfl ?_
            refine q_getA dX11_swap_92 fl_X11_231 (hL 6 (by decide)) sh_6 (by decide) rfl rfl ?_
            refine q_iload_n dX11_swap_95 rfl rfl ?_
            obtain ⟨c841, h⟩ := qk_some h
            refine q_iaload dX11_swap_96 (hL 40 (by decide)) sh_40 (qIx_0 c841) (qIx_1 c841) rfl ?_
            refine q_istore (lv' := [(7, qi (q834.2 40 (Int.toNat a1))), (6, qi (q834.2 39 (Int.toNat a2))), (5, qi (q834.2 37 (Int.toNat a2))), (4, qi (q834.2 39 (Int.toNat a1))), (3, qi (q834.2 37 (Int.toNat a1))), (0, qr 0), (1, qi a1), (2, qi a2)]) dX11_swap_97 (by decide) rfl rfl ?_
            refine q_aload_n dX11_swap_99 rfl rfl ?_
            refine q_getA dX11_swap_100 fl_X11_49 (hL 0 (by decide)) sh_0 (by decide) rfl rfl ?_
            refine q_getA dX11_swap_103 fl_X11_231 (hL 6 (by decide)) sh_6 (by decide) rfl rfl ?_
            refine q_iload_n dX11_swap_106 rfl rfl ?_
            obtain ⟨c842, h⟩ := qk_some h
            refine q_iaload dX11_swap_107 (hL 40 (by decide)) sh_40 (qIx_0 c842) (qIx_1 c842) rfl ?_
            refine q_istore (lv' := [(8, qi (q834.2 40 (Int.toNat a2))), (7, qi (q834.2 40 (Int.toNat a1))), (6, qi (q834.2 39 (Int.toNat a2))), (5, qi (q834.2 37 (Int.toNat a2))), (4, qi (q834.2 39 (Int.toNat a1))), (3, qi (q834.2 37 (Int.toNat a1))), (0, qr 0), (1, qi a1), (2, qi a2)]) dX11_swap_108 (by decide) rfl rfl ?_
            refine q_aload_n dX11_swap_110 rfl rfl ?_
            refine q_getA dX11_swap_111 fl_X11_49 (hL 0 (by decide)) sh_0 (by decide) rfl rfl ?_
            refine q_aload_n dX11_swap_114 rfl rfl ?_
            refine q_getA dX11_swap_115 fl_X11_110 (hL 0 (by decide)) sh_0 (by decide) rfl rfl ?_
            obtain ⟨q843, h844, h⟩ := Option.bind_eq_some_iff.mp h
            refine q_callVv (as := [qr 14]) (c := 6) dX11_swap_118 ml_X11_295 rfl rfl (hL 6 (by decide)) sh_6 rfl rfl (Nat.le_of_ble_eq_true rfl) (Stays_save_14_ok hL (d + 5) _ _ h844) rfl ?_
            refine q_aload_n dX11_swap_121 rfl rfl ?_
            refine q_getA dX11_swap_122 fl_X11_49 (hL 0 (by decide)) sh_0 (by decide) rfl rfl ?_
            refine q_iload_n dX11_swap_125 rfl rfl ?_
            obtain ⟨q845, h846, h⟩ := Option.bind_eq_some_iff.mp h
            refine q_callVv (as := [qi a1]) (c := 6) dX11_swap_126 ml_X11_313 rfl rfl (hL 6 (by decide)) sh_6 rfl rfl (Nat.le_of_ble_eq_true rfl) (Stays_lift_ok hL (d + 3) a1 _ _ h846) rfl ?_
            refine q_aload_n dX11_swap_129 rfl rfl ?_
            refine q_getA dX11_swap_130 fl_X11_49 (hL 0 (by decide)) sh_0 (by decide) rfl rfl ?_
            refine q_iload_n dX11_swap_133 rfl rfl ?_
            obtain ⟨q847, h848, h⟩ := Option.bind_eq_some_iff.mp h
            refine q_callVv (as := [qi a2]) (c := 6) dX11_swap_134 ml_X11_313 rfl rfl (hL 6 (by decide)) sh_6 rfl rfl (Nat.le_of_ble_eq_true rfl) (Stays_lift_ok hL (d + 3) a2 _ _ h848) rfl ?_
            refine q_aload_n dX11_swap_137 rfl rfl ?_
            refine q_iload_n dX11_swap_138 rfl rfl ?_
            refine q_iload dX11_swap_139 rfl rfl ?_
            refine q_iload dX11_swap_141 rfl rfl ?_
            refine q_iload dX11_swap_143 rfl rfl ?_
            obtain ⟨q854, h855, h⟩ := Option.bind_eq_some_iff.mp h
            refine q_callVi (as := [qi a1, qi (q834.2 37 (Int.toNat a2)), qi (q834.2 39 (Int.toNat a2)), qi (q834.2 40 (Int.toNat a1))]) (c := 0) dX11_swap_145 ml_X11_332 rfl rfl (hL 0 (by decide)) sh_0 rfl rfl (Nat.le_of_ble_eq_true rfl) (C_layLawful_ok hL d a1 (q834.2 37 (Int.toNat a2)) (q834.2 39 (Int.toNat a2)) (q834.2 40 (Int.toNat a1)) _ _ h855) rfl ?_
            refine q_istore (lv' := [(9, qi q854.1), (8, qi (q834.2 40 (Int.toNat a2))), (7, qi (q834.2 40 (Int.toNat a1))), (6, qi (q834.2 39 (Int.toNat a2))), (5, qi (q834.2 37 (Int.toNat a2))), (4, qi (q834.2 39 (Int.toNat a1))), (3, qi (q834.2 37 (Int.toNat a1))), (0, qr 0), (1, qi a1), (2, qi a2)]) dX11_swap_148 (by decide) rfl rfl ?_
            refine q_iload dX11_swap_150 rfl rfl ?_
            refine q_jn (G := fun (t859 : (Int × qSto)) => qW X (d + 6) yX11_swap cX11_swap 10 (some .int) 167 [(0, qr 0), (1, qi a1), (9, qi t859.1)] [] t859.2 Q) h (fun t859 h => ?_) (fun t859 h hk3783 => ?_)
            · try dsimp only at h
              refine q_iload dX11_swap_167 rfl rfl ?_
              obtain ⟨c860, h⟩ := qk_some h
              refine q_if_eq (tgt := 189) dX11_swap_169 (by decide) rfl (qRb_R c860)  (fun g => ?_) (fun g => ?_)
              · rw [if_pos (show t859.1 = 0 from g)] at h
                refine q_aload_n dX11_swap_189 rfl rfl ?_
                obtain ⟨q861, h862, h⟩ := Option.bind_eq_some_iff.mp h
                refine q_callVv (as := []) (c := 0) dX11_swap_190 ml_X11_303 rfl rfl (hL 0 (by decide)) sh_0 rfl rfl (Nat.le_of_ble_eq_true rfl) (C_keepAct_ok hL (d + 4) _ _ h862) rfl ?_
                refine q_aload_n dX11_swap_193 rfl rfl ?_
                refine q_getA dX11_swap_194 fl_X11_49 (hL 0 (by decide)) sh_0 (by decide) rfl rfl ?_
                refine q_getA dX11_swap_197 fl_X11_236 (hL 6 (by decide)) sh_6 (by decide) rfl rfl ?_
                refine q_iload_n dX11_swap_200 rfl rfl ?_
                obtain ⟨c863, h⟩ := qk_some h
                refine q_iaload dX11_swap_201 (hL 42 (by decide)) sh_42 (qIx_0 c863) (qIx_1 c863) rfl ?_
                cases h
                exact q_ireturn dX11_swap_202 rfl hQ
              · rw [if_neg (show ¬ (t859.1 = 0) from g)] at h
                refine q_aload_n dX11_swap_172 rfl rfl ?_
                refine q_getA dX11_swap_173 fl_X11_49 (hL 0 (by decide)) sh_0 (by decide) rfl rfl ?_
                refine q_aload_n dX11_swap_176 rfl rfl ?_
                refine q_getA dX11_swap_177 fl_X11_110 (hL 0 (by decide)) sh_0 (by decide) rfl rfl ?_
                obtain ⟨q890, h891, h⟩ := Option.bind_eq_some_iff.mp h
                refine q_callVv (as := [qr 14]) (c := 6) dX11_swap_180 ml_X11_335 rfl rfl (hL 6 (by decide)) sh_6 rfl rfl (Nat.le_of_ble_eq_true rfl) (Stays_load_14_ok hL (d + 1) _ _ h891) rfl ?_
                refine q_iload dX11_swap_183 rfl rfl ?_
                obtain ⟨q892, h893, h⟩ := Option.bind_eq_some_iff.mp h
                refine q_callSi (as := [qi t859.1]) dX11_swap_185 ml_X11_292 rfl rfl (Nat.le_of_ble_eq_true rfl) (C_refusal_ok hL (d + 5) t859.1 _ _ h893) rfl ?_
                cases h
                exact q_ireturn dX11_swap_188 rfl hQ
            · skip
              obtain ⟨c856, h⟩ := qk_some h
              refine q_if_ne (tgt := 167) dX11_swap_152 (by decide) rfl (qRb_R c856)  (fun g => ?_) (fun g => ?_)
              · rw [if_neg (show ¬ (q854.1 = 0) from g)] at h
                cases h
                exact q_pick [7, 8, 0] rfl hk3783
              · rw [if_pos (show q854.1 = 0 from g)] at h
                refine q_aload_n dX11_swap_155 rfl rfl ?_
                refine q_iload_n dX11_swap_156 rfl rfl ?_
                refine q_iload_n dX11_swap_157 rfl rfl ?_
                refine q_iload dX11_swap_158 rfl rfl ?_
                refine q_iload dX11_swap_160 rfl rfl ?_
                obtain ⟨q857, h858, h⟩ := Option.bind_eq_some_iff.mp h
                refine q_callVi (as := [qi a2, qi (q834.2 37 (Int.toNat a1)), qi (q834.2 39 (Int.toNat a1)), qi (q834.2 40 (Int.toNat a2))]) (c := 0) dX11_swap_162 ml_X11_332 rfl rfl (hL 0 (by decide)) sh_0 rfl rfl (Nat.le_of_ble_eq_true rfl) (C_layLawful_ok hL d a2 (q834.2 37 (Int.toNat a1)) (q834.2 39 (Int.toNat a1)) (q834.2 40 (Int.toNat a2)) _ _ h858) rfl ?_
                refine q_istore (lv' := [(9, qi q857.1), (8, qi (q834.2 40 (Int.toNat a2))), (7, qi (q834.2 40 (Int.toNat a1))), (6, qi (q834.2 39 (Int.toNat a2))), (5, qi (q834.2 37 (Int.toNat a2))), (4, qi (q834.2 39 (Int.toNat a1))), (3, qi (q834.2 37 (Int.toNat a1))), (0, qr 0), (1, qi a1), (2, qi a2)]) dX11_swap_165 (by decide) rfl rfl ?_
                cases h
                exact q_pick [7, 8, 0] rfl hk3783
          · rw [if_pos (show q834.1 = 0 from g)] at h
            refine q_iconst dX11_swap_43 rfl rfl ?_
            cases h
            exact q_ireturn dX11_swap_44 rfl hQ
set_option maxRecDepth 20000 in
theorem C_nextByOldSlot_L10_ok {X : qX} (hL : ∀ c, c < 93 → c ∈ qLs X) (d : Nat) {Q : Option qV → qSto → Prop} : ∀ (n : Nat) (x1 : Int) (x2 : Int) (x3 : Int) (x4 : Int) (x5 : Int) (S : qSto) (o : (Int × qSto)), C_nextByOldSlot_L10 n x1 x2 x3 x4 x5 S = some o → (qW X d yX11_nextByOldSlot cX11_nextByOldSlot 8 (some .int) 99 [(3, qi o.1)] [] o.2 Q) → qW X d yX11_nextByOldSlot cX11_nextByOldSlot 8 (some .int) 10 [(0, qr 0), (1, qi x1), (2, qi x2), (3, qi x3), (4, qi x4), (5, qi x5)] [] S Q := by
  intro n
  induction n with
  | zero =>
    intro x1 x2 x3 x4 x5 S o h
    simp [C_nextByOldSlot_L10] at h
  | succ n ih =>
    intro x1 x2 x3 x4 x5 S o h hE
    rw [C_nextByOldSlot_L10] at h
    refine q_iload dX11_nextByOldSlot_10 rfl rfl ?_
    refine q_aload_n dX11_nextByOldSlot_12 rfl rfl ?_
    refine q_getA dX11_nextByOldSlot_13 fl_X11_16 (hL 0 (by decide)) sh_0 (by decide) rfl rfl ?_
    refine q_getI dX11_nextByOldSlot_16 fl_X11_158 (hL 2 (by decide)) sh_2 (by decide) rfl rfl ?_
    obtain ⟨c898, h⟩ := qk_some h
    obtain ⟨c899, h⟩ := qk_some h
    refine q_icmp_ge (tgt := 99) dX11_nextByOldSlot_19 (by decide) rfl (qRb_R c898) (qRb_R c899) (fun g => ?_) (fun g => ?_)
    · rw [if_pos (show (S 2 12) ≤ x5 from g)] at h
      cases h
      exact q_pick [3] rfl (hE)
    · rw [if_neg (show ¬ ((S 2 12) ≤ x5) from g)] at h
      refine q_aload_n dX11_nextByOldSlot_22 rfl rfl ?_
      refine q_getA dX11_nextByOldSlot_23 fl_X11_110 (hL 0 (by decide)) sh_0 (by decide) rfl rfl ?_
      refine q_iload dX11_nextByOldSlot_26 rfl rfl ?_
      refine q_iconst dX11_nextByOldSlot_28 rfl rfl ?_
      refine q_imul dX11_nextByOldSlot_29 rfl ?_
      refine q_iconst dX11_nextByOldSlot_30 rfl rfl ?_
      refine q_iadd dX11_nextByOldSlot_31 rfl ?_
      obtain ⟨c900, h⟩ := qk_some h
      refine q_iaload dX11_nextByOldSlot_32 (hL 14 (by decide)) sh_14 (qIx_0 c900) (qIx_1 c900) rfl ?_
      refine q_istore (lv' := [(6, qi (S 14 (Int.toNat ((x5 * 3) + 1)))), (0, qr 0), (1, qi x1), (2, qi x2), (3, qi x3), (4, qi x4), (5, qi x5)]) dX11_nextByOldSlot_33 (by decide) rfl rfl ?_
      refine q_iload dX11_nextByOldSlot_35 rfl rfl ?_
      refine q_iload_n dX11_nextByOldSlot_37 rfl rfl ?_
      refine q_jn (G := fun (t907 : Int) => qW X d yX11_nextByOldSlot cX11_nextByOldSlot 8 (some .int) 58 [(0, qr 0), (1, qi x1), (2, qi x2), (3, qi x3), (4, qi x4), (5, qi x5), (6, qi (S 14 (Int.toNat ((x5 * 3) + 1))))] [qi t907] S Q) h (fun t907 h => ?_) (fun t907 h hk3784 => ?_)
      · try dsimp only at h
        refine q_istore (lv' := [(7, qi t907), (0, qr 0), (1, qi x1), (2, qi x2), (3, qi x3), (4, qi x4), (5, qi x5), (6, qi (S 14 (Int.toNat ((x5 * 3) + 1))))]) dX11_nextByOldSlot_58 (by decide) rfl rfl ?_
        refine q_aload_n dX11_nextByOldSlot_60 rfl rfl ?_
        refine q_getA dX11_nextByOldSlot_61 fl_X11_110 (hL 0 (by decide)) sh_0 (by decide) rfl rfl ?_
        refine q_iload dX11_nextByOldSlot_64 rfl rfl ?_
        refine q_iconst dX11_nextByOldSlot_66 rfl rfl ?_
        refine q_imul dX11_nextByOldSlot_67 rfl ?_
        refine q_iconst dX11_nextByOldSlot_68 rfl rfl ?_
        refine q_iadd dX11_nextByOldSlot_69 rfl ?_
        obtain ⟨c908, h⟩ := qk_some h
        refine q_iaload dX11_nextByOldSlot_70 (hL 14 (by decide)) sh_14 (qIx_0 c908) (qIx_1 c908) rfl ?_
        refine q_jn (G := fun (t913 : (Int × Int)) => qW X d yX11_nextByOldSlot cX11_nextByOldSlot 8 (some .int) 93 [(0, qr 0), (1, qi x1), (2, qi x2), (3, qi t913.1), (4, qi t913.2), (5, qi x5)] [] S Q) h (fun t913 h => ?_) (fun t913 h hk3785 => ?_)
        · try dsimp only at h
          refine q_iinc (lv' := [(5, qi (x5 + 1)), (0, qr 0), (1, qi x1), (2, qi x2), (3, qi t913.1), (4, qi t913.2)]) dX11_nextByOldSlot_93 (by decide) rfl rfl rfl ?_
          refine q_goto (pc' := 10) dX11_nextByOldSlot_96 (by decide) ?_
          exact q_pick [1, 2, 3, 4, 5, 0] rfl (ih x1 x2 t913.1 t913.2 (x5 + 1) _ _ h hE)
        · skip
          obtain ⟨c909, h⟩ := qk_some h
          refine q_if_le (tgt := 93) dX11_nextByOldSlot_71 (by decide) rfl (qRb_R c909)  (fun g => ?_) (fun g => ?_)
          · rw [if_pos (show (S 14 (Int.toNat ((x5 * 3) + 2))) ≤ 0 from g)] at h
            cases h
            exact q_pick [1, 2, 3, 4, 5, 6] rfl hk3785
          · rw [if_neg (show ¬ ((S 14 (Int.toNat ((x5 * 3) + 2))) ≤ 0) from g)] at h
            refine q_iload dX11_nextByOldSlot_74 rfl rfl ?_
            obtain ⟨c910, h⟩ := qk_some h
            refine q_if_eq (tgt := 93) dX11_nextByOldSlot_76 (by decide) rfl (qRb_R c910)  (fun g => ?_) (fun g => ?_)
            · rw [if_pos (show t907 = 0 from g)] at h
              cases h
              exact q_pick [1, 2, 3, 4, 5, 6] rfl hk3785
            · rw [if_neg (show ¬ (t907 = 0) from g)] at h
              refine q_iload dX11_nextByOldSlot_79 rfl rfl ?_
              refine q_iload dX11_nextByOldSlot_81 rfl rfl ?_
              obtain ⟨c911, h⟩ := qk_some h
              obtain ⟨c912, h⟩ := qk_some h
              refine q_icmp_ge (tgt := 93) dX11_nextByOldSlot_83 (by decide) rfl (qRb_R c911) (qRb_R c912) (fun g => ?_) (fun g => ?_)
              · rw [if_pos (show x4 ≤ (S 14 (Int.toNat ((x5 * 3) + 1))) from g)] at h
                cases h
                exact q_pick [1, 2, 3, 4, 5, 6] rfl hk3785
              · rw [if_neg (show ¬ (x4 ≤ (S 14 (Int.toNat ((x5 * 3) + 1)))) from g)] at h
                refine q_iload dX11_nextByOldSlot_86 rfl rfl ?_
                refine q_istore_n (lv' := [(3, qi x5), (7, qi t907), (0, qr 0), (1, qi x1), (2, qi x2), (4, qi x4), (5, qi x5), (6, qi (S 14 (Int.toNat ((x5 * 3) + 1))))]) dX11_nextByOldSlot_88 (by decide) rfl rfl ?_
                refine q_iload dX11_nextByOldSlot_89 rfl rfl ?_
                refine q_istore (lv' := [(4, qi (S 14 (Int.toNat ((x5 * 3) + 1)))), (3, qi x5), (7, qi t907), (0, qr 0), (1, qi x1), (2, qi x2), (5, qi x5), (6, qi (S 14 (Int.toNat ((x5 * 3) + 1))))]) dX11_nextByOldSlot_91 (by decide) rfl rfl ?_
                cases h
                exact q_pick [3, 4, 5, 1, 0, 6] rfl hk3785
      · skip
        obtain ⟨c901, h⟩ := qk_some h
        obtain ⟨c902, h⟩ := qk_some h
        refine q_icmp_gt (tgt := 53) dX11_nextByOldSlot_38 (by decide) rfl (qRb_R c901) (qRb_R c902) (fun g => ?_) (fun g => ?_)
        · rw [if_pos (show x1 < (S 14 (Int.toNat ((x5 * 3) + 1))) from g)] at h
          refine q_iconst dX11_nextByOldSlot_53 rfl rfl ?_
          refine q_goto (pc' := 58) dX11_nextByOldSlot_54 (by decide) ?_
          cases h
          exact q_pick [1, 2, 3, 4, 5, 6, 0] rfl hk3784
        · rw [if_neg (show ¬ (x1 < (S 14 (Int.toNat ((x5 * 3) + 1)))) from g)] at h
          refine q_iload dX11_nextByOldSlot_41 rfl rfl ?_
          refine q_iload_n dX11_nextByOldSlot_43 rfl rfl ?_
          obtain ⟨c903, h⟩ := qk_some h
          obtain ⟨c904, h⟩ := qk_some h
          refine q_icmp_ne (tgt := 57) dX11_nextByOldSlot_44 (by decide) rfl (qRb_R c903) (qRb_R c904) (fun g => ?_) (fun g => ?_)
          · rw [if_neg (show ¬ ((S 14 (Int.toNat ((x5 * 3) + 1))) = x1) from g)] at h
            refine q_iconst dX11_nextByOldSlot_57 rfl rfl ?_
            cases h
            exact q_pick [1, 2, 3, 4, 5, 6, 0] rfl hk3784
          · rw [if_pos (show (S 14 (Int.toNat ((x5 * 3) + 1))) = x1 from g)] at h
            refine q_iload dX11_nextByOldSlot_47 rfl rfl ?_
            refine q_iload_n dX11_nextByOldSlot_49 rfl rfl ?_
            obtain ⟨c905, h⟩ := qk_some h
            obtain ⟨c906, h⟩ := qk_some h
            refine q_icmp_le (tgt := 57) dX11_nextByOldSlot_50 (by decide) rfl (qRb_R c905) (qRb_R c906) (fun g => ?_) (fun g => ?_)
            · rw [if_pos (show x5 ≤ x2 from g)] at h
              refine q_iconst dX11_nextByOldSlot_57 rfl rfl ?_
              cases h
              exact q_pick [1, 2, 3, 4, 5, 6, 0] rfl hk3784
            · rw [if_neg (show ¬ (x5 ≤ x2) from g)] at h
              refine q_iconst dX11_nextByOldSlot_53 rfl rfl ?_
              refine q_goto (pc' := 58) dX11_nextByOldSlot_54 (by decide) ?_
              cases h
              exact q_pick [1, 2, 3, 4, 5, 6, 0] rfl hk3784
set_option maxRecDepth 20000 in
theorem C_nextByOldSlot_ok {X : qX} (hL : ∀ c, c < 93 → c ∈ qLs X) (d : Nat) (a1 : Int) (a2 : Int) (S : qSto) (o : (Int × qSto)) (h : C_nextByOldSlot a1 a2 S = some o) (Q : Option qV → qSto → Prop) (hQ : Q (some (qi o.1)) o.2) : qC X d yX11_nextByOldSlot cX11_nextByOldSlot 8 (some .int) [qr 0, qi a1, qi a2] S Q := by
  refine q_entry (lv := [(0, qr 0), (1, qi a1), (2, qi a2)]) pn_X11 (Nat.le_of_ble_eq_true rfl) rfl ?_
  unfold C_nextByOldSlot at h
  refine q_iconst dX11_nextByOldSlot_0 rfl rfl ?_
  refine q_istore_n (lv' := [(3, qi (-1)), (0, qr 0), (1, qi a1), (2, qi a2)]) dX11_nextByOldSlot_1 (by decide) rfl rfl ?_
  refine q_sipush dX11_nextByOldSlot_2 (by decide) rfl ?_
  refine q_istore (lv' := [(4, qi 336), (3, qi (-1)), (0, qr 0), (1, qi a1), (2, qi a2)]) dX11_nextByOldSlot_5 (by decide) rfl rfl ?_
  refine q_iconst dX11_nextByOldSlot_7 rfl rfl ?_
  refine q_istore (lv' := [(5, qi 0), (4, qi 336), (3, qi (-1)), (0, qr 0), (1, qi a1), (2, qi a2)]) dX11_nextByOldSlot_8 (by decide) rfl rfl ?_
  obtain ⟨q914, h915, h⟩ := Option.bind_eq_some_iff.mp h
  refine q_pick [3, 4, 5, 2, 1, 0] rfl (C_nextByOldSlot_L10_ok hL d qF a1 a2 (-1) 336 0 _ _ h915 ?_)
  refine q_iload_n dX11_nextByOldSlot_99 rfl rfl ?_
  cases h
  exact q_ireturn dX11_nextByOldSlot_100 rfl hQ
set_option maxRecDepth 20000 in
theorem C_drawEarlier_L50_ok {X : qX} (hL : ∀ c, c < 93 → c ∈ qLs X) (d : Nat) {Q : Option qV → qSto → Prop} : ∀ (n : Nat) (x1 : Int) (x2 : Int) (x3 : Int) (x4 : Int) (x5 : Int) (S : qSto) (o : (qSto ⊕ (Int × qSto))), C_drawEarlier_L50 n x1 x2 x3 x4 x5 S = some o → (∀ t, o = Sum.inl t → qW X (d + 6) yX11_drawEarlier cX11_drawEarlier 6 (some .boolean) 77 [(0, qr 0), (1, qi x1)] [] t Q) → (∀ w, o = Sum.inr w → Q (some (qi w.1)) w.2) → qW X (d + 6) yX11_drawEarlier cX11_drawEarlier 6 (some .boolean) 50 [(0, qr 0), (1, qi x1), (2, qi x2), (3, qi x3), (4, qi x4), (5, qi x5)] [] S Q := by
  intro n
  induction n with
  | zero =>
    intro x1 x2 x3 x4 x5 S o h
    simp [C_drawEarlier_L50] at h
  | succ n ih =>
    intro x1 x2 x3 x4 x5 S o h hE hR
    rw [C_drawEarlier_L50] at h
    refine q_iload dX11_drawEarlier_50 rfl rfl ?_
    refine q_iload dX11_drawEarlier_52 rfl rfl ?_
    obtain ⟨c927, h⟩ := qk_some h
    obtain ⟨c928, h⟩ := qk_some h
    refine q_icmp_ge (tgt := 77) dX11_drawEarlier_54 (by decide) rfl (qRb_R c927) (qRb_R c928) (fun g => ?_) (fun g => ?_)
    · rw [if_pos (show x4 ≤ x5 from g)] at h
      cases h
      exact q_pick [0, 1] rfl (hE _ rfl)
    · rw [if_neg (show ¬ (x4 ≤ x5) from g)] at h
      refine q_aload_n dX11_drawEarlier_57 rfl rfl ?_
      refine q_iload_n dX11_drawEarlier_58 rfl rfl ?_
      refine q_iload_n dX11_drawEarlier_59 rfl rfl ?_
      refine q_iload dX11_drawEarlier_60 rfl rfl ?_
      refine q_iload_n dX11_drawEarlier_62 rfl rfl ?_
      obtain ⟨q929, h930, h⟩ := Option.bind_eq_some_iff.mp h
      refine q_callVi (as := [qi x1, qi x2, qi x5, qi x3]) (c := 0) dX11_drawEarlier_63 ml_X11_332 rfl rfl (hL 0 (by decide)) sh_0 rfl rfl (Nat.le_of_ble_eq_true rfl) (C_layLawful_ok hL d x1 x2 x5 x3 _ _ h930) rfl ?_
      obtain ⟨c931, h⟩ := qk_some h
      refine q_if_ne (tgt := 71) dX11_drawEarlier_66 (by decide) rfl (qRb_R c931)  (fun g => ?_) (fun g => ?_)
      · rw [if_neg (show ¬ (q929.1 = 0) from g)] at h
        refine q_iinc (lv' := [(5, qi (x5 + 1)), (0, qr 0), (1, qi x1), (2, qi x2), (3, qi x3), (4, qi x4)]) dX11_drawEarlier_71 (by decide) rfl rfl rfl ?_
        refine q_goto (pc' := 50) dX11_drawEarlier_74 (by decide) ?_
        exact q_pick [1, 2, 3, 4, 5, 0] rfl (ih x1 x2 x3 x4 (x5 + 1) _ _ h hE hR)
      · rw [if_pos (show q929.1 = 0 from g)] at h
        refine q_iconst dX11_drawEarlier_69 rfl rfl ?_
        cases h
        exact q_zreturn dX11_drawEarlier_70 rfl (by decide) (hR _ rfl)
set_option maxRecDepth 20000 in
theorem C_drawEarlier_ok {X : qX} (hL : ∀ c, c < 93 → c ∈ qLs X) (d : Nat) (a1 : Int) (S : qSto) (o : (Int × qSto)) (h : C_drawEarlier a1 S = some o) (Q : Option qV → qSto → Prop) (hQ : Q (some (qi o.1)) o.2) : qC X (d + 6) yX11_drawEarlier cX11_drawEarlier 6 (some .boolean) [qr 0, qi a1] S Q := by
  refine q_entry (lv := [(0, qr 0), (1, qi a1)]) pn_X11 (Nat.le_of_ble_eq_true rfl) rfl ?_
  unfold C_drawEarlier at h
  refine q_aload_n dX11_drawEarlier_0 rfl rfl ?_
  refine q_getA dX11_drawEarlier_1 fl_X11_49 (hL 0 (by decide)) sh_0 (by decide) rfl rfl ?_
  refine q_getA dX11_drawEarlier_4 fl_X11_225 (hL 6 (by decide)) sh_6 (by decide) rfl rfl ?_
  refine q_iload_n dX11_drawEarlier_7 rfl rfl ?_
  obtain ⟨c920, h⟩ := qk_some h
  refine q_iaload dX11_drawEarlier_8 (hL 37 (by decide)) sh_37 (qIx_0 c920) (qIx_1 c920) rfl ?_
  refine q_istore_n (lv' := [(2, qi (S 37 (Int.toNat a1))), (0, qr 0), (1, qi a1)]) dX11_drawEarlier_9 (by decide) rfl rfl ?_
  refine q_aload_n dX11_drawEarlier_10 rfl rfl ?_
  refine q_getA dX11_drawEarlier_11 fl_X11_49 (hL 0 (by decide)) sh_0 (by decide) rfl rfl ?_
  refine q_getA dX11_drawEarlier_14 fl_X11_231 (hL 6 (by decide)) sh_6 (by decide) rfl rfl ?_
  refine q_iload_n dX11_drawEarlier_17 rfl rfl ?_
  obtain ⟨c921, h⟩ := qk_some h
  refine q_iaload dX11_drawEarlier_18 (hL 40 (by decide)) sh_40 (qIx_0 c921) (qIx_1 c921) rfl ?_
  refine q_istore_n (lv' := [(3, qi (S 40 (Int.toNat a1))), (2, qi (S 37 (Int.toNat a1))), (0, qr 0), (1, qi a1)]) dX11_drawEarlier_19 (by decide) rfl rfl ?_
  refine q_aload_n dX11_drawEarlier_20 rfl rfl ?_
  refine q_getA dX11_drawEarlier_21 fl_X11_49 (hL 0 (by decide)) sh_0 (by decide) rfl rfl ?_
  refine q_getA dX11_drawEarlier_24 fl_X11_228 (hL 6 (by decide)) sh_6 (by decide) rfl rfl ?_
  refine q_iload_n dX11_drawEarlier_27 rfl rfl ?_
  obtain ⟨c922, h⟩ := qk_some h
  refine q_iaload dX11_drawEarlier_28 (hL 39 (by decide)) sh_39 (qIx_0 c922) (qIx_1 c922) rfl ?_
  refine q_istore (lv' := [(4, qi (S 39 (Int.toNat a1))), (3, qi (S 40 (Int.toNat a1))), (2, qi (S 37 (Int.toNat a1))), (0, qr 0), (1, qi a1)]) dX11_drawEarlier_29 (by decide) rfl rfl ?_
  refine q_aload_n dX11_drawEarlier_31 rfl rfl ?_
  refine q_getA dX11_drawEarlier_32 fl_X11_49 (hL 0 (by decide)) sh_0 (by decide) rfl rfl ?_
  refine q_iload_n dX11_drawEarlier_35 rfl rfl ?_
  obtain ⟨q923, h924, h⟩ := Option.bind_eq_some_iff.mp h
  refine q_callVv (as := [qi a1]) (c := 6) dX11_drawEarlier_36 ml_X11_260 rfl rfl (hL 6 (by decide)) sh_6 rfl rfl (Nat.le_of_ble_eq_true rfl) (Stays_takeUp_ok hL (d + 2) a1 _ _ h924) rfl ?_
  refine q_aload_n dX11_drawEarlier_39 rfl rfl ?_
  refine q_getA dX11_drawEarlier_40 fl_X11_16 (hL 0 (by decide)) sh_0 (by decide) rfl rfl ?_
  refine q_iload_n dX11_drawEarlier_43 rfl rfl ?_
  refine q_iconst dX11_drawEarlier_44 rfl rfl ?_
  obtain ⟨q925, h926, h⟩ := Option.bind_eq_some_iff.mp h
  refine q_callVi (as := [qi a1, qi 4]) (c := 2) dX11_drawEarlier_45 ml_X11_219 rfl rfl (hL 2 (by decide)) sh_2 rfl rfl (Nat.le_of_ble_eq_true rfl) (Told_contractOf_ok hL (d + 5) a1 4 _ _ h926) rfl ?_
  refine q_istore (lv' := [(5, qi q925.1), (4, qi (S 39 (Int.toNat a1))), (3, qi (S 40 (Int.toNat a1))), (2, qi (S 37 (Int.toNat a1))), (0, qr 0), (1, qi a1)]) dX11_drawEarlier_48 (by decide) rfl rfl ?_
  obtain ⟨q932, h933, h⟩ := Option.bind_eq_some_iff.mp h
  refine q_pick [4, 5, 3, 2, 1, 0] rfl (C_drawEarlier_L50_ok hL d qF a1 (S 37 (Int.toNat a1)) (S 40 (Int.toNat a1)) (S 39 (Int.toNat a1)) q925.1 _ _ h933 (fun t934 e3786 => ?_) (fun w e3786 => ?_))
  · subst e3786
    simp only [Sum.elim_inl] at h
    refine q_aload_n dX11_drawEarlier_77 rfl rfl ?_
    refine q_getA dX11_drawEarlier_78 fl_X11_49 (hL 0 (by decide)) sh_0 (by decide) rfl rfl ?_
    refine q_iload_n dX11_drawEarlier_81 rfl rfl ?_
    obtain ⟨q935, h936, h⟩ := Option.bind_eq_some_iff.mp h
    refine q_callVv (as := [qi a1]) (c := 6) dX11_drawEarlier_82 ml_X11_267 rfl rfl (hL 6 (by decide)) sh_6 rfl rfl (Nat.le_of_ble_eq_true rfl) (Stays_layBack_ok hL (d + 1) a1 _ _ h936) rfl ?_
    refine q_iconst dX11_drawEarlier_85 rfl rfl ?_
    cases h
    exact q_zreturn dX11_drawEarlier_86 rfl (by decide) hQ
  · subst e3786
    simp only [Sum.elim_inr] at h
    cases h
    exact hQ
set_option maxRecDepth 20000 in
theorem C_squeeze_L20_ok {X : qX} (hL : ∀ c, c < 93 → c ∈ qLs X) (d : Nat) {Q : Option qV → qSto → Prop} : ∀ (n : Nat) (x1 : Int) (x2 : Int) (x3 : Int) (x4 : Int) (S : qSto) (o : (Int × qSto)), C_squeeze_L20 n x1 x2 x3 x4 S = some o → (qW X (d + 7) yX11_squeeze cX11_squeeze 6 (some .int) 82 [(0, qr 0), (1, qi o.1)] [] o.2 Q) → qW X (d + 7) yX11_squeeze cX11_squeeze 6 (some .int) 20 [(0, qr 0), (1, qi x1), (2, qi x2), (3, qi x3), (4, qi x4)] [] S Q := by
  intro n
  induction n with
  | zero =>
    intro x1 x2 x3 x4 S o h
    simp [C_squeeze_L20] at h
  | succ n ih =>
    intro x1 x2 x3 x4 S o h hE
    rw [C_squeeze_L20] at h
    refine q_iload dX11_squeeze_20 rfl rfl ?_
    refine q_aload_n dX11_squeeze_22 rfl rfl ?_
    refine q_getA dX11_squeeze_23 fl_X11_16 (hL 0 (by decide)) sh_0 (by decide) rfl rfl ?_
    refine q_getI dX11_squeeze_26 fl_X11_158 (hL 2 (by decide)) sh_2 (by decide) rfl rfl ?_
    obtain ⟨c896, h⟩ := qk_some h
    obtain ⟨c897, h⟩ := qk_some h
    refine q_icmp_ge (tgt := 82) dX11_squeeze_29 (by decide) rfl (qRb_R c896) (qRb_R c897) (fun g => ?_) (fun g => ?_)
    · rw [if_pos (show (S 2 12) ≤ x4 from g)] at h
      cases h
      exact q_pick [0, 1] rfl (hE)
    · rw [if_neg (show ¬ ((S 2 12) ≤ x4) from g)] at h
      refine q_aload_n dX11_squeeze_32 rfl rfl ?_
      refine q_iload_n dX11_squeeze_33 rfl rfl ?_
      refine q_iload_n dX11_squeeze_34 rfl rfl ?_
      obtain ⟨q916, h917, h⟩ := Option.bind_eq_some_iff.mp h
      refine q_callVi (as := [qi x2, qi x3]) (c := 0) dX11_squeeze_35 ml_X11_338 rfl rfl (hL 0 (by decide)) sh_0 rfl rfl (Nat.le_of_ble_eq_true rfl) (C_nextByOldSlot_ok hL (d + 6) x2 x3 _ _ h917) rfl ?_
      refine q_istore (lv' := [(5, qi q916.1), (0, qr 0), (1, qi x1), (2, qi x2), (3, qi x3), (4, qi x4)]) dX11_squeeze_38 (by decide) rfl rfl ?_
      refine q_iload dX11_squeeze_40 rfl rfl ?_
      refine q_iconst dX11_squeeze_42 rfl rfl ?_
      obtain ⟨c918, h⟩ := qk_some h
      refine q_icmp_ne (tgt := 49) dX11_squeeze_43 (by decide) rfl (qRb_R c918) ⟨by decide, by decide⟩ (fun g => ?_) (fun g => ?_)
      · rw [if_neg (show ¬ (q916.1 = (-1)) from g)] at h
        refine q_aload_n dX11_squeeze_49 rfl rfl ?_
        refine q_getA dX11_squeeze_50 fl_X11_110 (hL 0 (by decide)) sh_0 (by decide) rfl rfl ?_
        refine q_iload dX11_squeeze_53 rfl rfl ?_
        refine q_iconst dX11_squeeze_55 rfl rfl ?_
        refine q_imul dX11_squeeze_56 rfl ?_
        refine q_iconst dX11_squeeze_57 rfl rfl ?_
        refine q_iadd dX11_squeeze_58 rfl ?_
        obtain ⟨c919, h⟩ := qk_some h
        refine q_iaload dX11_squeeze_59 (hL 14 (by decide)) sh_14 (qIx_0 c919) (qIx_1 c919) rfl ?_
        refine q_istore_n (lv' := [(2, qi (q916.2 14 (Int.toNat ((q916.1 * 3) + 1)))), (5, qi q916.1), (0, qr 0), (1, qi x1), (3, qi x3), (4, qi x4)]) dX11_squeeze_60 (by decide) rfl rfl ?_
        refine q_iload dX11_squeeze_61 rfl rfl ?_
        refine q_istore_n (lv' := [(3, qi q916.1), (2, qi (q916.2 14 (Int.toNat ((q916.1 * 3) + 1)))), (5, qi q916.1), (0, qr 0), (1, qi x1), (4, qi x4)]) dX11_squeeze_63 (by decide) rfl rfl ?_
        refine q_aload_n dX11_squeeze_64 rfl rfl ?_
        refine q_iload dX11_squeeze_65 rfl rfl ?_
        obtain ⟨q937, h938, h⟩ := Option.bind_eq_some_iff.mp h
        refine q_callVi (as := [qi q916.1]) (c := 0) dX11_squeeze_67 ml_X11_341 rfl rfl (hL 0 (by decide)) sh_0 rfl rfl (Nat.le_of_ble_eq_true rfl) (C_drawEarlier_ok hL d q916.1 _ _ h938) rfl ?_
        refine q_jn (G := fun (t940 : Int) => qW X (d + 7) yX11_squeeze cX11_squeeze 6 (some .int) 76 [(0, qr 0), (1, qi t940), (2, qi (q916.2 14 (Int.toNat ((q916.1 * 3) + 1)))), (3, qi q916.1), (4, qi x4)] [] q937.2 Q) h (fun t940 h => ?_) (fun t940 h hk3787 => ?_)
        · try dsimp only at h
          refine q_iinc (lv' := [(4, qi (x4 + 1)), (0, qr 0), (1, qi t940), (2, qi (q916.2 14 (Int.toNat ((q916.1 * 3) + 1)))), (3, qi q916.1)]) dX11_squeeze_76 (by decide) rfl rfl rfl ?_
          refine q_goto (pc' := 20) dX11_squeeze_79 (by decide) ?_
          exact q_pick [1, 2, 3, 4, 0] rfl (ih t940 (q916.2 14 (Int.toNat ((q916.1 * 3) + 1))) q916.1 (x4 + 1) _ _ h hE)
        · skip
          obtain ⟨c939, h⟩ := qk_some h
          refine q_if_eq (tgt := 76) dX11_squeeze_70 (by decide) rfl (qRb_R c939)  (fun g => ?_) (fun g => ?_)
          · rw [if_pos (show q937.1 = 0 from g)] at h
            cases h
            exact q_pick [3, 4, 1, 0, 5] rfl hk3787
          · rw [if_neg (show ¬ (q937.1 = 0) from g)] at h
            refine q_iinc (lv' := [(1, qi (x1 + 1)), (3, qi q916.1), (2, qi (q916.2 14 (Int.toNat ((q916.1 * 3) + 1)))), (5, qi q916.1), (0, qr 0), (4, qi x4)]) dX11_squeeze_73 (by decide) rfl rfl rfl ?_
            cases h
            exact q_pick [4, 0, 2, 1, 5] rfl hk3787
      · rw [if_pos (show q916.1 = (-1) from g)] at h
        refine q_goto (pc' := 82) dX11_squeeze_46 (by decide) ?_
        cases h
        exact q_pick [1, 2] rfl (hE)
set_option maxRecDepth 20000 in
theorem C_squeeze_ok {X : qX} (hL : ∀ c, c < 93 → c ∈ qLs X) (d : Nat) (S : qSto) (o : (Int × qSto)) (h : C_squeeze S = some o) (Q : Option qV → qSto → Prop) (hQ : Q (some (qi o.1)) o.2) : qC X (d + 7) yX11_squeeze cX11_squeeze 6 (some .int) [qr 0] S Q := by
  refine q_entry (lv := [(0, qr 0)]) pn_X11 (Nat.le_of_ble_eq_true rfl) rfl ?_
  unfold C_squeeze at h
  refine q_aload_n dX11_squeeze_0 rfl rfl ?_
  refine q_getA dX11_squeeze_1 fl_X11_49 (hL 0 (by decide)) sh_0 (by decide) rfl rfl ?_
  refine q_aload_n dX11_squeeze_4 rfl rfl ?_
  refine q_getA dX11_squeeze_5 fl_X11_110 (hL 0 (by decide)) sh_0 (by decide) rfl rfl ?_
  obtain ⟨q894, h895, h⟩ := Option.bind_eq_some_iff.mp h
  refine q_callVv (as := [qr 14]) (c := 6) dX11_squeeze_8 ml_X11_295 rfl rfl (hL 6 (by decide)) sh_6 rfl rfl (Nat.le_of_ble_eq_true rfl) (Stays_save_14_ok hL (d + 6) _ _ h895) rfl ?_
  refine q_iconst dX11_squeeze_11 rfl rfl ?_
  refine q_istore_n (lv' := [(1, qi 0), (0, qr 0)]) dX11_squeeze_12 (by decide) rfl rfl ?_
  refine q_iconst dX11_squeeze_13 rfl rfl ?_
  refine q_istore_n (lv' := [(2, qi (-1)), (1, qi 0), (0, qr 0)]) dX11_squeeze_14 (by decide) rfl rfl ?_
  refine q_iconst dX11_squeeze_15 rfl rfl ?_
  refine q_istore_n (lv' := [(3, qi (-1)), (2, qi (-1)), (1, qi 0), (0, qr 0)]) dX11_squeeze_16 (by decide) rfl rfl ?_
  refine q_iconst dX11_squeeze_17 rfl rfl ?_
  refine q_istore (lv' := [(4, qi 0), (3, qi (-1)), (2, qi (-1)), (1, qi 0), (0, qr 0)]) dX11_squeeze_18 (by decide) rfl rfl ?_
  obtain ⟨q941, h942, h⟩ := Option.bind_eq_some_iff.mp h
  refine q_pick [4, 3, 2, 1, 0] rfl (C_squeeze_L20_ok hL d qF 0 (-1) (-1) 0 _ _ h942 ?_)
  refine q_iload_n dX11_squeeze_82 rfl rfl ?_
  obtain ⟨c943, h⟩ := qk_some h
  refine q_if_ne (tgt := 88) dX11_squeeze_83 (by decide) rfl (qRb_R c943)  (fun g => ?_) (fun g => ?_)
  · rw [if_neg (show ¬ (q941.1 = 0) from g)] at h
    refine q_aload_n dX11_squeeze_88 rfl rfl ?_
    obtain ⟨q944, h945, h⟩ := Option.bind_eq_some_iff.mp h
    refine q_callVv (as := []) (c := 0) dX11_squeeze_89 ml_X11_303 rfl rfl (hL 0 (by decide)) sh_0 rfl rfl (Nat.le_of_ble_eq_true rfl) (C_keepAct_ok hL (d + 5) _ _ h945) rfl ?_
    refine q_iload_n dX11_squeeze_92 rfl rfl ?_
    cases h
    exact q_ireturn dX11_squeeze_93 rfl hQ
  · rw [if_pos (show q941.1 = 0 from g)] at h
    refine q_iconst dX11_squeeze_86 rfl rfl ?_
    cases h
    exact q_ireturn dX11_squeeze_87 rfl hQ
set_option maxRecDepth 20000 in
theorem C_places_L55_ok {X : qX} (hL : ∀ c, c < 93 → c ∈ qLs X) (d : Nat) {Q : Option qV → qSto → Prop} : ∀ (n : Nat) (x1 : Int) (x2 : Int) (x3 : Int) (x4 : Int) (x5 : Int) (x6 : Int) (x7 : Int) (x8 : Int) (S : qSto) (o : (Int × Int × qSto)), C_places_L55 n x1 x2 x3 x4 x5 x6 x7 x8 S = some o → (qW X (d + 5) yX11_places cX11_places 9 (some .int) 97 [(0, qr 0), (1, qi x1), (4, qi x4), (5, qi o.1), (6, qi o.2.1)] [] o.2.2 Q) → qW X (d + 5) yX11_places cX11_places 9 (some .int) 55 [(0, qr 0), (1, qi x1), (2, qi x2), (3, qi x3), (4, qi x4), (5, qi x5), (6, qi x6), (7, qi x7), (8, qi x8)] [] S Q := by
  intro n
  induction n with
  | zero =>
    intro x1 x2 x3 x4 x5 x6 x7 x8 S o h
    simp [C_places_L55] at h
  | succ n ih =>
    intro x1 x2 x3 x4 x5 x6 x7 x8 S o h hE
    rw [C_places_L55] at h
    refine q_iload dX11_places_55 rfl rfl ?_
    refine q_iload dX11_places_57 rfl rfl ?_
    obtain ⟨c954, h⟩ := qk_some h
    obtain ⟨c955, h⟩ := qk_some h
    refine q_icmp_gt (tgt := 97) dX11_places_59 (by decide) rfl (qRb_R c954) (qRb_R c955) (fun g => ?_) (fun g => ?_)
    · rw [if_pos (show x7 < x8 from g)] at h
      cases h
      exact q_pick [0, 1, 4, 5, 6] rfl (hE)
    · rw [if_neg (show ¬ (x7 < x8) from g)] at h
      refine q_aload_n dX11_places_62 rfl rfl ?_
      refine q_getA dX11_places_63 fl_X11_67 (hL 0 (by decide)) sh_0 (by decide) rfl rfl ?_
      refine q_iload_n dX11_places_66 rfl rfl ?_
      refine q_iload dX11_places_67 rfl rfl ?_
      refine q_iload_n dX11_places_69 rfl rfl ?_
      refine q_iload_n dX11_places_70 rfl rfl ?_
      obtain ⟨q956, h957, h⟩ := Option.bind_eq_some_iff.mp h
      refine q_callVi (as := [qi x1, qi x8, qi x2, qi x3]) (c := 8) dX11_places_71 ml_X11_263 rfl rfl (hL 8 (by decide)) sh_8 rfl rfl (Nat.le_of_ble_eq_true rfl) (Laws_firstBroken_ok hL d x1 x8 x2 x3 _ _ h957) rfl ?_
      refine q_jn (G := fun (t962 : (Int × Int)) => qW X (d + 5) yX11_places cX11_places 9 (some .int) 91 [(0, qr 0), (1, qi x1), (2, qi x2), (3, qi x3), (4, qi x4), (5, qi t962.1), (6, qi t962.2), (7, qi x7), (8, qi x8)] [] q956.2 Q) h (fun t962 h => ?_) (fun t962 h hk3788 => ?_)
      · try dsimp only at h
        refine q_iinc (lv' := [(8, qi (x8 + 10)), (0, qr 0), (1, qi x1), (2, qi x2), (3, qi x3), (4, qi x4), (5, qi t962.1), (6, qi t962.2), (7, qi x7)]) dX11_places_91 (by decide) rfl rfl rfl ?_
        refine q_goto (pc' := 55) dX11_places_94 (by decide) ?_
        exact q_pick [1, 2, 3, 4, 5, 6, 7, 8, 0] rfl (ih x1 x2 x3 x4 t962.1 t962.2 x7 (x8 + 10) _ _ h hE)
      · skip
        obtain ⟨c958, h⟩ := qk_some h
        refine q_if_ne (tgt := 91) dX11_places_74 (by decide) rfl (qRb_R c958)  (fun g => ?_) (fun g => ?_)
        · rw [if_neg (show ¬ (q956.1 = 0) from g)] at h
          cases h
          exact q_pick [0, 1, 2, 3, 4, 5, 6, 7, 8] rfl hk3788
        · rw [if_pos (show q956.1 = 0 from g)] at h
          refine q_iload dX11_places_77 rfl rfl ?_
          refine q_iload dX11_places_79 rfl rfl ?_
          refine q_jn (G := fun (t961 : Int) => qW X (d + 5) yX11_places cX11_places 9 (some .int) 88 [(0, qr 0), (1, qi x1), (2, qi x2), (3, qi x3), (4, qi x4), (5, qi x5), (6, qi t961), (7, qi x7), (8, qi x8)] [] q956.2 Q) h (fun t961 h => ?_) (fun t961 h hk3789 => ?_)
          · try dsimp only at h
            refine q_iinc (lv' := [(5, qi (x5 + 1)), (0, qr 0), (1, qi x1), (2, qi x2), (3, qi x3), (4, qi x4), (6, qi t961), (7, qi x7), (8, qi x8)]) dX11_places_88 (by decide) rfl rfl rfl ?_
            cases h
            exact q_pick [1, 2, 3, 4, 5, 0, 6, 7, 8] rfl hk3788
          · skip
            obtain ⟨c959, h⟩ := qk_some h
            obtain ⟨c960, h⟩ := qk_some h
            refine q_icmp_ne (tgt := 88) dX11_places_81 (by decide) rfl (qRb_R c959) (qRb_R c960) (fun g => ?_) (fun g => ?_)
            · rw [if_neg (show ¬ (x5 = x4) from g)] at h
              cases h
              exact q_pick [0, 1, 2, 3, 4, 5, 6, 7, 8] rfl hk3789
            · rw [if_pos (show x5 = x4 from g)] at h
              refine q_iload dX11_places_84 rfl rfl ?_
              refine q_istore (lv' := [(6, qi x8), (0, qr 0), (1, qi x1), (2, qi x2), (3, qi x3), (4, qi x4), (5, qi x5), (7, qi x7), (8, qi x8)]) dX11_places_86 (by decide) rfl rfl ?_
              cases h
              exact q_pick [1, 2, 3, 4, 5, 6, 0, 7, 8] rfl hk3789
set_option maxRecDepth 20000 in
theorem C_places_ok {X : qX} (hL : ∀ c, c < 93 → c ∈ qLs X) (d : Nat) (a1 : Int) (a2 : Int) (a3 : Int) (a4 : Int) (S : qSto) (o : (Int × qSto)) (h : C_places a1 a2 a3 a4 S = some o) (Q : Option qV → qSto → Prop) (hQ : Q (some (qi o.1)) o.2) : qC X (d + 5) yX11_places cX11_places 9 (some .int) [qr 0, qi a1, qi a2, qi a3, qi a4] S Q := by
  refine q_entry (lv := [(0, qr 0), (1, qi a1), (2, qi a2), (3, qi a3), (4, qi a4)]) pn_X11 (Nat.le_of_ble_eq_true rfl) rfl ?_
  unfold C_places at h
  refine q_aload_n dX11_places_0 rfl rfl ?_
  refine q_iload_n dX11_places_1 rfl rfl ?_
  obtain ⟨q946, h947, h⟩ := Option.bind_eq_some_iff.mp h
  refine q_callVi (as := [qi a1]) (c := 0) dX11_places_2 ml_X11_216 rfl rfl (hL 0 (by decide)) sh_0 rfl rfl (Nat.le_of_ble_eq_true rfl) (C_isShip_ok hL (d + 4) a1 _ _ h947) rfl ?_
  obtain ⟨c948, h⟩ := qk_some h
  refine q_if_eq (tgt := 14) dX11_places_5 (by decide) rfl (qRb_R c948)  (fun g => ?_) (fun g => ?_)
  · rw [if_pos (show q946.1 = 0 from g)] at h
    refine q_iconst dX11_places_14 rfl rfl ?_
    cases h
    exact q_ireturn dX11_places_15 rfl hQ
  · rw [if_neg (show ¬ (q946.1 = 0) from g)] at h
    refine q_iload dX11_places_8 rfl rfl ?_
    refine q_iconst dX11_places_10 rfl rfl ?_
    obtain ⟨c949, h⟩ := qk_some h
    refine q_icmp_ge (tgt := 16) dX11_places_11 (by decide) rfl (qRb_R c949) ⟨by decide, by decide⟩ (fun g => ?_) (fun g => ?_)
    · rw [if_pos (show (-1) ≤ a4 from g)] at h
      refine q_aload_n dX11_places_16 rfl rfl ?_
      refine q_getA dX11_places_17 fl_X11_49 (hL 0 (by decide)) sh_0 (by decide) rfl rfl ?_
      refine q_iload_n dX11_places_20 rfl rfl ?_
      obtain ⟨q950, h951, h⟩ := Option.bind_eq_some_iff.mp h
      refine q_callVv (as := [qi a1]) (c := 6) dX11_places_21 ml_X11_260 rfl rfl (hL 6 (by decide)) sh_6 rfl rfl (Nat.le_of_ble_eq_true rfl) (Stays_takeUp_ok hL (d + 1) a1 _ _ h951) rfl ?_
      refine q_iconst dX11_places_24 rfl rfl ?_
      refine q_istore (lv' := [(5, qi 0), (0, qr 0), (1, qi a1), (2, qi a2), (3, qi a3), (4, qi a4)]) dX11_places_25 (by decide) rfl rfl ?_
      refine q_bipush dX11_places_27 (by decide) rfl ?_
      refine q_istore (lv' := [(6, qi (-2)), (5, qi 0), (0, qr 0), (1, qi a1), (2, qi a2), (3, qi a3), (4, qi a4)]) dX11_places_29 (by decide) rfl rfl ?_
      refine q_aload_n dX11_places_31 rfl rfl ?_
      refine q_getA dX11_places_32 fl_X11_16 (hL 0 (by decide)) sh_0 (by decide) rfl rfl ?_
      refine q_getA dX11_places_35 fl_X11_146 (hL 2 (by decide)) sh_2 (by decide) rfl rfl ?_
      refine q_iconst dX11_places_38 rfl rfl ?_
      refine q_iaload dX11_places_39 (hL 15 (by decide)) sh_15 (by decide) (by decide) rfl ?_
      refine q_aload_n dX11_places_40 rfl rfl ?_
      refine q_getA dX11_places_41 fl_X11_16 (hL 0 (by decide)) sh_0 (by decide) rfl rfl ?_
      refine q_iload_n dX11_places_44 rfl rfl ?_
      refine q_iconst dX11_places_45 rfl rfl ?_
      obtain ⟨q952, h953, h⟩ := Option.bind_eq_some_iff.mp h
      refine q_callVi (as := [qi a1, qi 0]) (c := 2) dX11_places_46 ml_X11_219 rfl rfl (hL 2 (by decide)) sh_2 rfl rfl (Nat.le_of_ble_eq_true rfl) (Told_contractOf_ok hL (d + 4) a1 0 _ _ h953) rfl ?_
      refine q_isub dX11_places_49 rfl ?_
      refine q_istore (lv' := [(7, qi ((q950 15 0) - q952.1)), (6, qi (-2)), (5, qi 0), (0, qr 0), (1, qi a1), (2, qi a2), (3, qi a3), (4, qi a4)]) dX11_places_50 (by decide) rfl rfl ?_
      refine q_iconst dX11_places_52 rfl rfl ?_
      refine q_istore (lv' := [(8, qi 0), (7, qi ((q950 15 0) - q952.1)), (6, qi (-2)), (5, qi 0), (0, qr 0), (1, qi a1), (2, qi a2), (3, qi a3), (4, qi a4)]) dX11_places_53 (by decide) rfl rfl ?_
      obtain ⟨q963, h964, h⟩ := Option.bind_eq_some_iff.mp h
      refine q_pick [4, 5, 6, 7, 8, 3, 2, 1, 0] rfl (C_places_L55_ok hL d qF a1 a2 a3 a4 0 (-2) ((q950 15 0) - q952.1) 0 _ _ h964 ?_)
      refine q_aload_n dX11_places_97 rfl rfl ?_
      refine q_getA dX11_places_98 fl_X11_49 (hL 0 (by decide)) sh_0 (by decide) rfl rfl ?_
      refine q_iload_n dX11_places_101 rfl rfl ?_
      obtain ⟨q965, h966, h⟩ := Option.bind_eq_some_iff.mp h
      refine q_callVv (as := [qi a1]) (c := 6) dX11_places_102 ml_X11_267 rfl rfl (hL 6 (by decide)) sh_6 rfl rfl (Nat.le_of_ble_eq_true rfl) (Stays_layBack_ok hL d a1 _ _ h966) rfl ?_
      refine q_iload dX11_places_105 rfl rfl ?_
      refine q_iconst dX11_places_107 rfl rfl ?_
      obtain ⟨c967, h⟩ := qk_some h
      refine q_icmp_ne (tgt := 116) dX11_places_108 (by decide) rfl (qRb_R c967) ⟨by decide, by decide⟩ (fun g => ?_) (fun g => ?_)
      · rw [if_neg (show ¬ (a4 = (-1)) from g)] at h
        refine q_iload dX11_places_116 rfl rfl ?_
        cases h
        exact q_ireturn dX11_places_118 rfl hQ
      · rw [if_pos (show a4 = (-1) from g)] at h
        refine q_iload dX11_places_111 rfl rfl ?_
        refine q_goto (pc' := 118) dX11_places_113 (by decide) ?_
        cases h
        exact q_ireturn dX11_places_118 rfl hQ
    · rw [if_neg (show ¬ ((-1) ≤ a4) from g)] at h
      refine q_iconst dX11_places_14 rfl rfl ?_
      cases h
      exact q_ireturn dX11_places_15 rfl hQ
