set_option maxRecDepth 20000 in
theorem M_lies_L24_ok {X : qX} (hL : ∀ c, c < 93 → c ∈ qLs X) (d : Nat) {Q : Option qV → qSto → Prop} : ∀ (n : Nat) (x1 : Int) (x2 : Int) (x3 : Int) (x4 : Int) (S : qSto) (o : ((Int × qSto) ⊕ (Int × qSto))), M_lies_L24 n x1 x2 x3 x4 S = some o → (∀ t, o = Sum.inl t → qW X (d + 3) yX12_lies cX12_lies 5 (some .int) 59 [(2, qi x2), (3, qi t.1)] [] t.2 Q) → (∀ w, o = Sum.inr w → Q (some (qi w.1)) w.2) → qW X (d + 3) yX12_lies cX12_lies 5 (some .int) 24 [(0, qr 70), (1, qi x1), (2, qi x2), (3, qi x3), (4, qi x4)] [] S Q := by
  intro n
  induction n with
  | zero =>
    intro x1 x2 x3 x4 S o h
    simp [M_lies_L24] at h
  | succ n ih =>
    intro x1 x2 x3 x4 S o h hE hR
    rw [M_lies_L24] at h
    refine q_iload dX12_lies_24 rfl rfl ?_
    refine q_iconst dX12_lies_26 rfl rfl ?_
    obtain ⟨c3351, h⟩ := qk_some h
    refine q_icmp_eq (tgt := 59) dX12_lies_27 (by decide) rfl (qRb_R c3351) ⟨by decide, by decide⟩ (fun g => ?_) (fun g => ?_)
    · rw [if_pos (show x4 = (-1) from g)] at h
      cases h
      exact q_pick [2, 3] rfl (hE _ rfl)
    · rw [if_neg (show ¬ (x4 = (-1)) from g)] at h
      refine q_iload_n dX12_lies_30 rfl rfl ?_
      refine q_iload_n dX12_lies_31 rfl rfl ?_
      obtain ⟨c3352, h⟩ := qk_some h
      obtain ⟨c3353, h⟩ := qk_some h
      refine q_icmp_ne (tgt := 38) dX12_lies_32 (by decide) rfl (qRb_R c3352) (qRb_R c3353) (fun g => ?_) (fun g => ?_)
      · rw [if_neg (show ¬ (x3 = x2) from g)] at h
        refine q_iload_n dX12_lies_38 rfl rfl ?_
        refine q_iconst dX12_lies_39 rfl rfl ?_
        refine q_iadd dX12_lies_40 rfl ?_
        refine q_istore_n (lv' := [(3, qi (x3 + 1)), (0, qr 70), (1, qi x1), (2, qi x2), (4, qi x4)]) dX12_lies_41 (by decide) rfl rfl ?_
        refine q_aload_n dX12_lies_42 rfl rfl ?_
        refine q_iload_n dX12_lies_43 rfl rfl ?_
        refine q_aload_n dX12_lies_44 rfl rfl ?_
        refine q_getA dX12_lies_45 fl_X12_36 (hL 70 (by decide)) sh_70 (by decide) rfl rfl ?_
        refine q_iload dX12_lies_48 rfl rfl ?_
        obtain ⟨c3354, h⟩ := qk_some h
        refine q_iaload dX12_lies_50 (hL 78 (by decide)) sh_78 (qIx_0 c3354) (qIx_1 c3354) rfl ?_
        obtain ⟨q3355, h3356, h⟩ := Option.bind_eq_some_iff.mp h
        refine q_callVi (as := [qi x1, qi (S 78 (Int.toNat x4))]) (c := 70) dX12_lies_51 ml_X12_477 rfl rfl (hL 70 (by decide)) sh_70 rfl rfl (Nat.le_of_ble_eq_true rfl) (M_nextLying_ok hL d x1 (S 78 (Int.toNat x4)) _ _ h3356) rfl ?_
        refine q_istore (lv' := [(4, qi q3355.1), (3, qi (x3 + 1)), (0, qr 70), (1, qi x1), (2, qi x2)]) dX12_lies_54 (by decide) rfl rfl ?_
        refine q_goto (pc' := 24) dX12_lies_56 (by decide) ?_
        exact q_pick [2, 3, 4, 1, 0] rfl (ih x1 x2 (x3 + 1) q3355.1 _ _ h hE hR)
      · rw [if_pos (show x3 = x2 from g)] at h
        refine q_iload dX12_lies_35 rfl rfl ?_
        cases h
        exact q_ireturn dX12_lies_37 rfl (hR _ rfl)
set_option maxRecDepth 20000 in
theorem M_lies_ok {X : qX} (hL : ∀ c, c < 93 → c ∈ qLs X) (d : Nat) (a1 : Int) (a2 : Int) (S : qSto) (o : (Int × qSto)) (h : M_lies a1 a2 S = some o) (Q : Option qV → qSto → Prop) (hQ : Q (some (qi o.1)) o.2) : qC X (d + 3) yX12_lies cX12_lies 5 (some .int) [qr 70, qi a1, qi a2] S Q := by
  refine q_entry (lv := [(0, qr 70), (1, qi a1), (2, qi a2)]) pn_X12 (Nat.le_of_ble_eq_true rfl) rfl ?_
  unfold M_lies at h
  refine q_iload_n dX12_lies_0 rfl rfl ?_
  obtain ⟨q3328, h3329, h⟩ := Option.bind_eq_some_iff.mp h
  refine q_callSi (as := [qi a1]) dX12_lies_1 ml_X12_283 rfl rfl (Nat.le_of_ble_eq_true rfl) (M_isSlot_ok hL (d + 1) a1 _ _ h3329) rfl ?_
  obtain ⟨c3330, h⟩ := qk_some h
  refine q_if_eq (tgt := 12) dX12_lies_4 (by decide) rfl (qRb_R c3330)  (fun g => ?_) (fun g => ?_)
  · rw [if_pos (show q3328.1 = 0 from g)] at h
    refine q_iconst dX12_lies_12 rfl rfl ?_
    cases h
    exact q_ireturn dX12_lies_13 rfl hQ
  · rw [if_neg (show ¬ (q3328.1 = 0) from g)] at h
    refine q_iload_n dX12_lies_7 rfl rfl ?_
    refine q_iconst dX12_lies_8 rfl rfl ?_
    obtain ⟨c3331, h⟩ := qk_some h
    refine q_icmp_ge (tgt := 14) dX12_lies_9 (by decide) rfl (qRb_R c3331) ⟨by decide, by decide⟩ (fun g => ?_) (fun g => ?_)
    · rw [if_pos (show (-1) ≤ a2 from g)] at h
      refine q_iconst dX12_lies_14 rfl rfl ?_
      refine q_istore_n (lv' := [(3, qi 0), (0, qr 70), (1, qi a1), (2, qi a2)]) dX12_lies_15 (by decide) rfl rfl ?_
      refine q_aload_n dX12_lies_16 rfl rfl ?_
      refine q_iload_n dX12_lies_17 rfl rfl ?_
      refine q_iconst dX12_lies_18 rfl rfl ?_
      obtain ⟨q3349, h3350, h⟩ := Option.bind_eq_some_iff.mp h
      refine q_callVi (as := [qi a1, qi (-1)]) (c := 70) dX12_lies_19 ml_X12_477 rfl rfl (hL 70 (by decide)) sh_70 rfl rfl (Nat.le_of_ble_eq_true rfl) (M_nextLying_ok hL d a1 (-1) _ _ h3350) rfl ?_
      refine q_istore (lv' := [(4, qi q3349.1), (3, qi 0), (0, qr 70), (1, qi a1), (2, qi a2)]) dX12_lies_22 (by decide) rfl rfl ?_
      obtain ⟨q3357, h3358, h⟩ := Option.bind_eq_some_iff.mp h
      refine q_pick [2, 3, 4, 1, 0] rfl (M_lies_L24_ok hL d qF a1 a2 0 q3349.1 _ _ h3358 (fun t3359 e3930 => ?_) (fun w e3930 => ?_))
      · subst e3930
        simp only [Sum.elim_inl] at h
        refine q_iload_n dX12_lies_59 rfl rfl ?_
        refine q_iconst dX12_lies_60 rfl rfl ?_
        obtain ⟨c3360, h⟩ := qk_some h
        refine q_icmp_ne (tgt := 68) dX12_lies_61 (by decide) rfl (qRb_R c3360) ⟨by decide, by decide⟩ (fun g => ?_) (fun g => ?_)
        · rw [if_neg (show ¬ (a2 = (-1)) from g)] at h
          refine q_bipush dX12_lies_68 (by decide) rfl ?_
          cases h
          exact q_ireturn dX12_lies_70 rfl hQ
        · rw [if_pos (show a2 = (-1) from g)] at h
          refine q_iload_n dX12_lies_64 rfl rfl ?_
          refine q_goto (pc' := 70) dX12_lies_65 (by decide) ?_
          cases h
          exact q_ireturn dX12_lies_70 rfl hQ
      · subst e3930
        simp only [Sum.elim_inr] at h
        cases h
        exact hQ
    · rw [if_neg (show ¬ ((-1) ≤ a2) from g)] at h
      refine q_iconst dX12_lies_12 rfl rfl ?_
      cases h
      exact q_ireturn dX12_lies_13 rfl hQ
set_option maxRecDepth 20000 in
theorem M_free_L31_ok {X : qX} (hL : ∀ c, c < 93 → c ∈ qLs X) (d : Nat) {Q : Option qV → qSto → Prop} : ∀ (n : Nat) (x1 : Int) (x2 : Int) (x3 : Int) (x4 : Int) (x5 : Int) (x6 : Int) (S : qSto) (o : (Int × Int × qSto)), M_free_L31 n x1 x3 x4 x5 x6 S = some o → (qW X (d + 3) yX12_free cX12_free 7 (some .int) 91 [(2, qi x2), (3, qi o.1), (4, qi o.2.1)] [] o.2.2 Q) → qW X (d + 3) yX12_free cX12_free 7 (some .int) 31 [(0, qr 70), (1, qi x1), (2, qi x2), (3, qi x3), (4, qi x4), (5, qi x5), (6, qi x6)] [] S Q := by
  intro n
  induction n with
  | zero =>
    intro x1 x2 x3 x4 x5 x6 S o h
    simp [M_free_L31] at h
  | succ n ih =>
    intro x1 x2 x3 x4 x5 x6 S o h hE
    rw [M_free_L31] at h
    refine q_iload dX12_free_31 rfl rfl ?_
    refine q_aload_n dX12_free_33 rfl rfl ?_
    refine q_getA dX12_free_34 fl_X12_13 (hL 70 (by decide)) sh_70 (by decide) rfl rfl ?_
    refine q_iconst dX12_free_37 rfl rfl ?_
    refine q_iaload dX12_free_38 (hL 72 (by decide)) sh_72 (by decide) (by decide) rfl ?_
    obtain ⟨c3368, h⟩ := qk_some h
    obtain ⟨c3369, h⟩ := qk_some h
    refine q_icmp_ge (tgt := 91) dX12_free_39 (by decide) rfl (qRb_R c3368) (qRb_R c3369) (fun g => ?_) (fun g => ?_)
    · rw [if_pos (show (S 72 0) ≤ x6 from g)] at h
      cases h
      exact q_pick [2, 3, 4] rfl (hE)
    · rw [if_neg (show ¬ ((S 72 0) ≤ x6) from g)] at h
      refine q_aload_n dX12_free_42 rfl rfl ?_
      refine q_iload_n dX12_free_43 rfl rfl ?_
      refine q_iload dX12_free_44 rfl rfl ?_
      obtain ⟨q3370, h3371, h⟩ := Option.bind_eq_some_iff.mp h
      refine q_callVi (as := [qi x1, qi x6]) (c := 70) dX12_free_46 ml_X12_474 rfl rfl (hL 70 (by decide)) sh_70 rfl rfl (Nat.le_of_ble_eq_true rfl) (M_liesAt_ok hL d x1 x6 _ _ h3371) rfl ?_
      refine q_bipush dX12_free_49 (by decide) rfl ?_
      refine q_jn (G := fun (t3373 : Int) => qW X (d + 3) yX12_free cX12_free 7 (some .int) 62 [(0, qr 70), (1, qi x1), (2, qi x2), (3, qi x3), (4, qi x4), (6, qi x6)] [qi t3373] q3370.2 Q) h (fun t3373 h => ?_) (fun t3373 h hk3931 => ?_)
      · try dsimp only at h
        refine q_istore (lv' := [(5, qi t3373), (0, qr 70), (1, qi x1), (2, qi x2), (3, qi x3), (4, qi x4), (6, qi x6)]) dX12_free_62 (by decide) rfl rfl ?_
        refine q_iload dX12_free_64 rfl rfl ?_
        refine q_iload_n dX12_free_66 rfl rfl ?_
        refine q_jn (G := fun (t3376 : (Int × Int)) => qW X (d + 3) yX12_free cX12_free 7 (some .int) 85 [(0, qr 70), (1, qi x1), (2, qi x2), (3, qi t3376.1), (4, qi t3376.2), (5, qi t3373), (6, qi x6)] [] q3370.2 Q) h (fun t3376 h => ?_) (fun t3376 h hk3932 => ?_)
        · try dsimp only at h
          refine q_iinc (lv' := [(6, qi (x6 + 1)), (0, qr 70), (1, qi x1), (2, qi x2), (3, qi t3376.1), (4, qi t3376.2), (5, qi t3373)]) dX12_free_85 (by decide) rfl rfl rfl ?_
          refine q_goto (pc' := 31) dX12_free_88 (by decide) ?_
          exact q_pick [1, 2, 3, 4, 5, 6, 0] rfl (ih x1 x2 t3376.1 t3376.2 t3373 (x6 + 1) _ _ h hE)
        · skip
          obtain ⟨c3374, h⟩ := qk_some h
          obtain ⟨c3375, h⟩ := qk_some h
          refine q_icmp_gt (tgt := 73) dX12_free_67 (by decide) rfl (qRb_R c3374) (qRb_R c3375) (fun g => ?_) (fun g => ?_)
          · rw [if_pos (show x3 < t3373 from g)] at h
            refine q_iload dX12_free_73 rfl rfl ?_
            refine q_istore_n (lv' := [(3, qi t3373), (5, qi t3373), (0, qr 70), (1, qi x1), (2, qi x2), (4, qi x4), (6, qi x6)]) dX12_free_75 (by decide) rfl rfl ?_
            refine q_iload dX12_free_76 rfl rfl ?_
            refine q_iload dX12_free_78 rfl rfl ?_
            refine q_isub dX12_free_80 rfl ?_
            refine q_iconst dX12_free_81 rfl rfl ?_
            refine q_iadd dX12_free_82 rfl ?_
            refine q_istore (lv' := [(4, qi ((x6 - t3373) + 1)), (3, qi t3373), (5, qi t3373), (0, qr 70), (1, qi x1), (2, qi x2), (6, qi x6)]) dX12_free_83 (by decide) rfl rfl ?_
            cases h
            exact q_pick [3, 4, 5, 1, 0, 2, 6] rfl hk3932
          · rw [if_neg (show ¬ (x3 < t3373) from g)] at h
            refine q_goto (pc' := 85) dX12_free_70 (by decide) ?_
            cases h
            exact q_pick [1, 2, 3, 4, 5, 0, 6] rfl hk3932
      · skip
        obtain ⟨c3372, h⟩ := qk_some h
        refine q_icmp_ne (tgt := 61) dX12_free_51 (by decide) rfl (qRb_R c3372) ⟨by decide, by decide⟩ (fun g => ?_) (fun g => ?_)
        · rw [if_neg (show ¬ (q3370.1 = (-2)) from g)] at h
          refine q_iconst dX12_free_61 rfl rfl ?_
          cases h
          exact q_pick [0, 1, 2, 3, 4, 6] rfl hk3931
        · rw [if_pos (show q3370.1 = (-2) from g)] at h
          refine q_iload dX12_free_54 rfl rfl ?_
          refine q_iconst dX12_free_56 rfl rfl ?_
          refine q_iadd dX12_free_57 rfl ?_
          refine q_goto (pc' := 62) dX12_free_58 (by decide) ?_
          cases h
          exact q_pick [0, 1, 2, 3, 4, 6] rfl hk3931
set_option maxRecDepth 20000 in
theorem M_free_ok {X : qX} (hL : ∀ c, c < 93 → c ∈ qLs X) (d : Nat) (a1 : Int) (a2 : Int) (S : qSto) (o : (Int × qSto)) (h : M_free a1 a2 S = some o) (Q : Option qV → qSto → Prop) (hQ : Q (some (qi o.1)) o.2) : qC X (d + 3) yX12_free cX12_free 7 (some .int) [qr 70, qi a1, qi a2] S Q := by
  refine q_entry (lv := [(0, qr 70), (1, qi a1), (2, qi a2)]) pn_X12 (Nat.le_of_ble_eq_true rfl) rfl ?_
  unfold M_free at h
  refine q_iload_n dX12_free_0 rfl rfl ?_
  obtain ⟨q3361, h3362, h⟩ := Option.bind_eq_some_iff.mp h
  refine q_callSi (as := [qi a1]) dX12_free_1 ml_X12_283 rfl rfl (Nat.le_of_ble_eq_true rfl) (M_isSlot_ok hL (d + 1) a1 _ _ h3362) rfl ?_
  obtain ⟨c3363, h⟩ := qk_some h
  refine q_if_eq (tgt := 17) dX12_free_4 (by decide) rfl (qRb_R c3363)  (fun g => ?_) (fun g => ?_)
  · rw [if_pos (show q3361.1 = 0 from g)] at h
    refine q_iconst dX12_free_17 rfl rfl ?_
    cases h
    exact q_ireturn dX12_free_18 rfl hQ
  · rw [if_neg (show ¬ (q3361.1 = 0) from g)] at h
    refine q_iload_n dX12_free_7 rfl rfl ?_
    obtain ⟨c3364, h⟩ := qk_some h
    refine q_i2l dX12_free_8 (qRb_R c3364) rfl ?_
    refine q_lconst (v := 0) dX12_free_9 rfl rfl ?_
    refine q_lconst (v := 1) dX12_free_10 rfl rfl ?_
    obtain ⟨q3365, h3366, h⟩ := Option.bind_eq_some_iff.mp h
    refine q_callSi (as := [ql a2, ql 0, ql 1]) dX12_free_11 ml_X12_99 rfl rfl (Nat.le_of_ble_eq_true rfl) (M_in_ok hL (d + 2) a2 0 1 _ _ h3366) rfl ?_
    obtain ⟨c3367, h⟩ := qk_some h
    refine q_if_ne (tgt := 19) dX12_free_14 (by decide) rfl (qRb_R c3367)  (fun g => ?_) (fun g => ?_)
    · rw [if_neg (show ¬ (q3365.1 = 0) from g)] at h
      refine q_iconst dX12_free_19 rfl rfl ?_
      refine q_istore_n (lv' := [(3, qi 0), (0, qr 70), (1, qi a1), (2, qi a2)]) dX12_free_20 (by decide) rfl rfl ?_
      refine q_bipush dX12_free_21 (by decide) rfl ?_
      refine q_istore (lv' := [(4, qi (-2)), (3, qi 0), (0, qr 70), (1, qi a1), (2, qi a2)]) dX12_free_23 (by decide) rfl rfl ?_
      refine q_iconst dX12_free_25 rfl rfl ?_
      refine q_istore (lv' := [(5, qi 0), (4, qi (-2)), (3, qi 0), (0, qr 70), (1, qi a1), (2, qi a2)]) dX12_free_26 (by decide) rfl rfl ?_
      refine q_iconst dX12_free_28 rfl rfl ?_
      refine q_istore (lv' := [(6, qi 0), (5, qi 0), (4, qi (-2)), (3, qi 0), (0, qr 70), (1, qi a1), (2, qi a2)]) dX12_free_29 (by decide) rfl rfl ?_
      obtain ⟨q3377, h3378, h⟩ := Option.bind_eq_some_iff.mp h
      refine q_pick [4, 5, 6, 3, 2, 1, 0] rfl (M_free_L31_ok hL d qF a1 a2 0 (-2) 0 0 _ _ h3378 ?_)
      refine q_iload_n dX12_free_91 rfl rfl ?_
      obtain ⟨c3379, h⟩ := qk_some h
      refine q_if_ne (tgt := 99) dX12_free_92 (by decide) rfl (qRb_R c3379)  (fun g => ?_) (fun g => ?_)
      · rw [if_neg (show ¬ (a2 = 0) from g)] at h
        refine q_iload dX12_free_99 rfl rfl ?_
        cases h
        exact q_ireturn dX12_free_101 rfl hQ
      · rw [if_pos (show a2 = 0 from g)] at h
        refine q_iload_n dX12_free_95 rfl rfl ?_
        refine q_goto (pc' := 101) dX12_free_96 (by decide) ?_
        cases h
        exact q_ireturn dX12_free_101 rfl hQ
    · rw [if_pos (show q3365.1 = 0 from g)] at h
      refine q_iconst dX12_free_17 rfl rfl ?_
      cases h
      exact q_ireturn dX12_free_18 rfl hQ
set_option maxRecDepth 20000 in
theorem M_isCrane_ok {X : qX} (hL : ∀ c, c < 93 → c ∈ qLs X) (d : Nat) (a1 : Int) (S : qSto) (o : (Int × qSto)) (h : M_isCrane a1 S = some o) (Q : Option qV → qSto → Prop) (hQ : Q (some (qi o.1)) o.2) : qC X (d + 1) yX12_isCrane cX12_isCrane 2 (some .boolean) [qr 70, qi a1] S Q := by
  refine q_entry (lv := [(0, qr 70), (1, qi a1)]) pn_X12 (Nat.le_of_ble_eq_true rfl) rfl ?_
  unfold M_isCrane at h
  refine q_iload_n dX12_isCrane_0 rfl rfl ?_
  obtain ⟨c3380, h⟩ := qk_some h
  refine q_i2l dX12_isCrane_1 (qRb_R c3380) rfl ?_
  refine q_lconst (v := 0) dX12_isCrane_2 rfl rfl ?_
  refine q_aload_n dX12_isCrane_3 rfl rfl ?_
  refine q_getA dX12_isCrane_4 fl_X12_13 (hL 70 (by decide)) sh_70 (by decide) rfl rfl ?_
  refine q_bipush dX12_isCrane_7 (by decide) rfl ?_
  refine q_iaload dX12_isCrane_9 (hL 72 (by decide)) sh_72 (by decide) (by decide) rfl ?_
  refine q_iconst dX12_isCrane_10 rfl rfl ?_
  refine q_isub dX12_isCrane_11 rfl ?_
  obtain ⟨c3381, h⟩ := qk_some h
  refine q_i2l dX12_isCrane_12 (qRb_R c3381) rfl ?_
  obtain ⟨q3382, h3383, h⟩ := Option.bind_eq_some_iff.mp h
  refine q_callSi (as := [ql a1, ql 0, ql ((S 72 7) - 1)]) dX12_isCrane_13 ml_X12_99 rfl rfl (Nat.le_of_ble_eq_true rfl) (M_in_ok hL d a1 0 ((S 72 7) - 1) _ _ h3383) rfl ?_
  obtain ⟨c3384, h⟩ := qk_some h
  cases h
  exact q_zreturn dX12_isCrane_16 rfl (qZb_Z c3384) hQ
set_option maxRecDepth 20000 in
theorem M_workedOn_ok {X : qX} (hL : ∀ c, c < 93 → c ∈ qLs X) (d : Nat) (a1 : Int) (a2 : Int) (S : qSto) (o : (Int × qSto)) (h : M_workedOn a1 a2 S = some o) (Q : Option qV → qSto → Prop) (hQ : Q (some (qi o.1)) o.2) : qC X (d + 4) yX12_workedOn cX12_workedOn 3 (some .int) [qr 70, qi a1, qi a2] S Q := by
  refine q_entry (lv := [(0, qr 70), (1, qi a1), (2, qi a2)]) pn_X12 (Nat.le_of_ble_eq_true rfl) rfl ?_
  unfold M_workedOn at h
  refine q_aload_n dX12_workedOn_0 rfl rfl ?_
  refine q_iload_n dX12_workedOn_1 rfl rfl ?_
  refine q_iconst dX12_workedOn_2 rfl rfl ?_
  obtain ⟨q3391, h3392, h⟩ := Option.bind_eq_some_iff.mp h
  refine q_callVi (as := [qi a2, qi (-1)]) (c := 70) dX12_workedOn_3 ml_X12_361 rfl rfl (hL 70 (by decide)) sh_70 rfl rfl (Nat.le_of_ble_eq_true rfl) (M_deals_ok hL d a2 (-1) _ _ h3392) rfl ?_
  obtain ⟨c3393, h⟩ := qk_some h
  refine q_if_ne (tgt := 12) dX12_workedOn_6 (by decide) rfl (qRb_R c3393)  (fun g => ?_) (fun g => ?_)
  · rw [if_neg (show ¬ (q3391.1 = 0) from g)] at h
    refine q_aload_n dX12_workedOn_12 rfl rfl ?_
    refine q_getA dX12_workedOn_13 fl_X12_51 (hL 70 (by decide)) sh_70 (by decide) rfl rfl ?_
    refine q_iload_n dX12_workedOn_16 rfl rfl ?_
    obtain ⟨c3394, h⟩ := qk_some h
    refine q_iaload dX12_workedOn_17 (hL 83 (by decide)) sh_83 (qIx_0 c3394) (qIx_1 c3394) rfl ?_
    refine q_iconst dX12_workedOn_18 rfl rfl ?_
    obtain ⟨c3395, h⟩ := qk_some h
    refine q_icmp_ne (tgt := 27) dX12_workedOn_19 (by decide) rfl (qRb_R c3395) ⟨by decide, by decide⟩ (fun g => ?_) (fun g => ?_)
    · rw [if_neg (show ¬ ((q3391.2 83 (Int.toNat a1)) = (-1)) from g)] at h
      refine q_aload_n dX12_workedOn_27 rfl rfl ?_
      refine q_getA dX12_workedOn_28 fl_X12_51 (hL 70 (by decide)) sh_70 (by decide) rfl rfl ?_
      refine q_iload_n dX12_workedOn_31 rfl rfl ?_
      obtain ⟨c3396, h⟩ := qk_some h
      refine q_iaload dX12_workedOn_32 (hL 83 (by decide)) sh_83 (qIx_0 c3396) (qIx_1 c3396) rfl ?_
      cases h
      exact q_ireturn dX12_workedOn_33 rfl hQ
    · rw [if_pos (show (q3391.2 83 (Int.toNat a1)) = (-1) from g)] at h
      refine q_bipush dX12_workedOn_22 (by decide) rfl ?_
      refine q_goto (pc' := 33) dX12_workedOn_24 (by decide) ?_
      cases h
      exact q_ireturn dX12_workedOn_33 rfl hQ
  · rw [if_pos (show q3391.1 = 0 from g)] at h
    refine q_bipush dX12_workedOn_9 (by decide) rfl ?_
    cases h
    exact q_ireturn dX12_workedOn_11 rfl hQ
set_option maxRecDepth 20000 in
theorem M_works_ok {X : qX} (hL : ∀ c, c < 93 → c ∈ qLs X) (d : Nat) (a1 : Int) (a2 : Int) (S : qSto) (o : (Int × qSto)) (h : M_works a1 a2 S = some o) (Q : Option qV → qSto → Prop) (hQ : Q (some (qi o.1)) o.2) : qC X (d + 5) yX12_works cX12_works 3 (some .int) [qr 70, qi a1, qi a2] S Q := by
  refine q_entry (lv := [(0, qr 70), (1, qi a1), (2, qi a2)]) pn_X12 (Nat.le_of_ble_eq_true rfl) rfl ?_
  unfold M_works at h
  refine q_aload_n dX12_works_0 rfl rfl ?_
  refine q_iload_n dX12_works_1 rfl rfl ?_
  obtain ⟨q3385, h3386, h⟩ := Option.bind_eq_some_iff.mp h
  refine q_callVi (as := [qi a1]) (c := 70) dX12_works_2 ml_X12_480 rfl rfl (hL 70 (by decide)) sh_70 rfl rfl (Nat.le_of_ble_eq_true rfl) (M_isCrane_ok hL (d + 3) a1 _ _ h3386) rfl ?_
  obtain ⟨c3387, h⟩ := qk_some h
  refine q_if_eq (tgt := 24) dX12_works_5 (by decide) rfl (qRb_R c3387)  (fun g => ?_) (fun g => ?_)
  · rw [if_pos (show q3385.1 = 0 from g)] at h
    refine q_iconst dX12_works_24 rfl rfl ?_
    cases h
    exact q_ireturn dX12_works_25 rfl hQ
  · rw [if_neg (show ¬ (q3385.1 = 0) from g)] at h
    refine q_iload_n dX12_works_8 rfl rfl ?_
    obtain ⟨q3388, h3389, h⟩ := Option.bind_eq_some_iff.mp h
    refine q_callSi (as := [qi a2]) dX12_works_9 ml_X12_283 rfl rfl (Nat.le_of_ble_eq_true rfl) (M_isSlot_ok hL (d + 3) a2 _ _ h3389) rfl ?_
    obtain ⟨c3390, h⟩ := qk_some h
    refine q_if_eq (tgt := 24) dX12_works_12 (by decide) rfl (qRb_R c3390)  (fun g => ?_) (fun g => ?_)
    · rw [if_pos (show q3388.1 = 0 from g)] at h
      refine q_iconst dX12_works_24 rfl rfl ?_
      cases h
      exact q_ireturn dX12_works_25 rfl hQ
    · rw [if_neg (show ¬ (q3388.1 = 0) from g)] at h
      refine q_aload_n dX12_works_15 rfl rfl ?_
      refine q_iload_n dX12_works_16 rfl rfl ?_
      refine q_iload_n dX12_works_17 rfl rfl ?_
      obtain ⟨q3397, h3398, h⟩ := Option.bind_eq_some_iff.mp h
      refine q_callVi (as := [qi a1, qi a2]) (c := 70) dX12_works_18 ml_X12_483 rfl rfl (hL 70 (by decide)) sh_70 rfl rfl (Nat.le_of_ble_eq_true rfl) (M_workedOn_ok hL d a1 a2 _ _ h3398) rfl ?_
      refine q_goto (pc' := 25) dX12_works_21 (by decide) ?_
      cases h
      exact q_ireturn dX12_works_25 rfl hQ
set_option maxRecDepth 20000 in
theorem M_hours_L14_ok {X : qX} (hL : ∀ c, c < 93 → c ∈ qLs X) (d : Nat) {Q : Option qV → qSto → Prop} : ∀ (n : Nat) (x1 : Int) (x2 : Int) (x3 : Int) (S : qSto) (o : (Int × qSto)), M_hours_L14 n x1 x2 x3 S = some o → (qW X (d + 5) yX12_hours cX12_hours 4 (some .int) 46 [(2, qi o.1)] [] o.2 Q) → qW X (d + 5) yX12_hours cX12_hours 4 (some .int) 14 [(0, qr 70), (1, qi x1), (2, qi x2), (3, qi x3)] [] S Q := by
  intro n
  induction n with
  | zero =>
    intro x1 x2 x3 S o h
    simp [M_hours_L14] at h
  | succ n ih =>
    intro x1 x2 x3 S o h hE
    rw [M_hours_L14] at h
    refine q_iload_n dX12_hours_14 rfl rfl ?_
    refine q_sipush dX12_hours_15 (by decide) rfl ?_
    obtain ⟨c3402, h⟩ := qk_some h
    refine q_icmp_ge (tgt := 46) dX12_hours_18 (by decide) rfl (qRb_R c3402) ⟨by decide, by decide⟩ (fun g => ?_) (fun g => ?_)
    · rw [if_pos (show 336 ≤ x3 from g)] at h
      cases h
      exact q_pick [2] rfl (hE)
    · rw [if_neg (show ¬ (336 ≤ x3) from g)] at h
      refine q_aload_n dX12_hours_21 rfl rfl ?_
      refine q_iload_n dX12_hours_22 rfl rfl ?_
      refine q_iload_n dX12_hours_23 rfl rfl ?_
      obtain ⟨q3403, h3404, h⟩ := Option.bind_eq_some_iff.mp h
      refine q_callVi (as := [qi x1, qi x3]) (c := 70) dX12_hours_24 ml_X12_483 rfl rfl (hL 70 (by decide)) sh_70 rfl rfl (Nat.le_of_ble_eq_true rfl) (M_workedOn_ok hL d x1 x3 _ _ h3404) rfl ?_
      refine q_bipush dX12_hours_27 (by decide) rfl ?_
      refine q_jn (G := fun (t3406 : Int) => qW X (d + 5) yX12_hours cX12_hours 4 (some .int) 39 [(0, qr 70), (1, qi x1), (3, qi x3)] [qi t3406] q3403.2 Q) h (fun t3406 h => ?_) (fun t3406 h hk3933 => ?_)
      · try dsimp only at h
        refine q_istore_n (lv' := [(2, qi t3406), (0, qr 70), (1, qi x1), (3, qi x3)]) dX12_hours_39 (by decide) rfl rfl ?_
        refine q_iinc (lv' := [(3, qi (x3 + 1)), (2, qi t3406), (0, qr 70), (1, qi x1)]) dX12_hours_40 (by decide) rfl rfl rfl ?_
        refine q_goto (pc' := 14) dX12_hours_43 (by decide) ?_
        exact q_pick [2, 3, 1, 0] rfl (ih x1 t3406 (x3 + 1) _ _ h hE)
      · skip
        obtain ⟨c3405, h⟩ := qk_some h
        refine q_icmp_ne (tgt := 36) dX12_hours_29 (by decide) rfl (qRb_R c3405) ⟨by decide, by decide⟩ (fun g => ?_) (fun g => ?_)
        · rw [if_neg (show ¬ (q3403.1 = (-2)) from g)] at h
          refine q_iload_n dX12_hours_36 rfl rfl ?_
          refine q_iconst dX12_hours_37 rfl rfl ?_
          refine q_iadd dX12_hours_38 rfl ?_
          cases h
          exact q_pick [0, 1, 3] rfl hk3933
        · rw [if_pos (show q3403.1 = (-2) from g)] at h
          refine q_iload_n dX12_hours_32 rfl rfl ?_
          refine q_goto (pc' := 39) dX12_hours_33 (by decide) ?_
          cases h
          exact q_pick [0, 1, 3] rfl hk3933
set_option maxRecDepth 20000 in
theorem M_hours_ok {X : qX} (hL : ∀ c, c < 93 → c ∈ qLs X) (d : Nat) (a1 : Int) (S : qSto) (o : (Int × qSto)) (h : M_hours a1 S = some o) (Q : Option qV → qSto → Prop) (hQ : Q (some (qi o.1)) o.2) : qC X (d + 5) yX12_hours cX12_hours 4 (some .int) [qr 70, qi a1] S Q := by
  refine q_entry (lv := [(0, qr 70), (1, qi a1)]) pn_X12 (Nat.le_of_ble_eq_true rfl) rfl ?_
  unfold M_hours at h
  refine q_aload_n dX12_hours_0 rfl rfl ?_
  refine q_iload_n dX12_hours_1 rfl rfl ?_
  obtain ⟨q3399, h3400, h⟩ := Option.bind_eq_some_iff.mp h
  refine q_callVi (as := [qi a1]) (c := 70) dX12_hours_2 ml_X12_480 rfl rfl (hL 70 (by decide)) sh_70 rfl rfl (Nat.le_of_ble_eq_true rfl) (M_isCrane_ok hL (d + 3) a1 _ _ h3400) rfl ?_
  obtain ⟨c3401, h⟩ := qk_some h
  refine q_if_ne (tgt := 10) dX12_hours_5 (by decide) rfl (qRb_R c3401)  (fun g => ?_) (fun g => ?_)
  · rw [if_neg (show ¬ (q3399.1 = 0) from g)] at h
    refine q_iconst dX12_hours_10 rfl rfl ?_
    refine q_istore_n (lv' := [(2, qi 0), (0, qr 70), (1, qi a1)]) dX12_hours_11 (by decide) rfl rfl ?_
    refine q_iconst dX12_hours_12 rfl rfl ?_
    refine q_istore_n (lv' := [(3, qi 0), (2, qi 0), (0, qr 70), (1, qi a1)]) dX12_hours_13 (by decide) rfl rfl ?_
    obtain ⟨q3407, h3408, h⟩ := Option.bind_eq_some_iff.mp h
    refine q_pick [2, 3, 1, 0] rfl (M_hours_L14_ok hL d qF a1 0 0 _ _ h3408 ?_)
    refine q_iload_n dX12_hours_46 rfl rfl ?_
    cases h
    exact q_ireturn dX12_hours_47 rfl hQ
  · rw [if_pos (show q3399.1 = 0 from g)] at h
    refine q_iconst dX12_hours_8 rfl rfl ?_
    cases h
    exact q_ireturn dX12_hours_9 rfl hQ
set_option maxRecDepth 20000 in
theorem M_leftAhead_ok {X : qX} (hL : ∀ c, c < 93 → c ∈ qLs X) (d : Nat) (a1 : Int) (a2 : Int) (S : qSto) (o : (Int × qSto)) (h : M_leftAhead a1 a2 S = some o) (Q : Option qV → qSto → Prop) (hQ : Q (some (qi o.1)) o.2) : qC X (d + 1) yX12_leftAhead cX12_leftAhead 5 (some .int) [qr 70, qi a1, qi a2] S Q := by
  refine q_entry (lv := [(0, qr 70), (1, qi a1), (2, qi a2)]) pn_X12 (Nat.le_of_ble_eq_true rfl) rfl ?_
  unfold M_leftAhead at h
  refine q_aload_n dX12_leftAhead_0 rfl rfl ?_
  refine q_iload_n dX12_leftAhead_1 rfl rfl ?_
  refine q_iconst dX12_leftAhead_2 rfl rfl ?_
  obtain ⟨q3415, h3416, h⟩ := Option.bind_eq_some_iff.mp h
  refine q_callVi (as := [qi a1, qi 3]) (c := 70) dX12_leftAhead_3 ml_X12_316 rfl rfl (hL 70 (by decide)) sh_70 rfl rfl (Nat.le_of_ble_eq_true rfl) (M_of_ok hL d a1 3 _ _ h3416) rfl ?_
  refine q_istore_n (lv' := [(3, qi q3415.1), (0, qr 70), (1, qi a1), (2, qi a2)]) dX12_leftAhead_6 (by decide) rfl rfl ?_
  refine q_aload_n dX12_leftAhead_7 rfl rfl ?_
  refine q_iload_n dX12_leftAhead_8 rfl rfl ?_
  obtain ⟨q3417, h3418, h⟩ := Option.bind_eq_some_iff.mp h
  refine q_callVi (as := [qi a1]) (c := 70) dX12_leftAhead_9 ml_X12_326 rfl rfl (hL 70 (by decide)) sh_70 rfl rfl (Nat.le_of_ble_eq_true rfl) (M_stays_ok hL d a1 _ _ h3418) rfl ?_
  obtain ⟨c3419, h⟩ := qk_some h
  refine q_if_eq (tgt := 25) dX12_leftAhead_12 (by decide) rfl (qRb_R c3419)  (fun g => ?_) (fun g => ?_)
  · rw [if_pos (show q3417.1 = 0 from g)] at h
    refine q_iload_n dX12_leftAhead_25 rfl rfl ?_
    cases h
    exact q_ireturn dX12_leftAhead_26 rfl hQ
  · rw [if_neg (show ¬ (q3417.1 = 0) from g)] at h
    refine q_iload_n dX12_leftAhead_15 rfl rfl ?_
    refine q_aload_n dX12_leftAhead_16 rfl rfl ?_
    refine q_getA dX12_leftAhead_17 fl_X12_39 (hL 70 (by decide)) sh_70 (by decide) rfl rfl ?_
    refine q_iload_n dX12_leftAhead_20 rfl rfl ?_
    obtain ⟨c3420, h⟩ := qk_some h
    refine q_iaload dX12_leftAhead_21 (hL 79 (by decide)) sh_79 (qIx_0 c3420) (qIx_1 c3420) rfl ?_
    obtain ⟨c3421, h⟩ := qk_some h
    obtain ⟨c3422, h⟩ := qk_some h
    refine q_icmp_gt (tgt := 27) dX12_leftAhead_22 (by decide) rfl (qRb_R c3421) (qRb_R c3422) (fun g => ?_) (fun g => ?_)
    · rw [if_pos (show (q3417.2 79 (Int.toNat a1)) < a2 from g)] at h
      refine q_iload_n dX12_leftAhead_27 rfl rfl ?_
      refine q_aload_n dX12_leftAhead_28 rfl rfl ?_
      refine q_getA dX12_leftAhead_29 fl_X12_39 (hL 70 (by decide)) sh_70 (by decide) rfl rfl ?_
      refine q_iload_n dX12_leftAhead_32 rfl rfl ?_
      obtain ⟨c3423, h⟩ := qk_some h
      refine q_iaload dX12_leftAhead_33 (hL 79 (by decide)) sh_79 (qIx_0 c3423) (qIx_1 c3423) rfl ?_
      refine q_isub dX12_leftAhead_34 rfl ?_
      refine q_istore (lv' := [(4, qi (a2 - (q3417.2 79 (Int.toNat a1)))), (3, qi q3415.1), (0, qr 70), (1, qi a1), (2, qi a2)]) dX12_leftAhead_35 (by decide) rfl rfl ?_
      refine q_iload dX12_leftAhead_37 rfl rfl ?_
      refine q_aload_n dX12_leftAhead_39 rfl rfl ?_
      refine q_getA dX12_leftAhead_40 fl_X12_45 (hL 70 (by decide)) sh_70 (by decide) rfl rfl ?_
      refine q_iload_n dX12_leftAhead_43 rfl rfl ?_
      obtain ⟨c3424, h⟩ := qk_some h
      refine q_iaload dX12_leftAhead_44 (hL 81 (by decide)) sh_81 (qIx_0 c3424) (qIx_1 c3424) rfl ?_
      obtain ⟨c3425, h⟩ := qk_some h
      obtain ⟨c3426, h⟩ := qk_some h
      refine q_icmp_lt (tgt := 50) dX12_leftAhead_45 (by decide) rfl (qRb_R c3425) (qRb_R c3426) (fun g => ?_) (fun g => ?_)
      · rw [if_pos (show (a2 - (q3417.2 79 (Int.toNat a1))) < (q3417.2 81 (Int.toNat a1)) from g)] at h
        refine q_iload_n dX12_leftAhead_50 rfl rfl ?_
        refine q_iload dX12_leftAhead_51 rfl rfl ?_
        refine q_aload_n dX12_leftAhead_53 rfl rfl ?_
        refine q_aload_n dX12_leftAhead_54 rfl rfl ?_
        refine q_getA dX12_leftAhead_55 fl_X12_42 (hL 70 (by decide)) sh_70 (by decide) rfl rfl ?_
        refine q_iload_n dX12_leftAhead_58 rfl rfl ?_
        obtain ⟨c3427, h⟩ := qk_some h
        refine q_iaload dX12_leftAhead_59 (hL 80 (by decide)) sh_80 (qIx_0 c3427) (qIx_1 c3427) rfl ?_
        obtain ⟨q3428, h3429, h⟩ := Option.bind_eq_some_iff.mp h
        refine q_callVi (as := [qi (q3417.2 80 (Int.toNat a1))]) (c := 70) dX12_leftAhead_60 ml_X12_294 rfl rfl (hL 70 (by decide)) sh_70 rfl rfl (Nat.le_of_ble_eq_true rfl) (M_movesBy_ok hL d (q3417.2 80 (Int.toNat a1)) _ _ h3429) rfl ?_
        refine q_imul dX12_leftAhead_63 rfl ?_
        refine q_isub dX12_leftAhead_64 rfl ?_
        cases h
        exact q_ireturn dX12_leftAhead_65 rfl hQ
      · rw [if_neg (show ¬ ((a2 - (q3417.2 79 (Int.toNat a1))) < (q3417.2 81 (Int.toNat a1))) from g)] at h
        refine q_iconst dX12_leftAhead_48 rfl rfl ?_
        cases h
        exact q_ireturn dX12_leftAhead_49 rfl hQ
    · rw [if_neg (show ¬ ((q3417.2 79 (Int.toNat a1)) < a2) from g)] at h
      refine q_iload_n dX12_leftAhead_25 rfl rfl ?_
      cases h
      exact q_ireturn dX12_leftAhead_26 rfl hQ
set_option maxRecDepth 20000 in
theorem M_left_ok {X : qX} (hL : ∀ c, c < 93 → c ∈ qLs X) (d : Nat) (a1 : Int) (a2 : Int) (S : qSto) (o : (Int × qSto)) (h : M_left a1 a2 S = some o) (Q : Option qV → qSto → Prop) (hQ : Q (some (qi o.1)) o.2) : qC X (d + 2) yX12_left cX12_left 3 (some .int) [qr 70, qi a1, qi a2] S Q := by
  refine q_entry (lv := [(0, qr 70), (1, qi a1), (2, qi a2)]) pn_X12 (Nat.le_of_ble_eq_true rfl) rfl ?_
  unfold M_left at h
  refine q_aload_n dX12_left_0 rfl rfl ?_
  refine q_iload_n dX12_left_1 rfl rfl ?_
  obtain ⟨q3409, h3410, h⟩ := Option.bind_eq_some_iff.mp h
  refine q_callVi (as := [qi a1]) (c := 70) dX12_left_2 ml_X12_297 rfl rfl (hL 70 (by decide)) sh_70 rfl rfl (Nat.le_of_ble_eq_true rfl) (M_isShip_ok hL d a1 _ _ h3410) rfl ?_
  obtain ⟨c3411, h⟩ := qk_some h
  refine q_if_eq (tgt := 24) dX12_left_5 (by decide) rfl (qRb_R c3411)  (fun g => ?_) (fun g => ?_)
  · rw [if_pos (show q3409.1 = 0 from g)] at h
    refine q_iconst dX12_left_24 rfl rfl ?_
    cases h
    exact q_ireturn dX12_left_25 rfl hQ
  · rw [if_neg (show ¬ (q3409.1 = 0) from g)] at h
    refine q_iload_n dX12_left_8 rfl rfl ?_
    obtain ⟨q3412, h3413, h⟩ := Option.bind_eq_some_iff.mp h
    refine q_callSi (as := [qi a2]) dX12_left_9 ml_X12_283 rfl rfl (Nat.le_of_ble_eq_true rfl) (M_isSlot_ok hL d a2 _ _ h3413) rfl ?_
    obtain ⟨c3414, h⟩ := qk_some h
    refine q_if_eq (tgt := 24) dX12_left_12 (by decide) rfl (qRb_R c3414)  (fun g => ?_) (fun g => ?_)
    · rw [if_pos (show q3412.1 = 0 from g)] at h
      refine q_iconst dX12_left_24 rfl rfl ?_
      cases h
      exact q_ireturn dX12_left_25 rfl hQ
    · rw [if_neg (show ¬ (q3412.1 = 0) from g)] at h
      refine q_aload_n dX12_left_15 rfl rfl ?_
      refine q_iload_n dX12_left_16 rfl rfl ?_
      refine q_iload_n dX12_left_17 rfl rfl ?_
      obtain ⟨q3430, h3431, h⟩ := Option.bind_eq_some_iff.mp h
      refine q_callVi (as := [qi a1, qi a2]) (c := 70) dX12_left_18 ml_X12_486 rfl rfl (hL 70 (by decide)) sh_70 rfl rfl (Nat.le_of_ble_eq_true rfl) (M_leftAhead_ok hL d a1 a2 _ _ h3431) rfl ?_
      refine q_goto (pc' := 25) dX12_left_21 (by decide) ?_
      cases h
      exact q_ireturn dX12_left_25 rfl hQ
set_option maxRecDepth 20000 in
theorem M_boxesIn_L4_ok {X : qX} (hL : ∀ c, c < 93 → c ∈ qLs X) (d : Nat) {Q : Option qV → qSto → Prop} : ∀ (n : Nat) (x1 : Int) (x2 : Int) (x3 : Int) (S : qSto) (o : (Int × qSto)), M_boxesIn_L4 n x1 x2 x3 S = some o → (qW X (d + 2) yX12_boxesIn cX12_boxesIn 4 (some .int) 46 [(2, qi o.1)] [] o.2 Q) → qW X (d + 2) yX12_boxesIn cX12_boxesIn 4 (some .int) 4 [(0, qr 70), (1, qi x1), (2, qi x2), (3, qi x3)] [] S Q := by
  intro n
  induction n with
  | zero =>
    intro x1 x2 x3 S o h
    simp [M_boxesIn_L4] at h
  | succ n ih =>
    intro x1 x2 x3 S o h hE
    rw [M_boxesIn_L4] at h
    refine q_iload_n dX12_boxesIn_4 rfl rfl ?_
    refine q_aload_n dX12_boxesIn_5 rfl rfl ?_
    refine q_getA dX12_boxesIn_6 fl_X12_13 (hL 70 (by decide)) sh_70 (by decide) rfl rfl ?_
    refine q_bipush dX12_boxesIn_9 (by decide) rfl ?_
    refine q_iaload dX12_boxesIn_11 (hL 72 (by decide)) sh_72 (by decide) (by decide) rfl ?_
    obtain ⟨c3440, h⟩ := qk_some h
    obtain ⟨c3441, h⟩ := qk_some h
    refine q_icmp_ge (tgt := 46) dX12_boxesIn_12 (by decide) rfl (qRb_R c3440) (qRb_R c3441) (fun g => ?_) (fun g => ?_)
    · rw [if_pos (show (S 72 9) ≤ x3 from g)] at h
      cases h
      exact q_pick [2] rfl (hE)
    · rw [if_neg (show ¬ ((S 72 9) ≤ x3) from g)] at h
      refine q_iload_n dX12_boxesIn_15 rfl rfl ?_
      refine q_aload_n dX12_boxesIn_16 rfl rfl ?_
      refine q_iload_n dX12_boxesIn_17 rfl rfl ?_
      refine q_bipush dX12_boxesIn_18 (by decide) rfl ?_
      refine q_iload_n dX12_boxesIn_20 rfl rfl ?_
      refine q_imul dX12_boxesIn_21 rfl ?_
      obtain ⟨q3442, h3443, h⟩ := Option.bind_eq_some_iff.mp h
      refine q_callVi (as := [qi x3, qi (16 * x1)]) (c := 70) dX12_boxesIn_22 ml_X12_486 rfl rfl (hL 70 (by decide)) sh_70 rfl rfl (Nat.le_of_ble_eq_true rfl) (M_leftAhead_ok hL d x3 (16 * x1) _ _ h3443) rfl ?_
      refine q_iadd dX12_boxesIn_25 rfl ?_
      refine q_aload_n dX12_boxesIn_26 rfl rfl ?_
      refine q_iload_n dX12_boxesIn_27 rfl rfl ?_
      refine q_bipush dX12_boxesIn_28 (by decide) rfl ?_
      refine q_iload_n dX12_boxesIn_30 rfl rfl ?_
      refine q_imul dX12_boxesIn_31 rfl ?_
      refine q_bipush dX12_boxesIn_32 (by decide) rfl ?_
      refine q_iadd dX12_boxesIn_34 rfl ?_
      obtain ⟨q3444, h3445, h⟩ := Option.bind_eq_some_iff.mp h
      refine q_callVi (as := [qi x3, qi ((16 * x1) + 16)]) (c := 70) dX12_boxesIn_35 ml_X12_486 rfl rfl (hL 70 (by decide)) sh_70 rfl rfl (Nat.le_of_ble_eq_true rfl) (M_leftAhead_ok hL d x3 ((16 * x1) + 16) _ _ h3445) rfl ?_
      refine q_isub dX12_boxesIn_38 rfl ?_
      refine q_istore_n (lv' := [(2, qi ((x2 + q3442.1) - q3444.1)), (0, qr 70), (1, qi x1), (3, qi x3)]) dX12_boxesIn_39 (by decide) rfl rfl ?_
      refine q_iinc (lv' := [(3, qi (x3 + 1)), (2, qi ((x2 + q3442.1) - q3444.1)), (0, qr 70), (1, qi x1)]) dX12_boxesIn_40 (by decide) rfl rfl rfl ?_
      refine q_goto (pc' := 4) dX12_boxesIn_43 (by decide) ?_
      exact q_pick [2, 3, 1, 0] rfl (ih x1 ((x2 + q3442.1) - q3444.1) (x3 + 1) _ _ h hE)
set_option maxRecDepth 20000 in
theorem M_boxesIn_ok {X : qX} (hL : ∀ c, c < 93 → c ∈ qLs X) (d : Nat) (a1 : Int) (S : qSto) (o : (Int × qSto)) (h : M_boxesIn a1 S = some o) (Q : Option qV → qSto → Prop) (hQ : Q (some (qi o.1)) o.2) : qC X (d + 2) yX12_boxesIn cX12_boxesIn 4 (some .int) [qr 70, qi a1] S Q := by
  refine q_entry (lv := [(0, qr 70), (1, qi a1)]) pn_X12 (Nat.le_of_ble_eq_true rfl) rfl ?_
  unfold M_boxesIn at h
  refine q_iconst dX12_boxesIn_0 rfl rfl ?_
  refine q_istore_n (lv' := [(2, qi 0), (0, qr 70), (1, qi a1)]) dX12_boxesIn_1 (by decide) rfl rfl ?_
  refine q_iconst dX12_boxesIn_2 rfl rfl ?_
  refine q_istore_n (lv' := [(3, qi 0), (2, qi 0), (0, qr 70), (1, qi a1)]) dX12_boxesIn_3 (by decide) rfl rfl ?_
  obtain ⟨q3446, h3447, h⟩ := Option.bind_eq_some_iff.mp h
  refine q_pick [2, 3, 1, 0] rfl (M_boxesIn_L4_ok hL d qF a1 0 0 _ _ h3447 ?_)
  refine q_iload_n dX12_boxesIn_46 rfl rfl ?_
  cases h
  exact q_ireturn dX12_boxesIn_47 rfl hQ
set_option maxRecDepth 20000 in
theorem M_mostCranes_L7_ok {X : qX} (hL : ∀ c, c < 93 → c ∈ qLs X) (d : Nat) {Q : Option qV → qSto → Prop} : ∀ (n : Nat) (x1 : Int) (x2 : Int) (x3 : Int) (S : qSto) (o : (Int × qSto)), M_mostCranes_L7 n x1 x2 x3 S = some o → (qW X (d + 3) yX12_mostCranes cX12_mostCranes 4 (some .int) 43 [(2, qi o.1)] [] o.2 Q) → qW X (d + 3) yX12_mostCranes cX12_mostCranes 4 (some .int) 7 [(0, qr 70), (1, qi x1), (2, qi x2), (3, qi x3)] [] S Q := by
  intro n
  induction n with
  | zero =>
    intro x1 x2 x3 S o h
    simp [M_mostCranes_L7] at h
  | succ n ih =>
    intro x1 x2 x3 S o h hE
    rw [M_mostCranes_L7] at h
    refine q_iload_n dX12_mostCranes_7 rfl rfl ?_
    refine q_bipush dX12_mostCranes_8 (by decide) rfl ?_
    refine q_iload_n dX12_mostCranes_10 rfl rfl ?_
    refine q_imul dX12_mostCranes_11 rfl ?_
    refine q_bipush dX12_mostCranes_12 (by decide) rfl ?_
    refine q_iadd dX12_mostCranes_14 rfl ?_
    obtain ⟨c3450, h⟩ := qk_some h
    obtain ⟨c3451, h⟩ := qk_some h
    refine q_icmp_ge (tgt := 43) dX12_mostCranes_15 (by decide) rfl (qRb_R c3450) (qRb_R c3451) (fun g => ?_) (fun g => ?_)
    · rw [if_pos (show ((16 * x1) + 16) ≤ x3 from g)] at h
      cases h
      exact q_pick [2] rfl (hE)
    · rw [if_neg (show ¬ (((16 * x1) + 16) ≤ x3) from g)] at h
      refine q_aload_n dX12_mostCranes_18 rfl rfl ?_
      refine q_iload_n dX12_mostCranes_19 rfl rfl ?_
      obtain ⟨q3452, h3453, h⟩ := Option.bind_eq_some_iff.mp h
      refine q_callVi (as := [qi x3]) (c := 70) dX12_mostCranes_20 ml_X12_358 rfl rfl (hL 70 (by decide)) sh_70 rfl rfl (Nat.le_of_ble_eq_true rfl) (M_cranesIn_ok hL d x3 _ _ h3453) rfl ?_
      refine q_iload_n dX12_mostCranes_23 rfl rfl ?_
      refine q_jn (G := fun (t3458 : (Int × qSto)) => qW X (d + 3) yX12_mostCranes cX12_mostCranes 4 (some .int) 36 [(0, qr 70), (1, qi x1), (3, qi x3)] [qi t3458.1] t3458.2 Q) h (fun t3458 h => ?_) (fun t3458 h hk3934 => ?_)
      · try dsimp only at h
        refine q_istore_n (lv' := [(2, qi t3458.1), (0, qr 70), (1, qi x1), (3, qi x3)]) dX12_mostCranes_36 (by decide) rfl rfl ?_
        refine q_iinc (lv' := [(3, qi (x3 + 1)), (2, qi t3458.1), (0, qr 70), (1, qi x1)]) dX12_mostCranes_37 (by decide) rfl rfl rfl ?_
        refine q_goto (pc' := 7) dX12_mostCranes_40 (by decide) ?_
        exact q_pick [2, 3, 1, 0] rfl (ih x1 t3458.1 (x3 + 1) _ _ h hE)
      · skip
        obtain ⟨c3454, h⟩ := qk_some h
        obtain ⟨c3455, h⟩ := qk_some h
        refine q_icmp_le (tgt := 35) dX12_mostCranes_24 (by decide) rfl (qRb_R c3454) (qRb_R c3455) (fun g => ?_) (fun g => ?_)
        · rw [if_pos (show q3452.1 ≤ x2 from g)] at h
          refine q_iload_n dX12_mostCranes_35 rfl rfl ?_
          cases h
          exact q_pick [0, 1, 3] rfl hk3934
        · rw [if_neg (show ¬ (q3452.1 ≤ x2) from g)] at h
          refine q_aload_n dX12_mostCranes_27 rfl rfl ?_
          refine q_iload_n dX12_mostCranes_28 rfl rfl ?_
          obtain ⟨q3456, h3457, h⟩ := Option.bind_eq_some_iff.mp h
          refine q_callVi (as := [qi x3]) (c := 70) dX12_mostCranes_29 ml_X12_358 rfl rfl (hL 70 (by decide)) sh_70 rfl rfl (Nat.le_of_ble_eq_true rfl) (M_cranesIn_ok hL d x3 _ _ h3457) rfl ?_
          refine q_goto (pc' := 36) dX12_mostCranes_32 (by decide) ?_
          cases h
          exact q_pick [0, 1, 3] rfl hk3934
set_option maxRecDepth 20000 in
theorem M_mostCranes_ok {X : qX} (hL : ∀ c, c < 93 → c ∈ qLs X) (d : Nat) (a1 : Int) (S : qSto) (o : (Int × qSto)) (h : M_mostCranes a1 S = some o) (Q : Option qV → qSto → Prop) (hQ : Q (some (qi o.1)) o.2) : qC X (d + 3) yX12_mostCranes cX12_mostCranes 4 (some .int) [qr 70, qi a1] S Q := by
  refine q_entry (lv := [(0, qr 70), (1, qi a1)]) pn_X12 (Nat.le_of_ble_eq_true rfl) rfl ?_
  unfold M_mostCranes at h
  refine q_iconst dX12_mostCranes_0 rfl rfl ?_
  refine q_istore_n (lv' := [(2, qi 0), (0, qr 70), (1, qi a1)]) dX12_mostCranes_1 (by decide) rfl rfl ?_
  refine q_bipush dX12_mostCranes_2 (by decide) rfl ?_
  refine q_iload_n dX12_mostCranes_4 rfl rfl ?_
  refine q_imul dX12_mostCranes_5 rfl ?_
  refine q_istore_n (lv' := [(3, qi (16 * a1)), (2, qi 0), (0, qr 70), (1, qi a1)]) dX12_mostCranes_6 (by decide) rfl rfl ?_
  obtain ⟨q3459, h3460, h⟩ := Option.bind_eq_some_iff.mp h
  refine q_pick [2, 3, 1, 0] rfl (M_mostCranes_L7_ok hL d qF a1 0 (16 * a1) _ _ h3460 ?_)
  refine q_iload_n dX12_mostCranes_43 rfl rfl ?_
  cases h
  exact q_ireturn dX12_mostCranes_44 rfl hQ
set_option maxRecDepth 20000 in
theorem M_craneSlots_L7_ok {X : qX} (hL : ∀ c, c < 93 → c ∈ qLs X) (d : Nat) {Q : Option qV → qSto → Prop} : ∀ (n : Nat) (x1 : Int) (x2 : Int) (x3 : Int) (S : qSto) (o : (Int × qSto)), M_craneSlots_L7 n x1 x2 x3 S = some o → (qW X (d + 3) yX12_craneSlots cX12_craneSlots 4 (some .int) 32 [(2, qi o.1)] [] o.2 Q) → qW X (d + 3) yX12_craneSlots cX12_craneSlots 4 (some .int) 7 [(0, qr 70), (1, qi x1), (2, qi x2), (3, qi x3)] [] S Q := by
  intro n
  induction n with
  | zero =>
    intro x1 x2 x3 S o h
    simp [M_craneSlots_L7] at h
  | succ n ih =>
    intro x1 x2 x3 S o h hE
    rw [M_craneSlots_L7] at h
    refine q_iload_n dX12_craneSlots_7 rfl rfl ?_
    refine q_bipush dX12_craneSlots_8 (by decide) rfl ?_
    refine q_iload_n dX12_craneSlots_10 rfl rfl ?_
    refine q_imul dX12_craneSlots_11 rfl ?_
    refine q_bipush dX12_craneSlots_12 (by decide) rfl ?_
    refine q_iadd dX12_craneSlots_14 rfl ?_
    obtain ⟨c3463, h⟩ := qk_some h
    obtain ⟨c3464, h⟩ := qk_some h
    refine q_icmp_ge (tgt := 32) dX12_craneSlots_15 (by decide) rfl (qRb_R c3463) (qRb_R c3464) (fun g => ?_) (fun g => ?_)
    · rw [if_pos (show ((16 * x1) + 16) ≤ x3 from g)] at h
      cases h
      exact q_pick [2] rfl (hE)
    · rw [if_neg (show ¬ (((16 * x1) + 16) ≤ x3) from g)] at h
      refine q_iload_n dX12_craneSlots_18 rfl rfl ?_
      refine q_aload_n dX12_craneSlots_19 rfl rfl ?_
      refine q_iload_n dX12_craneSlots_20 rfl rfl ?_
      obtain ⟨q3465, h3466, h⟩ := Option.bind_eq_some_iff.mp h
      refine q_callVi (as := [qi x3]) (c := 70) dX12_craneSlots_21 ml_X12_358 rfl rfl (hL 70 (by decide)) sh_70 rfl rfl (Nat.le_of_ble_eq_true rfl) (M_cranesIn_ok hL d x3 _ _ h3466) rfl ?_
      refine q_iadd dX12_craneSlots_24 rfl ?_
      refine q_istore_n (lv' := [(2, qi (x2 + q3465.1)), (0, qr 70), (1, qi x1), (3, qi x3)]) dX12_craneSlots_25 (by decide) rfl rfl ?_
      refine q_iinc (lv' := [(3, qi (x3 + 1)), (2, qi (x2 + q3465.1)), (0, qr 70), (1, qi x1)]) dX12_craneSlots_26 (by decide) rfl rfl rfl ?_
      refine q_goto (pc' := 7) dX12_craneSlots_29 (by decide) ?_
      exact q_pick [2, 3, 1, 0] rfl (ih x1 (x2 + q3465.1) (x3 + 1) _ _ h hE)
set_option maxRecDepth 20000 in
theorem M_craneSlots_ok {X : qX} (hL : ∀ c, c < 93 → c ∈ qLs X) (d : Nat) (a1 : Int) (S : qSto) (o : (Int × qSto)) (h : M_craneSlots a1 S = some o) (Q : Option qV → qSto → Prop) (hQ : Q (some (qi o.1)) o.2) : qC X (d + 3) yX12_craneSlots cX12_craneSlots 4 (some .int) [qr 70, qi a1] S Q := by
  refine q_entry (lv := [(0, qr 70), (1, qi a1)]) pn_X12 (Nat.le_of_ble_eq_true rfl) rfl ?_
  unfold M_craneSlots at h
  refine q_iconst dX12_craneSlots_0 rfl rfl ?_
  refine q_istore_n (lv' := [(2, qi 0), (0, qr 70), (1, qi a1)]) dX12_craneSlots_1 (by decide) rfl rfl ?_
  refine q_bipush dX12_craneSlots_2 (by decide) rfl ?_
  refine q_iload_n dX12_craneSlots_4 rfl rfl ?_
  refine q_imul dX12_craneSlots_5 rfl ?_
  refine q_istore_n (lv' := [(3, qi (16 * a1)), (2, qi 0), (0, qr 70), (1, qi a1)]) dX12_craneSlots_6 (by decide) rfl rfl ?_
  obtain ⟨q3467, h3468, h⟩ := Option.bind_eq_some_iff.mp h
  refine q_pick [2, 3, 1, 0] rfl (M_craneSlots_L7_ok hL d qF a1 0 (16 * a1) _ _ h3468 ?_)
  refine q_iload_n dX12_craneSlots_32 rfl rfl ?_
  cases h
  exact q_ireturn dX12_craneSlots_33 rfl hQ
set_option maxRecDepth 20000 in
theorem M_shift_ok {X : qX} (hL : ∀ c, c < 93 → c ∈ qLs X) (d : Nat) (a1 : Int) (a2 : Int) (a3 : Int) (S : qSto) (o : (Int × qSto)) (h : M_shift a1 a2 a3 S = some o) (Q : Option qV → qSto → Prop) (hQ : Q (some (qi o.1)) o.2) : qC X (d + 4) yX12_shift cX12_shift 5 (some .int) [qr 70, qi a1, qi a2, qi a3] S Q := by
  refine q_entry (lv := [(0, qr 70), (1, qi a1), (2, qi a2), (3, qi a3)]) pn_X12 (Nat.le_of_ble_eq_true rfl) rfl ?_
  unfold M_shift at h
  refine q_iload_n dX12_shift_0 rfl rfl ?_
  refine q_iload_n dX12_shift_1 rfl rfl ?_
  obtain ⟨q3432, h3433, h⟩ := Option.bind_eq_some_iff.mp h
  refine q_callSi (as := [qi a1, qi a2]) dX12_shift_2 ml_X12_286 rfl rfl (Nat.le_of_ble_eq_true rfl) (M_isShift_ok hL (d + 2) a1 a2 _ _ h3433) rfl ?_
  obtain ⟨c3434, h⟩ := qk_some h
  refine q_if_eq (tgt := 20) dX12_shift_5 (by decide) rfl (qRb_R c3434)  (fun g => ?_) (fun g => ?_)
  · rw [if_pos (show q3432.1 = 0 from g)] at h
    refine q_iconst dX12_shift_20 rfl rfl ?_
    cases h
    exact q_ireturn dX12_shift_21 rfl hQ
  · rw [if_neg (show ¬ (q3432.1 = 0) from g)] at h
    refine q_iload_n dX12_shift_8 rfl rfl ?_
    obtain ⟨c3435, h⟩ := qk_some h
    refine q_i2l dX12_shift_9 (qRb_R c3435) rfl ?_
    refine q_lconst (v := 0) dX12_shift_10 rfl rfl ?_
    refine q_ldc2 (v := 3) dX12_shift_11 qw_1729 rfl ?_
    obtain ⟨q3436, h3437, h⟩ := Option.bind_eq_some_iff.mp h
    refine q_callSi (as := [ql a3, ql 0, ql 3]) dX12_shift_14 ml_X12_99 rfl rfl (Nat.le_of_ble_eq_true rfl) (M_in_ok hL (d + 3) a3 0 3 _ _ h3437) rfl ?_
    obtain ⟨c3438, h⟩ := qk_some h
    refine q_if_ne (tgt := 22) dX12_shift_17 (by decide) rfl (qRb_R c3438)  (fun g => ?_) (fun g => ?_)
    · rw [if_neg (show ¬ (q3436.1 = 0) from g)] at h
      refine q_iconst dX12_shift_22 rfl rfl ?_
      refine q_iload_n dX12_shift_23 rfl rfl ?_
      refine q_imul dX12_shift_24 rfl ?_
      refine q_iload_n dX12_shift_25 rfl rfl ?_
      refine q_iadd dX12_shift_26 rfl ?_
      refine q_istore (lv' := [(4, qi ((3 * a1) + a2)), (0, qr 70), (1, qi a1), (2, qi a2), (3, qi a3)]) dX12_shift_27 (by decide) rfl rfl ?_
      refine q_iload_n dX12_shift_29 rfl rfl ?_
      obtain ⟨c3439, h⟩ := qk_some h
      by_cases e3935 : a3 = 0
      · rw [if_pos e3935] at h
        refine q_tsw (tgt := 77) dX12_shift_30 (qRb_R c3439) (by decide) (fun g => absurd g (by rw [e3935]; decide)) (fun _ _ => ⟨26, 56, by rw [e3935]; rfl, by decide, ?_⟩)
        refine q_aload_n dX12_shift_56 rfl rfl ?_
        refine q_iload dX12_shift_57 rfl rfl ?_
        obtain ⟨q3448, h3449, h⟩ := Option.bind_eq_some_iff.mp h
        refine q_callVi (as := [qi ((3 * a1) + a2)]) (c := 70) dX12_shift_59 ml_X12_489 rfl rfl (hL 70 (by decide)) sh_70 rfl rfl (Nat.le_of_ble_eq_true rfl) (M_boxesIn_ok hL (d + 1) ((3 * a1) + a2) _ _ h3449) rfl ?_
        cases h
        exact q_ireturn dX12_shift_62 rfl hQ
      · rw [if_neg e3935] at h
        by_cases e3936 : a3 = 1
        · rw [if_pos e3936] at h
          refine q_tsw (tgt := 77) dX12_shift_30 (qRb_R c3439) (by decide) (fun g => absurd g (by rw [e3936]; decide)) (fun _ _ => ⟨33, 63, by rw [e3936]; rfl, by decide, ?_⟩)
          refine q_aload_n dX12_shift_63 rfl rfl ?_
          refine q_iload dX12_shift_64 rfl rfl ?_
          obtain ⟨q3461, h3462, h⟩ := Option.bind_eq_some_iff.mp h
          refine q_callVi (as := [qi ((3 * a1) + a2)]) (c := 70) dX12_shift_66 ml_X12_492 rfl rfl (hL 70 (by decide)) sh_70 rfl rfl (Nat.le_of_ble_eq_true rfl) (M_mostCranes_ok hL d ((3 * a1) + a2) _ _ h3462) rfl ?_
          cases h
          exact q_ireturn dX12_shift_69 rfl hQ
        · rw [if_neg e3936] at h
          by_cases e3937 : a3 = 2
          · rw [if_pos e3937] at h
            refine q_tsw (tgt := 77) dX12_shift_30 (qRb_R c3439) (by decide) (fun g => absurd g (by rw [e3937]; decide)) (fun _ _ => ⟨40, 70, by rw [e3937]; rfl, by decide, ?_⟩)
            refine q_aload_n dX12_shift_70 rfl rfl ?_
            refine q_iload dX12_shift_71 rfl rfl ?_
            obtain ⟨q3469, h3470, h⟩ := Option.bind_eq_some_iff.mp h
            refine q_callVi (as := [qi ((3 * a1) + a2)]) (c := 70) dX12_shift_73 ml_X12_495 rfl rfl (hL 70 (by decide)) sh_70 rfl rfl (Nat.le_of_ble_eq_true rfl) (M_craneSlots_ok hL d ((3 * a1) + a2) _ _ h3470) rfl ?_
            cases h
            exact q_ireturn dX12_shift_76 rfl hQ
          · rw [if_neg e3937] at h
            refine q_tsw (tgt := 77) dX12_shift_30 (qRb_R c3439) (by decide) (fun _ => ?_) (fun g1 g2 => absurd g1 (by omega))
            refine q_bipush dX12_shift_77 (by decide) rfl ?_
            refine q_aload_n dX12_shift_79 rfl rfl ?_
            refine q_iload dX12_shift_80 rfl rfl ?_
            obtain ⟨q3471, h3472, h⟩ := Option.bind_eq_some_iff.mp h
            refine q_callVi (as := [qi ((3 * a1) + a2)]) (c := 70) dX12_shift_82 ml_X12_289 rfl rfl (hL 70 (by decide)) sh_70 rfl rfl (Nat.le_of_ble_eq_true rfl) (M_gangsBy_ok hL (d + 3) ((3 * a1) + a2) _ _ h3472) rfl ?_
            refine q_imul dX12_shift_85 rfl ?_
            refine q_aload_n dX12_shift_86 rfl rfl ?_
            refine q_iload dX12_shift_87 rfl rfl ?_
            obtain ⟨q3473, h3474, h⟩ := Option.bind_eq_some_iff.mp h
            refine q_callVi (as := [qi ((3 * a1) + a2)]) (c := 70) dX12_shift_89 ml_X12_495 rfl rfl (hL 70 (by decide)) sh_70 rfl rfl (Nat.le_of_ble_eq_true rfl) (M_craneSlots_ok hL d ((3 * a1) + a2) _ _ h3474) rfl ?_
            refine q_isub dX12_shift_92 rfl ?_
            cases h
            exact q_ireturn dX12_shift_93 rfl hQ
    · rw [if_pos (show q3436.1 = 0 from g)] at h
      refine q_iconst dX12_shift_20 rfl rfl ?_
      cases h
      exact q_ireturn dX12_shift_21 rfl hQ
set_option maxRecDepth 20000 in
theorem M_busiest_L16_ok {X : qX} (hL : ∀ c, c < 93 → c ∈ qLs X) (d : Nat) {Q : Option qV → qSto → Prop} : ∀ (n : Nat) (x1 : Int) (x2 : Int) (x3 : Int) (S : qSto) (o : (Int × qSto)), M_busiest_L16 n x2 x3 S = some o → (qW X (d + 3) yX12_busiest cX12_busiest 4 (some .int) 47 [(0, qr 70), (1, qi x1), (2, qi o.1)] [] o.2 Q) → qW X (d + 3) yX12_busiest cX12_busiest 4 (some .int) 16 [(0, qr 70), (1, qi x1), (2, qi x2), (3, qi x3)] [] S Q := by
  intro n
  induction n with
  | zero =>
    intro x1 x2 x3 S o h
    simp [M_busiest_L16] at h
  | succ n ih =>
    intro x1 x2 x3 S o h hE
    rw [M_busiest_L16] at h
    refine q_iload_n dX12_busiest_16 rfl rfl ?_
    refine q_bipush dX12_busiest_17 (by decide) rfl ?_
    obtain ⟨c3479, h⟩ := qk_some h
    refine q_icmp_ge (tgt := 47) dX12_busiest_19 (by decide) rfl (qRb_R c3479) ⟨by decide, by decide⟩ (fun g => ?_) (fun g => ?_)
    · rw [if_pos (show 21 ≤ x3 from g)] at h
      cases h
      exact q_pick [0, 1, 2] rfl (hE)
    · rw [if_neg (show ¬ (21 ≤ x3) from g)] at h
      refine q_aload_n dX12_busiest_22 rfl rfl ?_
      refine q_iload_n dX12_busiest_23 rfl rfl ?_
      obtain ⟨q3480, h3481, h⟩ := Option.bind_eq_some_iff.mp h
      refine q_callVi (as := [qi x3]) (c := 70) dX12_busiest_24 ml_X12_489 rfl rfl (hL 70 (by decide)) sh_70 rfl rfl (Nat.le_of_ble_eq_true rfl) (M_boxesIn_ok hL d x3 _ _ h3481) rfl ?_
      refine q_aload_n dX12_busiest_27 rfl rfl ?_
      refine q_iload_n dX12_busiest_28 rfl rfl ?_
      obtain ⟨q3482, h3483, h⟩ := Option.bind_eq_some_iff.mp h
      refine q_callVi (as := [qi x2]) (c := 70) dX12_busiest_29 ml_X12_489 rfl rfl (hL 70 (by decide)) sh_70 rfl rfl (Nat.le_of_ble_eq_true rfl) (M_boxesIn_ok hL d x2 _ _ h3483) rfl ?_
      refine q_jn (G := fun (t3486 : Int) => qW X (d + 3) yX12_busiest cX12_busiest 4 (some .int) 40 [(0, qr 70), (1, qi x1), (3, qi x3)] [qi t3486] q3482.2 Q) h (fun t3486 h => ?_) (fun t3486 h hk3938 => ?_)
      · try dsimp only at h
        refine q_istore_n (lv' := [(2, qi t3486), (0, qr 70), (1, qi x1), (3, qi x3)]) dX12_busiest_40 (by decide) rfl rfl ?_
        refine q_iinc (lv' := [(3, qi (x3 + 1)), (2, qi t3486), (0, qr 70), (1, qi x1)]) dX12_busiest_41 (by decide) rfl rfl rfl ?_
        refine q_goto (pc' := 16) dX12_busiest_44 (by decide) ?_
        exact q_pick [2, 3, 1, 0] rfl (ih x1 t3486 (x3 + 1) _ _ h hE)
      · skip
        obtain ⟨c3484, h⟩ := qk_some h
        obtain ⟨c3485, h⟩ := qk_some h
        refine q_icmp_le (tgt := 39) dX12_busiest_32 (by decide) rfl (qRb_R c3484) (qRb_R c3485) (fun g => ?_) (fun g => ?_)
        · rw [if_pos (show q3480.1 ≤ q3482.1 from g)] at h
          refine q_iload_n dX12_busiest_39 rfl rfl ?_
          cases h
          exact q_pick [0, 1, 3] rfl hk3938
        · rw [if_neg (show ¬ (q3480.1 ≤ q3482.1) from g)] at h
          refine q_iload_n dX12_busiest_35 rfl rfl ?_
          refine q_goto (pc' := 40) dX12_busiest_36 (by decide) ?_
          cases h
          exact q_pick [0, 1, 3] rfl hk3938
set_option maxRecDepth 20000 in
theorem M_busiest_ok {X : qX} (hL : ∀ c, c < 93 → c ∈ qLs X) (d : Nat) (a1 : Int) (S : qSto) (o : (Int × qSto)) (h : M_busiest a1 S = some o) (Q : Option qV → qSto → Prop) (hQ : Q (some (qi o.1)) o.2) : qC X (d + 3) yX12_busiest cX12_busiest 4 (some .int) [qr 70, qi a1] S Q := by
  refine q_entry (lv := [(0, qr 70), (1, qi a1)]) pn_X12 (Nat.le_of_ble_eq_true rfl) rfl ?_
  unfold M_busiest at h
  refine q_iload_n dX12_busiest_0 rfl rfl ?_
  obtain ⟨c3475, h⟩ := qk_some h
  refine q_i2l dX12_busiest_1 (qRb_R c3475) rfl ?_
  refine q_lconst (v := 0) dX12_busiest_2 rfl rfl ?_
  refine q_lconst (v := 1) dX12_busiest_3 rfl rfl ?_
  obtain ⟨q3476, h3477, h⟩ := Option.bind_eq_some_iff.mp h
  refine q_callSi (as := [ql a1, ql 0, ql 1]) dX12_busiest_4 ml_X12_99 rfl rfl (Nat.le_of_ble_eq_true rfl) (M_in_ok hL (d + 2) a1 0 1 _ _ h3477) rfl ?_
  obtain ⟨c3478, h⟩ := qk_some h
  refine q_if_ne (tgt := 12) dX12_busiest_7 (by decide) rfl (qRb_R c3478)  (fun g => ?_) (fun g => ?_)
  · rw [if_neg (show ¬ (q3476.1 = 0) from g)] at h
    refine q_iconst dX12_busiest_12 rfl rfl ?_
    refine q_istore_n (lv' := [(2, qi 0), (0, qr 70), (1, qi a1)]) dX12_busiest_13 (by decide) rfl rfl ?_
    refine q_iconst dX12_busiest_14 rfl rfl ?_
    refine q_istore_n (lv' := [(3, qi 1), (2, qi 0), (0, qr 70), (1, qi a1)]) dX12_busiest_15 (by decide) rfl rfl ?_
    obtain ⟨q3487, h3488, h⟩ := Option.bind_eq_some_iff.mp h
    refine q_pick [2, 3, 1, 0] rfl (M_busiest_L16_ok hL d qF a1 0 1 _ _ h3488 ?_)
    refine q_iload_n dX12_busiest_47 rfl rfl ?_
    obtain ⟨c3489, h⟩ := qk_some h
    refine q_if_ne (tgt := 55) dX12_busiest_48 (by decide) rfl (qRb_R c3489)  (fun g => ?_) (fun g => ?_)
    · rw [if_neg (show ¬ (a1 = 0) from g)] at h
      refine q_aload_n dX12_busiest_55 rfl rfl ?_
      refine q_iload_n dX12_busiest_56 rfl rfl ?_
      obtain ⟨q3490, h3491, h⟩ := Option.bind_eq_some_iff.mp h
      refine q_callVi (as := [qi q3487.1]) (c := 70) dX12_busiest_57 ml_X12_489 rfl rfl (hL 70 (by decide)) sh_70 rfl rfl (Nat.le_of_ble_eq_true rfl) (M_boxesIn_ok hL d q3487.1 _ _ h3491) rfl ?_
      cases h
      exact q_ireturn dX12_busiest_60 rfl hQ
    · rw [if_pos (show a1 = 0 from g)] at h
      refine q_iload_n dX12_busiest_51 rfl rfl ?_
      refine q_goto (pc' := 60) dX12_busiest_52 (by decide) ?_
      cases h
      exact q_ireturn dX12_busiest_60 rfl hQ
  · rw [if_pos (show q3476.1 = 0 from g)] at h
    refine q_iconst dX12_busiest_10 rfl rfl ?_
    cases h
    exact q_ireturn dX12_busiest_11 rfl hQ
set_option maxRecDepth 20000 in
theorem M_without_L14_ok {X : qX} (hL : ∀ c, c < 93 → c ∈ qLs X) (d : Nat) {Q : Option qV → qSto → Prop} : ∀ (n : Nat) (x1 : Int) (x2 : Int) (x3 : Int) (S : qSto) (o : (Int × qSto)), M_without_L14 n x1 x2 x3 S = some o → (qW X (d + 4) yX12_without cX12_without 4 (some .int) 44 [(2, qi o.1)] [] o.2 Q) → qW X (d + 4) yX12_without cX12_without 4 (some .int) 14 [(0, qr 70), (1, qi x1), (2, qi x2), (3, qi x3)] [] S Q := by
  intro n
  induction n with
  | zero =>
    intro x1 x2 x3 S o h
    simp [M_without_L14] at h
  | succ n ih =>
    intro x1 x2 x3 S o h hE
    rw [M_without_L14] at h
    refine q_iload_n dX12_without_14 rfl rfl ?_
    refine q_sipush dX12_without_15 (by decide) rfl ?_
    obtain ⟨c3495, h⟩ := qk_some h
    refine q_icmp_ge (tgt := 44) dX12_without_18 (by decide) rfl (qRb_R c3495) ⟨by decide, by decide⟩ (fun g => ?_) (fun g => ?_)
    · rw [if_pos (show 336 ≤ x3 from g)] at h
      cases h
      exact q_pick [2] rfl (hE)
    · rw [if_neg (show ¬ (336 ≤ x3) from g)] at h
      refine q_aload_n dX12_without_21 rfl rfl ?_
      refine q_iload_n dX12_without_22 rfl rfl ?_
      refine q_iload_n dX12_without_23 rfl rfl ?_
      obtain ⟨q3496, h3497, h⟩ := Option.bind_eq_some_iff.mp h
      refine q_callVi (as := [qi x3, qi x1]) (c := 70) dX12_without_24 ml_X12_361 rfl rfl (hL 70 (by decide)) sh_70 rfl rfl (Nat.le_of_ble_eq_true rfl) (M_deals_ok hL d x3 x1 _ _ h3497) rfl ?_
      refine q_jn (G := fun (t3499 : Int) => qW X (d + 4) yX12_without cX12_without 4 (some .int) 37 [(0, qr 70), (1, qi x1), (3, qi x3)] [qi t3499] q3496.2 Q) h (fun t3499 h => ?_) (fun t3499 h hk3939 => ?_)
      · try dsimp only at h
        refine q_istore_n (lv' := [(2, qi t3499), (0, qr 70), (1, qi x1), (3, qi x3)]) dX12_without_37 (by decide) rfl rfl ?_
        refine q_iinc (lv' := [(3, qi (x3 + 1)), (2, qi t3499), (0, qr 70), (1, qi x1)]) dX12_without_38 (by decide) rfl rfl rfl ?_
        refine q_goto (pc' := 14) dX12_without_41 (by decide) ?_
        exact q_pick [2, 3, 1, 0] rfl (ih x1 t3499 (x3 + 1) _ _ h hE)
      · skip
        obtain ⟨c3498, h⟩ := qk_some h
        refine q_if_eq (tgt := 34) dX12_without_27 (by decide) rfl (qRb_R c3498)  (fun g => ?_) (fun g => ?_)
        · rw [if_pos (show q3496.1 = 0 from g)] at h
          refine q_iload_n dX12_without_34 rfl rfl ?_
          refine q_iconst dX12_without_35 rfl rfl ?_
          refine q_iadd dX12_without_36 rfl ?_
          cases h
          exact q_pick [0, 1, 3] rfl hk3939
        · rw [if_neg (show ¬ (q3496.1 = 0) from g)] at h
          refine q_iload_n dX12_without_30 rfl rfl ?_
          refine q_goto (pc' := 37) dX12_without_31 (by decide) ?_
          cases h
          exact q_pick [0, 1, 3] rfl hk3939
set_option maxRecDepth 20000 in
theorem M_without_ok {X : qX} (hL : ∀ c, c < 93 → c ∈ qLs X) (d : Nat) (a1 : Int) (S : qSto) (o : (Int × qSto)) (h : M_without a1 S = some o) (Q : Option qV → qSto → Prop) (hQ : Q (some (qi o.1)) o.2) : qC X (d + 4) yX12_without cX12_without 4 (some .int) [qr 70, qi a1] S Q := by
  refine q_entry (lv := [(0, qr 70), (1, qi a1)]) pn_X12 (Nat.le_of_ble_eq_true rfl) rfl ?_
  unfold M_without at h
  refine q_aload_n dX12_without_0 rfl rfl ?_
  refine q_iload_n dX12_without_1 rfl rfl ?_
  obtain ⟨q3492, h3493, h⟩ := Option.bind_eq_some_iff.mp h
  refine q_callVi (as := [qi a1]) (c := 70) dX12_without_2 ml_X12_480 rfl rfl (hL 70 (by decide)) sh_70 rfl rfl (Nat.le_of_ble_eq_true rfl) (M_isCrane_ok hL (d + 2) a1 _ _ h3493) rfl ?_
  obtain ⟨c3494, h⟩ := qk_some h
  refine q_if_ne (tgt := 10) dX12_without_5 (by decide) rfl (qRb_R c3494)  (fun g => ?_) (fun g => ?_)
  · rw [if_neg (show ¬ (q3492.1 = 0) from g)] at h
    refine q_iconst dX12_without_10 rfl rfl ?_
    refine q_istore_n (lv' := [(2, qi 0), (0, qr 70), (1, qi a1)]) dX12_without_11 (by decide) rfl rfl ?_
    refine q_iconst dX12_without_12 rfl rfl ?_
    refine q_istore_n (lv' := [(3, qi 0), (2, qi 0), (0, qr 70), (1, qi a1)]) dX12_without_13 (by decide) rfl rfl ?_
    obtain ⟨q3500, h3501, h⟩ := Option.bind_eq_some_iff.mp h
    refine q_pick [2, 3, 1, 0] rfl (M_without_L14_ok hL d qF a1 0 0 _ _ h3501 ?_)
    refine q_iload_n dX12_without_44 rfl rfl ?_
    cases h
    exact q_ireturn dX12_without_45 rfl hQ
  · rw [if_pos (show q3492.1 = 0 from g)] at h
    refine q_iconst dX12_without_8 rfl rfl ?_
    cases h
    exact q_ireturn dX12_without_9 rfl hQ
set_option maxRecDepth 20000 in
theorem M_used_L35_ok {X : qX} (hL : ∀ c, c < 93 → c ∈ qLs X) (d : Nat) {Q : Option qV → qSto → Prop} : ∀ (n : Nat) (x1 : Int) (x2 : Int) (x3 : Int) (x4 : Int) (S : qSto) (o : (Int × qSto)), M_used_L35 n x2 x3 x4 S = some o → (qW X (d + 2) yX12_used cX12_used 5 (some .int) 77 [(0, qr 70), (1, qi x1), (2, qi o.1), (3, qi x3)] [] o.2 Q) → qW X (d + 2) yX12_used cX12_used 5 (some .int) 35 [(0, qr 70), (1, qi x1), (2, qi x2), (3, qi x3), (4, qi x4)] [] S Q := by
  intro n
  induction n with
  | zero =>
    intro x1 x2 x3 x4 S o h
    simp [M_used_L35] at h
  | succ n ih =>
    intro x1 x2 x3 x4 S o h hE
    rw [M_used_L35] at h
    refine q_iload dX12_used_35 rfl rfl ?_
    refine q_aload_n dX12_used_37 rfl rfl ?_
    refine q_getA dX12_used_38 fl_X12_13 (hL 70 (by decide)) sh_70 (by decide) rfl rfl ?_
    refine q_bipush dX12_used_41 (by decide) rfl ?_
    refine q_iaload dX12_used_43 (hL 72 (by decide)) sh_72 (by decide) (by decide) rfl ?_
    obtain ⟨c3508, h⟩ := qk_some h
    obtain ⟨c3509, h⟩ := qk_some h
    refine q_icmp_ge (tgt := 77) dX12_used_44 (by decide) rfl (qRb_R c3508) (qRb_R c3509) (fun g => ?_) (fun g => ?_)
    · rw [if_pos (show (S 72 9) ≤ x4 from g)] at h
      cases h
      exact q_pick [0, 1, 2, 3] rfl (hE)
    · rw [if_neg (show ¬ ((S 72 9) ≤ x4) from g)] at h
      refine q_aload_n dX12_used_47 rfl rfl ?_
      refine q_iload dX12_used_48 rfl rfl ?_
      refine q_iload_n dX12_used_50 rfl rfl ?_
      obtain ⟨q3510, h3511, h⟩ := Option.bind_eq_some_iff.mp h
      refine q_callVi (as := [qi x4, qi x3]) (c := 70) dX12_used_51 ml_X12_471 rfl rfl (hL 70 (by decide)) sh_70 rfl rfl (Nat.le_of_ble_eq_true rfl) (M_isLying_ok hL d x4 x3 _ _ h3511) rfl ?_
      refine q_jn (G := fun (t3515 : (Int × qSto)) => qW X (d + 2) yX12_used cX12_used 5 (some .int) 70 [(0, qr 70), (1, qi x1), (3, qi x3), (4, qi x4)] [qi t3515.1] t3515.2 Q) h (fun t3515 h => ?_) (fun t3515 h hk3940 => ?_)
      · try dsimp only at h
        refine q_istore_n (lv' := [(2, qi t3515.1), (0, qr 70), (1, qi x1), (3, qi x3), (4, qi x4)]) dX12_used_70 (by decide) rfl rfl ?_
        refine q_iinc (lv' := [(4, qi (x4 + 1)), (2, qi t3515.1), (0, qr 70), (1, qi x1), (3, qi x3)]) dX12_used_71 (by decide) rfl rfl rfl ?_
        refine q_goto (pc' := 35) dX12_used_74 (by decide) ?_
        exact q_pick [2, 3, 1, 4, 0] rfl (ih x1 t3515.1 x3 (x4 + 1) _ _ h hE)
      · skip
        obtain ⟨c3512, h⟩ := qk_some h
        refine q_if_eq (tgt := 69) dX12_used_54 (by decide) rfl (qRb_R c3512)  (fun g => ?_) (fun g => ?_)
        · rw [if_pos (show q3510.1 = 0 from g)] at h
          refine q_iload_n dX12_used_69 rfl rfl ?_
          cases h
          exact q_pick [0, 1, 3, 4] rfl hk3940
        · rw [if_neg (show ¬ (q3510.1 = 0) from g)] at h
          refine q_iload_n dX12_used_57 rfl rfl ?_
          refine q_aload_n dX12_used_58 rfl rfl ?_
          refine q_iload dX12_used_59 rfl rfl ?_
          refine q_iconst dX12_used_61 rfl rfl ?_
          obtain ⟨q3513, h3514, h⟩ := Option.bind_eq_some_iff.mp h
          refine q_callVi (as := [qi x4, qi 0]) (c := 70) dX12_used_62 ml_X12_316 rfl rfl (hL 70 (by decide)) sh_70 rfl rfl (Nat.le_of_ble_eq_true rfl) (M_of_ok hL (d + 1) x4 0 _ _ h3514) rfl ?_
          refine q_iadd dX12_used_65 rfl ?_
          refine q_goto (pc' := 70) dX12_used_66 (by decide) ?_
          cases h
          exact q_pick [0, 1, 3, 4] rfl hk3940
set_option maxRecDepth 20000 in
theorem M_used_L21_ok {X : qX} (hL : ∀ c, c < 93 → c ∈ qLs X) (d : Nat) {Q : Option qV → qSto → Prop} : ∀ (n : Nat) (x1 : Int) (x2 : Int) (x3 : Int) (S : qSto) (o : (Int × qSto)), M_used_L21 n x1 x2 x3 S = some o → (qW X (d + 2) yX12_used cX12_used 5 (some .int) 83 [(0, qr 70), (2, qi o.1)] [] o.2 Q) → qW X (d + 2) yX12_used cX12_used 5 (some .int) 21 [(0, qr 70), (1, qi x1), (2, qi x2), (3, qi x3)] [] S Q := by
  intro n
  induction n with
  | zero =>
    intro x1 x2 x3 S o h
    simp [M_used_L21] at h
  | succ n ih =>
    intro x1 x2 x3 S o h hE
    rw [M_used_L21] at h
    refine q_iload_n dX12_used_21 rfl rfl ?_
    refine q_bipush dX12_used_22 (by decide) rfl ?_
    refine q_iload_n dX12_used_24 rfl rfl ?_
    refine q_imul dX12_used_25 rfl ?_
    refine q_bipush dX12_used_26 (by decide) rfl ?_
    refine q_iadd dX12_used_28 rfl ?_
    obtain ⟨c3506, h⟩ := qk_some h
    obtain ⟨c3507, h⟩ := qk_some h
    refine q_icmp_ge (tgt := 83) dX12_used_29 (by decide) rfl (qRb_R c3506) (qRb_R c3507) (fun g => ?_) (fun g => ?_)
    · rw [if_pos (show ((48 * x1) + 48) ≤ x3 from g)] at h
      cases h
      exact q_pick [0, 2] rfl (hE)
    · rw [if_neg (show ¬ (((48 * x1) + 48) ≤ x3) from g)] at h
      refine q_iconst dX12_used_32 rfl rfl ?_
      refine q_istore (lv' := [(4, qi 0), (0, qr 70), (1, qi x1), (2, qi x2), (3, qi x3)]) dX12_used_33 (by decide) rfl rfl ?_
      obtain ⟨q3516, h3517, h⟩ := Option.bind_eq_some_iff.mp h
      refine q_pick [1, 2, 3, 4, 0] rfl (M_used_L35_ok hL d qF x1 x2 x3 0 _ _ h3517 ?_)
      refine q_iinc (lv' := [(3, qi (x3 + 1)), (0, qr 70), (1, qi x1), (2, qi q3516.1)]) dX12_used_77 (by decide) rfl rfl rfl ?_
      refine q_goto (pc' := 21) dX12_used_80 (by decide) ?_
      exact q_pick [1, 2, 3, 0] rfl (ih x1 q3516.1 (x3 + 1) _ _ h hE)
set_option maxRecDepth 20000 in
theorem M_used_ok {X : qX} (hL : ∀ c, c < 93 → c ∈ qLs X) (d : Nat) (a1 : Int) (S : qSto) (o : (Int × qSto)) (h : M_used a1 S = some o) (Q : Option qV → qSto → Prop) (hQ : Q (some (qi o.1)) o.2) : qC X (d + 2) yX12_used cX12_used 5 (some .int) [qr 70, qi a1] S Q := by
  refine q_entry (lv := [(0, qr 70), (1, qi a1)]) pn_X12 (Nat.le_of_ble_eq_true rfl) rfl ?_
  unfold M_used at h
  refine q_iload_n dX12_used_0 rfl rfl ?_
  obtain ⟨c3502, h⟩ := qk_some h
  refine q_i2l dX12_used_1 (qRb_R c3502) rfl ?_
  refine q_lconst (v := 0) dX12_used_2 rfl rfl ?_
  refine q_ldc2 (v := 6) dX12_used_3 qw_1669 rfl ?_
  obtain ⟨q3503, h3504, h⟩ := Option.bind_eq_some_iff.mp h
  refine q_callSi (as := [ql a1, ql 0, ql 6]) dX12_used_6 ml_X12_99 rfl rfl (Nat.le_of_ble_eq_true rfl) (M_in_ok hL (d + 1) a1 0 6 _ _ h3504) rfl ?_
  obtain ⟨c3505, h⟩ := qk_some h
  refine q_if_ne (tgt := 14) dX12_used_9 (by decide) rfl (qRb_R c3505)  (fun g => ?_) (fun g => ?_)
  · rw [if_neg (show ¬ (q3503.1 = 0) from g)] at h
    refine q_iconst dX12_used_14 rfl rfl ?_
    refine q_istore_n (lv' := [(2, qi 0), (0, qr 70), (1, qi a1)]) dX12_used_15 (by decide) rfl rfl ?_
    refine q_bipush dX12_used_16 (by decide) rfl ?_
    refine q_iload_n dX12_used_18 rfl rfl ?_
    refine q_imul dX12_used_19 rfl ?_
    refine q_istore_n (lv' := [(3, qi (48 * a1)), (2, qi 0), (0, qr 70), (1, qi a1)]) dX12_used_20 (by decide) rfl rfl ?_
    obtain ⟨q3518, h3519, h⟩ := Option.bind_eq_some_iff.mp h
    refine q_pick [2, 3, 1, 0] rfl (M_used_L21_ok hL d qF a1 0 (48 * a1) _ _ h3519 ?_)
    refine q_bipush dX12_used_83 (by decide) rfl ?_
    refine q_iload_n dX12_used_85 rfl rfl ?_
    refine q_imul dX12_used_86 rfl ?_
    refine q_bipush dX12_used_87 (by decide) rfl ?_
    refine q_aload_n dX12_used_89 rfl rfl ?_
    refine q_getA dX12_used_90 fl_X12_13 (hL 70 (by decide)) sh_70 (by decide) rfl rfl ?_
    refine q_iconst dX12_used_93 rfl rfl ?_
    refine q_iaload dX12_used_94 (hL 72 (by decide)) sh_72 (by decide) (by decide) rfl ?_
    refine q_imul dX12_used_95 rfl ?_
    obtain ⟨c3520, h⟩ := qk_some h
    obtain ⟨c3521, h⟩ := qk_some h
    obtain ⟨c3522, h⟩ := qk_some h
    refine q_idiv dX12_used_96 (qRb_R c3520) (qRb_R c3521) (qNz_ne c3522) rfl ?_
    cases h
    exact q_ireturn dX12_used_97 rfl hQ
  · rw [if_pos (show q3503.1 = 0 from g)] at h
    refine q_iconst dX12_used_12 rfl rfl ?_
    cases h
    exact q_ireturn dX12_used_13 rfl hQ
set_option maxRecDepth 20000 in
theorem M_rankNumber_ok {X : qX} (hL : ∀ c, c < 93 → c ∈ qLs X) (d : Nat) (a1 : Int) (a2 : Int) (S : qSto) (o : (Int × qSto)) (h : M_rankNumber a1 a2 S = some o) (Q : Option qV → qSto → Prop) (hQ : Q (some (qi o.1)) o.2) : qC X (d + 3) yX12_rankNumber cX12_rankNumber 3 (some .int) [qr 70, qi a1, qi a2] S Q := by
  refine q_entry (lv := [(0, qr 70), (1, qi a1), (2, qi a2)]) pn_X12 (Nat.le_of_ble_eq_true rfl) rfl ?_
  unfold M_rankNumber at h
  refine q_iload_n dX12_rankNumber_0 rfl rfl ?_
  obtain ⟨c3537, h⟩ := qk_some h
  refine q_if_ne (tgt := 6) dX12_rankNumber_1 (by decide) rfl (qRb_R c3537)  (fun g => ?_) (fun g => ?_)
  · rw [if_neg (show ¬ (a2 = 0) from g)] at h
    refine q_aload_n dX12_rankNumber_6 rfl rfl ?_
    refine q_iload_n dX12_rankNumber_7 rfl rfl ?_
    obtain ⟨q3538, h3539, h⟩ := Option.bind_eq_some_iff.mp h
    refine q_callVi (as := [qi a1]) (c := 70) dX12_rankNumber_8 ml_X12_326 rfl rfl (hL 70 (by decide)) sh_70 rfl rfl (Nat.le_of_ble_eq_true rfl) (M_stays_ok hL (d + 2) a1 _ _ h3539) rfl ?_
    obtain ⟨c3540, h⟩ := qk_some h
    refine q_if_ne (tgt := 16) dX12_rankNumber_11 (by decide) rfl (qRb_R c3540)  (fun g => ?_) (fun g => ?_)
    · rw [if_neg (show ¬ (q3538.1 = 0) from g)] at h
      refine q_iload_n dX12_rankNumber_16 rfl rfl ?_
      refine q_iconst dX12_rankNumber_17 rfl rfl ?_
      obtain ⟨c3541, h⟩ := qk_some h
      refine q_icmp_ne (tgt := 25) dX12_rankNumber_18 (by decide) rfl (qRb_R c3541) ⟨by decide, by decide⟩ (fun g => ?_) (fun g => ?_)
      · rw [if_neg (show ¬ (a2 = 1) from g)] at h
        refine q_iload_n dX12_rankNumber_25 rfl rfl ?_
        refine q_iconst dX12_rankNumber_26 rfl rfl ?_
        obtain ⟨c3542, h⟩ := qk_some h
        refine q_icmp_ne (tgt := 38) dX12_rankNumber_27 (by decide) rfl (qRb_R c3542) ⟨by decide, by decide⟩ (fun g => ?_) (fun g => ?_)
        · rw [if_neg (show ¬ (a2 = 4) from g)] at h
          refine q_aload_n dX12_rankNumber_38 rfl rfl ?_
          refine q_iload_n dX12_rankNumber_39 rfl rfl ?_
          obtain ⟨q3543, h3544, h⟩ := Option.bind_eq_some_iff.mp h
          refine q_callVi (as := [qi a1]) (c := 70) dX12_rankNumber_40 ml_X12_329 rfl rfl (hL 70 (by decide)) sh_70 rfl rfl (Nat.le_of_ble_eq_true rfl) (M_lateOf_ok hL (d + 1) a1 _ _ h3544) rfl ?_
          cases h
          exact q_ireturn dX12_rankNumber_43 rfl hQ
        · rw [if_pos (show a2 = 4 from g)] at h
          refine q_aload_n dX12_rankNumber_30 rfl rfl ?_
          refine q_iload_n dX12_rankNumber_31 rfl rfl ?_
          obtain ⟨q3545, h3546, h⟩ := Option.bind_eq_some_iff.mp h
          refine q_callVi (as := [qi a1]) (c := 70) dX12_rankNumber_32 ml_X12_332 rfl rfl (hL 70 (by decide)) sh_70 rfl rfl (Nat.le_of_ble_eq_true rfl) (M_costOf_ok hL d a1 _ _ h3546) rfl ?_
          refine q_goto (pc' := 43) dX12_rankNumber_35 (by decide) ?_
          cases h
          exact q_ireturn dX12_rankNumber_43 rfl hQ
      · rw [if_pos (show a2 = 1 from g)] at h
        refine q_iconst dX12_rankNumber_21 rfl rfl ?_
        refine q_goto (pc' := 43) dX12_rankNumber_22 (by decide) ?_
        cases h
        exact q_ireturn dX12_rankNumber_43 rfl hQ
    · rw [if_pos (show q3538.1 = 0 from g)] at h
      refine q_iconst dX12_rankNumber_14 rfl rfl ?_
      cases h
      exact q_ireturn dX12_rankNumber_15 rfl hQ
  · rw [if_pos (show a2 = 0 from g)] at h
    refine q_iconst dX12_rankNumber_4 rfl rfl ?_
    cases h
    exact q_ireturn dX12_rankNumber_5 rfl hQ
set_option maxRecDepth 20000 in
theorem M_rank_L34_ok {X : qX} (hL : ∀ c, c < 93 → c ∈ qLs X) (d : Nat) {Q : Option qV → qSto → Prop} : ∀ (n : Nat) (x1 : Int) (x2 : Int) (x3 : Int) (x4 : Int) (x5 : Int) (S : qSto) (o : (Int × Int × qSto)), M_rank_L34 n x1 x2 x3 x4 x5 S = some o → (qW X (d + 4) yX12_rank cX12_rank 7 (some .int) 97 [(2, qi x2), (3, qi o.1), (4, qi o.2.1)] [] o.2.2 Q) → qW X (d + 4) yX12_rank cX12_rank 7 (some .int) 34 [(0, qr 70), (1, qi x1), (2, qi x2), (3, qi x3), (4, qi x4), (5, qi x5)] [] S Q := by
  intro n
  induction n with
  | zero =>
    intro x1 x2 x3 x4 x5 S o h
    simp [M_rank_L34] at h
  | succ n ih =>
    intro x1 x2 x3 x4 x5 S o h hE
    rw [M_rank_L34] at h
    refine q_iload dX12_rank_34 rfl rfl ?_
    refine q_aload_n dX12_rank_36 rfl rfl ?_
    refine q_getA dX12_rank_37 fl_X12_13 (hL 70 (by decide)) sh_70 (by decide) rfl rfl ?_
    refine q_bipush dX12_rank_40 (by decide) rfl ?_
    refine q_iaload dX12_rank_42 (hL 72 (by decide)) sh_72 (by decide) (by decide) rfl ?_
    obtain ⟨c3531, h⟩ := qk_some h
    obtain ⟨c3532, h⟩ := qk_some h
    refine q_icmp_ge (tgt := 97) dX12_rank_43 (by decide) rfl (qRb_R c3531) (qRb_R c3532) (fun g => ?_) (fun g => ?_)
    · rw [if_pos (show (S 72 9) ≤ x5 from g)] at h
      cases h
      exact q_pick [2, 3, 4] rfl (hE)
    · rw [if_neg (show ¬ ((S 72 9) ≤ x5) from g)] at h
      refine q_aload_n dX12_rank_46 rfl rfl ?_
      refine q_iload dX12_rank_47 rfl rfl ?_
      refine q_bipush dX12_rank_49 (by decide) rfl ?_
      obtain ⟨q3533, h3534, h⟩ := Option.bind_eq_some_iff.mp h
      refine q_callVi (as := [qi x5, qi 6]) (c := 70) dX12_rank_51 ml_X12_316 rfl rfl (hL 70 (by decide)) sh_70 rfl rfl (Nat.le_of_ble_eq_true rfl) (M_of_ok hL (d + 3) x5 6 _ _ h3534) rfl ?_
      refine q_iload_n dX12_rank_54 rfl rfl ?_
      refine q_jn (G := fun (t3552 : (Int × Int × qSto)) => qW X (d + 4) yX12_rank cX12_rank 7 (some .int) 91 [(0, qr 70), (1, qi x1), (2, qi x2), (3, qi t3552.1), (4, qi t3552.2.1), (5, qi x5)] [] t3552.2.2 Q) h (fun t3552 h => ?_) (fun t3552 h hk3941 => ?_)
      · try dsimp only at h
        refine q_iinc (lv' := [(5, qi (x5 + 1)), (0, qr 70), (1, qi x1), (2, qi x2), (3, qi t3552.1), (4, qi t3552.2.1)]) dX12_rank_91 (by decide) rfl rfl rfl ?_
        refine q_goto (pc' := 34) dX12_rank_94 (by decide) ?_
        exact q_pick [1, 2, 3, 4, 5, 0] rfl (ih x1 x2 t3552.1 t3552.2.1 (x5 + 1) _ _ h hE)
      · skip
        obtain ⟨c3535, h⟩ := qk_some h
        obtain ⟨c3536, h⟩ := qk_some h
        refine q_icmp_eq (tgt := 61) dX12_rank_55 (by decide) rfl (qRb_R c3535) (qRb_R c3536) (fun g => ?_) (fun g => ?_)
        · rw [if_pos (show q3533.1 = x1 from g)] at h
          refine q_aload_n dX12_rank_61 rfl rfl ?_
          refine q_iload dX12_rank_62 rfl rfl ?_
          refine q_iload_n dX12_rank_64 rfl rfl ?_
          obtain ⟨q3547, h3548, h⟩ := Option.bind_eq_some_iff.mp h
          refine q_callVi (as := [qi x5, qi x2]) (c := 70) dX12_rank_65 ml_X12_500 rfl rfl (hL 70 (by decide)) sh_70 rfl rfl (Nat.le_of_ble_eq_true rfl) (M_rankNumber_ok hL d x5 x2 _ _ h3548) rfl ?_
          refine q_istore (lv' := [(6, qi q3547.1), (0, qr 70), (1, qi x1), (2, qi x2), (3, qi x3), (4, qi x4), (5, qi x5)]) dX12_rank_68 (by decide) rfl rfl ?_
          refine q_iload_n dX12_rank_70 rfl rfl ?_
          refine q_iload dX12_rank_71 rfl rfl ?_
          refine q_iadd dX12_rank_73 rfl ?_
          refine q_istore_n (lv' := [(3, qi (x3 + q3547.1)), (6, qi q3547.1), (0, qr 70), (1, qi x1), (2, qi x2), (4, qi x4), (5, qi x5)]) dX12_rank_74 (by decide) rfl rfl ?_
          refine q_iload dX12_rank_75 rfl rfl ?_
          refine q_iload dX12_rank_77 rfl rfl ?_
          refine q_jn (G := fun (t3551 : Int) => qW X (d + 4) yX12_rank cX12_rank 7 (some .int) 89 [(0, qr 70), (1, qi x1), (2, qi x2), (3, qi (x3 + q3547.1)), (5, qi x5)] [qi t3551] q3547.2 Q) h (fun t3551 h => ?_) (fun t3551 h hk3942 => ?_)
          · try dsimp only at h
            refine q_istore (lv' := [(4, qi t3551), (0, qr 70), (1, qi x1), (2, qi x2), (3, qi (x3 + q3547.1)), (5, qi x5)]) dX12_rank_89 (by decide) rfl rfl ?_
            cases h
            exact q_pick [1, 2, 3, 4, 0, 5] rfl hk3941
          · skip
            obtain ⟨c3549, h⟩ := qk_some h
            obtain ⟨c3550, h⟩ := qk_some h
            refine q_icmp_le (tgt := 87) dX12_rank_79 (by decide) rfl (qRb_R c3549) (qRb_R c3550) (fun g => ?_) (fun g => ?_)
            · rw [if_pos (show q3547.1 ≤ x4 from g)] at h
              refine q_iload dX12_rank_87 rfl rfl ?_
              cases h
              exact q_pick [2, 3, 4, 0, 6] rfl hk3942
            · rw [if_neg (show ¬ (q3547.1 ≤ x4) from g)] at h
              refine q_iload dX12_rank_82 rfl rfl ?_
              refine q_goto (pc' := 89) dX12_rank_84 (by decide) ?_
              cases h
              exact q_pick [2, 3, 4, 0, 6] rfl hk3942
        · rw [if_neg (show ¬ (q3533.1 = x1) from g)] at h
          refine q_goto (pc' := 91) dX12_rank_58 (by decide) ?_
          cases h
          exact q_pick [0, 1, 2, 3, 4, 5] rfl hk3941
set_option maxRecDepth 20000 in
theorem M_rank_ok {X : qX} (hL : ∀ c, c < 93 → c ∈ qLs X) (d : Nat) (a1 : Int) (a2 : Int) (S : qSto) (o : (Int × qSto)) (h : M_rank a1 a2 S = some o) (Q : Option qV → qSto → Prop) (hQ : Q (some (qi o.1)) o.2) : qC X (d + 4) yX12_rank cX12_rank 7 (some .int) [qr 70, qi a1, qi a2] S Q := by
  refine q_entry (lv := [(0, qr 70), (1, qi a1), (2, qi a2)]) pn_X12 (Nat.le_of_ble_eq_true rfl) rfl ?_
  unfold M_rank at h
  refine q_iload_n dX12_rank_0 rfl rfl ?_
  obtain ⟨c3523, h⟩ := qk_some h
  refine q_i2l dX12_rank_1 (qRb_R c3523) rfl ?_
  refine q_lconst (v := 0) dX12_rank_2 rfl rfl ?_
  refine q_ldc2 (v := 3) dX12_rank_3 qw_1729 rfl ?_
  obtain ⟨q3524, h3525, h⟩ := Option.bind_eq_some_iff.mp h
  refine q_callSi (as := [ql a1, ql 0, ql 3]) dX12_rank_6 ml_X12_99 rfl rfl (Nat.le_of_ble_eq_true rfl) (M_in_ok hL (d + 3) a1 0 3 _ _ h3525) rfl ?_
  obtain ⟨c3526, h⟩ := qk_some h
  refine q_if_eq (tgt := 24) dX12_rank_9 (by decide) rfl (qRb_R c3526)  (fun g => ?_) (fun g => ?_)
  · rw [if_pos (show q3524.1 = 0 from g)] at h
    refine q_iconst dX12_rank_24 rfl rfl ?_
    cases h
    exact q_ireturn dX12_rank_25 rfl hQ
  · rw [if_neg (show ¬ (q3524.1 = 0) from g)] at h
    refine q_iload_n dX12_rank_12 rfl rfl ?_
    obtain ⟨c3527, h⟩ := qk_some h
    refine q_i2l dX12_rank_13 (qRb_R c3527) rfl ?_
    refine q_lconst (v := 0) dX12_rank_14 rfl rfl ?_
    refine q_ldc2 (v := 4) dX12_rank_15 qw_2043 rfl ?_
    obtain ⟨q3528, h3529, h⟩ := Option.bind_eq_some_iff.mp h
    refine q_callSi (as := [ql a2, ql 0, ql 4]) dX12_rank_18 ml_X12_99 rfl rfl (Nat.le_of_ble_eq_true rfl) (M_in_ok hL (d + 3) a2 0 4 _ _ h3529) rfl ?_
    obtain ⟨c3530, h⟩ := qk_some h
    refine q_if_ne (tgt := 26) dX12_rank_21 (by decide) rfl (qRb_R c3530)  (fun g => ?_) (fun g => ?_)
    · rw [if_neg (show ¬ (q3528.1 = 0) from g)] at h
      refine q_iconst dX12_rank_26 rfl rfl ?_
      refine q_istore_n (lv' := [(3, qi 0), (0, qr 70), (1, qi a1), (2, qi a2)]) dX12_rank_27 (by decide) rfl rfl ?_
      refine q_iconst dX12_rank_28 rfl rfl ?_
      refine q_istore (lv' := [(4, qi 0), (3, qi 0), (0, qr 70), (1, qi a1), (2, qi a2)]) dX12_rank_29 (by decide) rfl rfl ?_
      refine q_iconst dX12_rank_31 rfl rfl ?_
      refine q_istore (lv' := [(5, qi 0), (4, qi 0), (3, qi 0), (0, qr 70), (1, qi a1), (2, qi a2)]) dX12_rank_32 (by decide) rfl rfl ?_
      obtain ⟨q3553, h3554, h⟩ := Option.bind_eq_some_iff.mp h
      refine q_pick [3, 4, 5, 2, 1, 0] rfl (M_rank_L34_ok hL d qF a1 a2 0 0 0 _ _ h3554 ?_)
      refine q_iload_n dX12_rank_97 rfl rfl ?_
      refine q_iconst dX12_rank_98 rfl rfl ?_
      obtain ⟨c3555, h⟩ := qk_some h
      refine q_icmp_ne (tgt := 107) dX12_rank_99 (by decide) rfl (qRb_R c3555) ⟨by decide, by decide⟩ (fun g => ?_) (fun g => ?_)
      · rw [if_neg (show ¬ (a2 = 3) from g)] at h
        refine q_iload_n dX12_rank_107 rfl rfl ?_
        cases h
        exact q_ireturn dX12_rank_108 rfl hQ
      · rw [if_pos (show a2 = 3 from g)] at h
        refine q_iload dX12_rank_102 rfl rfl ?_
        refine q_goto (pc' := 108) dX12_rank_104 (by decide) ?_
        cases h
        exact q_ireturn dX12_rank_108 rfl hQ
    · rw [if_pos (show q3528.1 = 0 from g)] at h
      refine q_iconst dX12_rank_24 rfl rfl ?_
      cases h
      exact q_ireturn dX12_rank_25 rfl hQ
set_option maxRecDepth 20000 in
theorem M_nextLeaver_L5_ok {X : qX} (hL : ∀ c, c < 93 → c ∈ qLs X) (d : Nat) {Q : Option qV → qSto → Prop} : ∀ (n : Nat) (x1 : Int) (x2 : Int) (x3 : Int) (x4 : Int) (S : qSto) (o : (Int × qSto)), M_nextLeaver_L5 n x1 x2 x3 x4 S = some o → (qW X (d + 1) yX12_nextLeaver cX12_nextLeaver 6 (some .int) 103 [(3, qi o.1)] [] o.2 Q) → qW X (d + 1) yX12_nextLeaver cX12_nextLeaver 6 (some .int) 5 [(0, qr 70), (1, qi x1), (2, qi x2), (3, qi x3), (4, qi x4)] [] S Q := by
  intro n
  induction n with
  | zero =>
    intro x1 x2 x3 x4 S o h
    simp [M_nextLeaver_L5] at h
  | succ n ih =>
    intro x1 x2 x3 x4 S o h hE
    rw [M_nextLeaver_L5] at h
    refine q_iload dX12_nextLeaver_5 rfl rfl ?_
    refine q_aload_n dX12_nextLeaver_7 rfl rfl ?_
    refine q_getA dX12_nextLeaver_8 fl_X12_13 (hL 70 (by decide)) sh_70 (by decide) rfl rfl ?_
    refine q_bipush dX12_nextLeaver_11 (by decide) rfl ?_
    refine q_iaload dX12_nextLeaver_13 (hL 72 (by decide)) sh_72 (by decide) (by decide) rfl ?_
    obtain ⟨c3557, h⟩ := qk_some h
    obtain ⟨c3558, h⟩ := qk_some h
    refine q_icmp_ge (tgt := 103) dX12_nextLeaver_14 (by decide) rfl (qRb_R c3557) (qRb_R c3558) (fun g => ?_) (fun g => ?_)
    · rw [if_pos (show (S 72 9) ≤ x4 from g)] at h
      cases h
      exact q_pick [3] rfl (hE)
    · rw [if_neg (show ¬ ((S 72 9) ≤ x4) from g)] at h
      refine q_aload_n dX12_nextLeaver_17 rfl rfl ?_
      refine q_getA dX12_nextLeaver_18 fl_X12_48 (hL 70 (by decide)) sh_70 (by decide) rfl rfl ?_
      refine q_iload dX12_nextLeaver_21 rfl rfl ?_
      obtain ⟨c3559, h⟩ := qk_some h
      refine q_iaload dX12_nextLeaver_23 (hL 82 (by decide)) sh_82 (qIx_0 c3559) (qIx_1 c3559) rfl ?_
      refine q_iload_n dX12_nextLeaver_24 rfl rfl ?_
      refine q_jn (G := fun (t3567 : Int) => qW X (d + 1) yX12_nextLeaver cX12_nextLeaver 6 (some .int) 50 [(0, qr 70), (1, qi x1), (2, qi x2), (3, qi x3), (4, qi x4)] [qi t3567] S Q) h (fun t3567 h => ?_) (fun t3567 h hk3943 => ?_)
      · try dsimp only at h
        refine q_istore (lv' := [(5, qi t3567), (0, qr 70), (1, qi x1), (2, qi x2), (3, qi x3), (4, qi x4)]) dX12_nextLeaver_50 (by decide) rfl rfl ?_
        refine q_aload_n dX12_nextLeaver_52 rfl rfl ?_
        refine q_iload dX12_nextLeaver_53 rfl rfl ?_
        obtain ⟨q3568, h3569, h⟩ := Option.bind_eq_some_iff.mp h
        refine q_callVi (as := [qi x4]) (c := 70) dX12_nextLeaver_55 ml_X12_326 rfl rfl (hL 70 (by decide)) sh_70 rfl rfl (Nat.le_of_ble_eq_true rfl) (M_stays_ok hL d x4 _ _ h3569) rfl ?_
        refine q_jn (G := fun (t3578 : Int) => qW X (d + 1) yX12_nextLeaver cX12_nextLeaver 6 (some .int) 97 [(0, qr 70), (1, qi x1), (2, qi x2), (3, qi t3578), (4, qi x4)] [] q3568.2 Q) h (fun t3578 h => ?_) (fun t3578 h hk3944 => ?_)
        · try dsimp only at h
          refine q_iinc (lv' := [(4, qi (x4 + 1)), (0, qr 70), (1, qi x1), (2, qi x2), (3, qi t3578)]) dX12_nextLeaver_97 (by decide) rfl rfl rfl ?_
          refine q_goto (pc' := 5) dX12_nextLeaver_100 (by decide) ?_
          exact q_pick [1, 2, 3, 4, 0] rfl (ih x1 x2 t3578 (x4 + 1) _ _ h hE)
        · skip
          obtain ⟨c3570, h⟩ := qk_some h
          refine q_if_eq (tgt := 97) dX12_nextLeaver_58 (by decide) rfl (qRb_R c3570)  (fun g => ?_) (fun g => ?_)
          · rw [if_pos (show q3568.1 = 0 from g)] at h
            cases h
            exact q_pick [1, 2, 3, 4, 5] rfl hk3944
          · rw [if_neg (show ¬ (q3568.1 = 0) from g)] at h
            refine q_iload dX12_nextLeaver_61 rfl rfl ?_
            obtain ⟨c3571, h⟩ := qk_some h
            refine q_if_ne (tgt := 69) dX12_nextLeaver_63 (by decide) rfl (qRb_R c3571)  (fun g => ?_) (fun g => ?_)
            · rw [if_neg (show ¬ (t3567 = 0) from g)] at h
              refine q_iload_n dX12_nextLeaver_69 rfl rfl ?_
              refine q_iconst dX12_nextLeaver_70 rfl rfl ?_
              refine q_jn (G := fun (t3577 : Int) => qW X (d + 1) yX12_nextLeaver cX12_nextLeaver 6 (some .int) 96 [(0, qr 70), (1, qi x1), (2, qi x2), (4, qi x4)] [qi t3577] q3568.2 Q) h (fun t3577 h => ?_) (fun t3577 h hk3945 => ?_)
              · try dsimp only at h
                refine q_istore_n (lv' := [(3, qi t3577), (0, qr 70), (1, qi x1), (2, qi x2), (4, qi x4)]) dX12_nextLeaver_96 (by decide) rfl rfl ?_
                cases h
                exact q_pick [1, 2, 3, 0, 4] rfl hk3944
              · skip
                obtain ⟨c3572, h⟩ := qk_some h
                refine q_icmp_eq (tgt := 90) dX12_nextLeaver_71 (by decide) rfl (qRb_R c3572) ⟨by decide, by decide⟩ (fun g => ?_) (fun g => ?_)
                · rw [if_pos (show x3 = (-1) from g)] at h
                  refine q_iload dX12_nextLeaver_90 rfl rfl ?_
                  refine q_goto (pc' := 96) dX12_nextLeaver_92 (by decide) ?_
                  cases h
                  exact q_pick [1, 2, 3, 5] rfl hk3945
                · rw [if_neg (show ¬ (x3 = (-1)) from g)] at h
                  refine q_aload_n dX12_nextLeaver_74 rfl rfl ?_
                  refine q_getA dX12_nextLeaver_75 fl_X12_48 (hL 70 (by decide)) sh_70 (by decide) rfl rfl ?_
                  refine q_iload dX12_nextLeaver_78 rfl rfl ?_
                  obtain ⟨c3573, h⟩ := qk_some h
                  refine q_iaload dX12_nextLeaver_80 (hL 82 (by decide)) sh_82 (qIx_0 c3573) (qIx_1 c3573) rfl ?_
                  refine q_aload_n dX12_nextLeaver_81 rfl rfl ?_
                  refine q_getA dX12_nextLeaver_82 fl_X12_48 (hL 70 (by decide)) sh_70 (by decide) rfl rfl ?_
                  refine q_iload_n dX12_nextLeaver_85 rfl rfl ?_
                  obtain ⟨c3574, h⟩ := qk_some h
                  refine q_iaload dX12_nextLeaver_86 (hL 82 (by decide)) sh_82 (qIx_0 c3574) (qIx_1 c3574) rfl ?_
                  obtain ⟨c3575, h⟩ := qk_some h
                  obtain ⟨c3576, h⟩ := qk_some h
                  refine q_icmp_ge (tgt := 95) dX12_nextLeaver_87 (by decide) rfl (qRb_R c3575) (qRb_R c3576) (fun g => ?_) (fun g => ?_)
                  · rw [if_pos (show (q3568.2 82 (Int.toNat x3)) ≤ (q3568.2 82 (Int.toNat x4)) from g)] at h
                    refine q_iload_n dX12_nextLeaver_95 rfl rfl ?_
                    cases h
                    exact q_pick [1, 2, 3, 5] rfl hk3945
                  · rw [if_neg (show ¬ ((q3568.2 82 (Int.toNat x3)) ≤ (q3568.2 82 (Int.toNat x4))) from g)] at h
                    refine q_iload dX12_nextLeaver_90 rfl rfl ?_
                    refine q_goto (pc' := 96) dX12_nextLeaver_92 (by decide) ?_
                    cases h
                    exact q_pick [1, 2, 3, 5] rfl hk3945
            · rw [if_pos (show t3567 = 0 from g)] at h
              refine q_goto (pc' := 97) dX12_nextLeaver_66 (by decide) ?_
              cases h
              exact q_pick [1, 2, 3, 4, 5] rfl hk3944
      · skip
        obtain ⟨c3560, h⟩ := qk_some h
        obtain ⟨c3561, h⟩ := qk_some h
        refine q_icmp_gt (tgt := 45) dX12_nextLeaver_25 (by decide) rfl (qRb_R c3560) (qRb_R c3561) (fun g => ?_) (fun g => ?_)
        · rw [if_pos (show x1 < (S 82 (Int.toNat x4)) from g)] at h
          refine q_iconst dX12_nextLeaver_45 rfl rfl ?_
          refine q_goto (pc' := 50) dX12_nextLeaver_46 (by decide) ?_
          cases h
          exact q_pick [0, 1, 2, 3, 4] rfl hk3943
        · rw [if_neg (show ¬ (x1 < (S 82 (Int.toNat x4))) from g)] at h
          refine q_aload_n dX12_nextLeaver_28 rfl rfl ?_
          refine q_getA dX12_nextLeaver_29 fl_X12_48 (hL 70 (by decide)) sh_70 (by decide) rfl rfl ?_
          refine q_iload dX12_nextLeaver_32 rfl rfl ?_
          obtain ⟨c3562, h⟩ := qk_some h
          refine q_iaload dX12_nextLeaver_34 (hL 82 (by decide)) sh_82 (qIx_0 c3562) (qIx_1 c3562) rfl ?_
          refine q_iload_n dX12_nextLeaver_35 rfl rfl ?_
          obtain ⟨c3563, h⟩ := qk_some h
          obtain ⟨c3564, h⟩ := qk_some h
          refine q_icmp_ne (tgt := 49) dX12_nextLeaver_36 (by decide) rfl (qRb_R c3563) (qRb_R c3564) (fun g => ?_) (fun g => ?_)
          · rw [if_neg (show ¬ ((S 82 (Int.toNat x4)) = x1) from g)] at h
            refine q_iconst dX12_nextLeaver_49 rfl rfl ?_
            cases h
            exact q_pick [0, 1, 2, 3, 4] rfl hk3943
          · rw [if_pos (show (S 82 (Int.toNat x4)) = x1 from g)] at h
            refine q_iload dX12_nextLeaver_39 rfl rfl ?_
            refine q_iload_n dX12_nextLeaver_41 rfl rfl ?_
            obtain ⟨c3565, h⟩ := qk_some h
            obtain ⟨c3566, h⟩ := qk_some h
            refine q_icmp_le (tgt := 49) dX12_nextLeaver_42 (by decide) rfl (qRb_R c3565) (qRb_R c3566) (fun g => ?_) (fun g => ?_)
            · rw [if_pos (show x4 ≤ x2 from g)] at h
              refine q_iconst dX12_nextLeaver_49 rfl rfl ?_
              cases h
              exact q_pick [0, 1, 2, 3, 4] rfl hk3943
            · rw [if_neg (show ¬ (x4 ≤ x2) from g)] at h
              refine q_iconst dX12_nextLeaver_45 rfl rfl ?_
              refine q_goto (pc' := 50) dX12_nextLeaver_46 (by decide) ?_
              cases h
              exact q_pick [0, 1, 2, 3, 4] rfl hk3943
set_option maxRecDepth 20000 in
theorem M_nextLeaver_ok {X : qX} (hL : ∀ c, c < 93 → c ∈ qLs X) (d : Nat) (a1 : Int) (a2 : Int) (S : qSto) (o : (Int × qSto)) (h : M_nextLeaver a1 a2 S = some o) (Q : Option qV → qSto → Prop) (hQ : Q (some (qi o.1)) o.2) : qC X (d + 1) yX12_nextLeaver cX12_nextLeaver 6 (some .int) [qr 70, qi a1, qi a2] S Q := by
  refine q_entry (lv := [(0, qr 70), (1, qi a1), (2, qi a2)]) pn_X12 (Nat.le_of_ble_eq_true rfl) rfl ?_
  unfold M_nextLeaver at h
  refine q_iconst dX12_nextLeaver_0 rfl rfl ?_
  refine q_istore_n (lv' := [(3, qi (-1)), (0, qr 70), (1, qi a1), (2, qi a2)]) dX12_nextLeaver_1 (by decide) rfl rfl ?_
  refine q_iconst dX12_nextLeaver_2 rfl rfl ?_
  refine q_istore (lv' := [(4, qi 0), (3, qi (-1)), (0, qr 70), (1, qi a1), (2, qi a2)]) dX12_nextLeaver_3 (by decide) rfl rfl ?_
  obtain ⟨q3579, h3580, h⟩ := Option.bind_eq_some_iff.mp h
  refine q_pick [2, 3, 4, 1, 0] rfl (M_nextLeaver_L5_ok hL d qF a1 a2 (-1) 0 _ _ h3580 ?_)
  refine q_iload_n dX12_nextLeaver_103 rfl rfl ?_
  cases h
  exact q_ireturn dX12_nextLeaver_104 rfl hQ
set_option maxRecDepth 20000 in
theorem M_leaver_L15_ok {X : qX} (hL : ∀ c, c < 93 → c ∈ qLs X) (d : Nat) {Q : Option qV → qSto → Prop} : ∀ (n : Nat) (x1 : Int) (x2 : Int) (x3 : Int) (S : qSto) (o : (Int × qSto)), M_leaver_L15 n x1 x2 x3 S = some o → (qW X (d + 2) yX12_leaver cX12_leaver 4 (some .int) 43 [(2, qi o.1)] [] o.2 Q) → qW X (d + 2) yX12_leaver cX12_leaver 4 (some .int) 15 [(0, qr 70), (1, qi x1), (2, qi x2), (3, qi x3)] [] S Q := by
  intro n
  induction n with
  | zero =>
    intro x1 x2 x3 S o h
    simp [M_leaver_L15] at h
  | succ n ih =>
    intro x1 x2 x3 S o h hE
    rw [M_leaver_L15] at h
    refine q_iload_n dX12_leaver_15 rfl rfl ?_
    refine q_iload_n dX12_leaver_16 rfl rfl ?_
    obtain ⟨c3583, h⟩ := qk_some h
    obtain ⟨c3584, h⟩ := qk_some h
    refine q_icmp_ge (tgt := 43) dX12_leaver_17 (by decide) rfl (qRb_R c3583) (qRb_R c3584) (fun g => ?_) (fun g => ?_)
    · rw [if_pos (show x1 ≤ x3 from g)] at h
      cases h
      exact q_pick [2] rfl (hE)
    · rw [if_neg (show ¬ (x1 ≤ x3) from g)] at h
      refine q_iload_n dX12_leaver_20 rfl rfl ?_
      refine q_iconst dX12_leaver_21 rfl rfl ?_
      obtain ⟨c3585, h⟩ := qk_some h
      refine q_icmp_eq (tgt := 43) dX12_leaver_22 (by decide) rfl (qRb_R c3585) ⟨by decide, by decide⟩ (fun g => ?_) (fun g => ?_)
      · rw [if_pos (show x2 = (-1) from g)] at h
        cases h
        exact q_pick [2] rfl (hE)
      · rw [if_neg (show ¬ (x2 = (-1)) from g)] at h
        refine q_aload_n dX12_leaver_25 rfl rfl ?_
        refine q_aload_n dX12_leaver_26 rfl rfl ?_
        refine q_getA dX12_leaver_27 fl_X12_48 (hL 70 (by decide)) sh_70 (by decide) rfl rfl ?_
        refine q_iload_n dX12_leaver_30 rfl rfl ?_
        obtain ⟨c3586, h⟩ := qk_some h
        refine q_iaload dX12_leaver_31 (hL 82 (by decide)) sh_82 (qIx_0 c3586) (qIx_1 c3586) rfl ?_
        refine q_iload_n dX12_leaver_32 rfl rfl ?_
        obtain ⟨q3587, h3588, h⟩ := Option.bind_eq_some_iff.mp h
        refine q_callVi (as := [qi (S 82 (Int.toNat x2)), qi x2]) (c := 70) dX12_leaver_33 ml_X12_503 rfl rfl (hL 70 (by decide)) sh_70 rfl rfl (Nat.le_of_ble_eq_true rfl) (M_nextLeaver_ok hL d (S 82 (Int.toNat x2)) x2 _ _ h3588) rfl ?_
        refine q_istore_n (lv' := [(2, qi q3587.1), (0, qr 70), (1, qi x1), (3, qi x3)]) dX12_leaver_36 (by decide) rfl rfl ?_
        refine q_iinc (lv' := [(3, qi (x3 + 1)), (2, qi q3587.1), (0, qr 70), (1, qi x1)]) dX12_leaver_37 (by decide) rfl rfl rfl ?_
        refine q_goto (pc' := 15) dX12_leaver_40 (by decide) ?_
        exact q_pick [2, 3, 1, 0] rfl (ih x1 q3587.1 (x3 + 1) _ _ h hE)
set_option maxRecDepth 20000 in
theorem M_leaver_ok {X : qX} (hL : ∀ c, c < 93 → c ∈ qLs X) (d : Nat) (a1 : Int) (S : qSto) (o : (Int × qSto)) (h : M_leaver a1 S = some o) (Q : Option qV → qSto → Prop) (hQ : Q (some (qi o.1)) o.2) : qC X (d + 2) yX12_leaver cX12_leaver 4 (some .int) [qr 70, qi a1] S Q := by
  refine q_entry (lv := [(0, qr 70), (1, qi a1)]) pn_X12 (Nat.le_of_ble_eq_true rfl) rfl ?_
  unfold M_leaver at h
  refine q_iload_n dX12_leaver_0 rfl rfl ?_
  obtain ⟨c3556, h⟩ := qk_some h
  refine q_if_ge (tgt := 6) dX12_leaver_1 (by decide) rfl (qRb_R c3556)  (fun g => ?_) (fun g => ?_)
  · rw [if_pos (show 0 ≤ a1 from g)] at h
    refine q_aload_n dX12_leaver_6 rfl rfl ?_
    refine q_iconst dX12_leaver_7 rfl rfl ?_
    refine q_iconst dX12_leaver_8 rfl rfl ?_
    obtain ⟨q3581, h3582, h⟩ := Option.bind_eq_some_iff.mp h
    refine q_callVi (as := [qi (-1), qi (-1)]) (c := 70) dX12_leaver_9 ml_X12_503 rfl rfl (hL 70 (by decide)) sh_70 rfl rfl (Nat.le_of_ble_eq_true rfl) (M_nextLeaver_ok hL d (-1) (-1) _ _ h3582) rfl ?_
    refine q_istore_n (lv' := [(2, qi q3581.1), (0, qr 70), (1, qi a1)]) dX12_leaver_12 (by decide) rfl rfl ?_
    refine q_iconst dX12_leaver_13 rfl rfl ?_
    refine q_istore_n (lv' := [(3, qi 0), (2, qi q3581.1), (0, qr 70), (1, qi a1)]) dX12_leaver_14 (by decide) rfl rfl ?_
    obtain ⟨q3589, h3590, h⟩ := Option.bind_eq_some_iff.mp h
    refine q_pick [2, 3, 1, 0] rfl (M_leaver_L15_ok hL d qF a1 q3581.1 0 _ _ h3590 ?_)
    refine q_iload_n dX12_leaver_43 rfl rfl ?_
    refine q_iconst dX12_leaver_44 rfl rfl ?_
    obtain ⟨c3591, h⟩ := qk_some h
    refine q_icmp_ne (tgt := 53) dX12_leaver_45 (by decide) rfl (qRb_R c3591) ⟨by decide, by decide⟩ (fun g => ?_) (fun g => ?_)
    · rw [if_neg (show ¬ (q3589.1 = (-1)) from g)] at h
      refine q_iload_n dX12_leaver_53 rfl rfl ?_
      cases h
      exact q_ireturn dX12_leaver_54 rfl hQ
    · rw [if_pos (show q3589.1 = (-1) from g)] at h
      refine q_bipush dX12_leaver_48 (by decide) rfl ?_
      refine q_goto (pc' := 54) dX12_leaver_50 (by decide) ?_
      cases h
      exact q_ireturn dX12_leaver_54 rfl hQ
  · rw [if_neg (show ¬ (0 ≤ a1) from g)] at h
    refine q_iconst dX12_leaver_4 rfl rfl ?_
    cases h
    exact q_ireturn dX12_leaver_5 rfl hQ
set_option maxRecDepth 20000 in
theorem M_meet_L28_ok {X : qX} (hL : ∀ c, c < 93 → c ∈ qLs X) (d : Nat) {Q : Option qV → qSto → Prop} : ∀ (n : Nat) (x1 : Int) (x2 : Int) (x3 : Int) (x4 : Int) (S : qSto) (o : (Int × qSto)), M_meet_L28 n x1 x2 x3 x4 S = some o → (qW X (d + 2) yX12_meet cX12_meet 5 (some .int) 70 [(3, qi o.1)] [] o.2 Q) → qW X (d + 2) yX12_meet cX12_meet 5 (some .int) 28 [(0, qr 70), (1, qi x1), (2, qi x2), (3, qi x3), (4, qi x4)] [] S Q := by
  intro n
  induction n with
  | zero =>
    intro x1 x2 x3 x4 S o h
    simp [M_meet_L28] at h
  | succ n ih =>
    intro x1 x2 x3 x4 S o h hE
    rw [M_meet_L28] at h
    refine q_iload dX12_meet_28 rfl rfl ?_
    refine q_sipush dX12_meet_30 (by decide) rfl ?_
    obtain ⟨c3600, h⟩ := qk_some h
    refine q_icmp_ge (tgt := 70) dX12_meet_33 (by decide) rfl (qRb_R c3600) ⟨by decide, by decide⟩ (fun g => ?_) (fun g => ?_)
    · rw [if_pos (show 336 ≤ x4 from g)] at h
      cases h
      exact q_pick [3] rfl (hE)
    · rw [if_neg (show ¬ (336 ≤ x4) from g)] at h
      refine q_aload_n dX12_meet_36 rfl rfl ?_
      refine q_iload_n dX12_meet_37 rfl rfl ?_
      refine q_iload dX12_meet_38 rfl rfl ?_
      obtain ⟨q3601, h3602, h⟩ := Option.bind_eq_some_iff.mp h
      refine q_callVi (as := [qi x1, qi x4]) (c := 70) dX12_meet_40 ml_X12_471 rfl rfl (hL 70 (by decide)) sh_70 rfl rfl (Nat.le_of_ble_eq_true rfl) (M_isLying_ok hL d x1 x4 _ _ h3602) rfl ?_
      refine q_jn (G := fun (t3607 : (Int × qSto)) => qW X (d + 2) yX12_meet cX12_meet 5 (some .int) 63 [(0, qr 70), (1, qi x1), (2, qi x2), (4, qi x4)] [qi t3607.1] t3607.2 Q) h (fun t3607 h => ?_) (fun t3607 h hk3946 => ?_)
      · try dsimp only at h
        refine q_istore_n (lv' := [(3, qi t3607.1), (0, qr 70), (1, qi x1), (2, qi x2), (4, qi x4)]) dX12_meet_63 (by decide) rfl rfl ?_
        refine q_iinc (lv' := [(4, qi (x4 + 1)), (3, qi t3607.1), (0, qr 70), (1, qi x1), (2, qi x2)]) dX12_meet_64 (by decide) rfl rfl rfl ?_
        refine q_goto (pc' := 28) dX12_meet_67 (by decide) ?_
        exact q_pick [2, 3, 4, 1, 0] rfl (ih x1 x2 t3607.1 (x4 + 1) _ _ h hE)
      · skip
        obtain ⟨c3603, h⟩ := qk_some h
        refine q_if_eq (tgt := 62) dX12_meet_43 (by decide) rfl (qRb_R c3603)  (fun g => ?_) (fun g => ?_)
        · rw [if_pos (show q3601.1 = 0 from g)] at h
          refine q_iload_n dX12_meet_62 rfl rfl ?_
          cases h
          exact q_pick [0, 1, 2, 4] rfl hk3946
        · rw [if_neg (show ¬ (q3601.1 = 0) from g)] at h
          refine q_aload_n dX12_meet_46 rfl rfl ?_
          refine q_iload_n dX12_meet_47 rfl rfl ?_
          refine q_iload dX12_meet_48 rfl rfl ?_
          obtain ⟨q3604, h3605, h⟩ := Option.bind_eq_some_iff.mp h
          refine q_callVi (as := [qi x2, qi x4]) (c := 70) dX12_meet_50 ml_X12_471 rfl rfl (hL 70 (by decide)) sh_70 rfl rfl (Nat.le_of_ble_eq_true rfl) (M_isLying_ok hL d x2 x4 _ _ h3605) rfl ?_
          obtain ⟨c3606, h⟩ := qk_some h
          refine q_if_eq (tgt := 62) dX12_meet_53 (by decide) rfl (qRb_R c3606)  (fun g => ?_) (fun g => ?_)
          · rw [if_pos (show q3604.1 = 0 from g)] at h
            refine q_iload_n dX12_meet_62 rfl rfl ?_
            cases h
            exact q_pick [0, 1, 2, 4] rfl hk3946
          · rw [if_neg (show ¬ (q3604.1 = 0) from g)] at h
            refine q_iload_n dX12_meet_56 rfl rfl ?_
            refine q_iconst dX12_meet_57 rfl rfl ?_
            refine q_iadd dX12_meet_58 rfl ?_
            refine q_goto (pc' := 63) dX12_meet_59 (by decide) ?_
            cases h
            exact q_pick [0, 1, 2, 4] rfl hk3946
set_option maxRecDepth 20000 in
theorem M_meet_ok {X : qX} (hL : ∀ c, c < 93 → c ∈ qLs X) (d : Nat) (a1 : Int) (a2 : Int) (S : qSto) (o : (Int × qSto)) (h : M_meet a1 a2 S = some o) (Q : Option qV → qSto → Prop) (hQ : Q (some (qi o.1)) o.2) : qC X (d + 2) yX12_meet cX12_meet 5 (some .int) [qr 70, qi a1, qi a2] S Q := by
  refine q_entry (lv := [(0, qr 70), (1, qi a1), (2, qi a2)]) pn_X12 (Nat.le_of_ble_eq_true rfl) rfl ?_
  unfold M_meet at h
  refine q_aload_n dX12_meet_0 rfl rfl ?_
  refine q_iload_n dX12_meet_1 rfl rfl ?_
  obtain ⟨q3592, h3593, h⟩ := Option.bind_eq_some_iff.mp h
  refine q_callVi (as := [qi a1]) (c := 70) dX12_meet_2 ml_X12_297 rfl rfl (hL 70 (by decide)) sh_70 rfl rfl (Nat.le_of_ble_eq_true rfl) (M_isShip_ok hL d a1 _ _ h3593) rfl ?_
  obtain ⟨c3594, h⟩ := qk_some h
  refine q_if_eq (tgt := 21) dX12_meet_5 (by decide) rfl (qRb_R c3594)  (fun g => ?_) (fun g => ?_)
  · rw [if_pos (show q3592.1 = 0 from g)] at h
    refine q_iconst dX12_meet_21 rfl rfl ?_
    cases h
    exact q_ireturn dX12_meet_22 rfl hQ
  · rw [if_neg (show ¬ (q3592.1 = 0) from g)] at h
    refine q_aload_n dX12_meet_8 rfl rfl ?_
    refine q_iload_n dX12_meet_9 rfl rfl ?_
    obtain ⟨q3595, h3596, h⟩ := Option.bind_eq_some_iff.mp h
    refine q_callVi (as := [qi a2]) (c := 70) dX12_meet_10 ml_X12_297 rfl rfl (hL 70 (by decide)) sh_70 rfl rfl (Nat.le_of_ble_eq_true rfl) (M_isShip_ok hL d a2 _ _ h3596) rfl ?_
    obtain ⟨c3597, h⟩ := qk_some h
    refine q_if_eq (tgt := 21) dX12_meet_13 (by decide) rfl (qRb_R c3597)  (fun g => ?_) (fun g => ?_)
    · rw [if_pos (show q3595.1 = 0 from g)] at h
      refine q_iconst dX12_meet_21 rfl rfl ?_
      cases h
      exact q_ireturn dX12_meet_22 rfl hQ
    · rw [if_neg (show ¬ (q3595.1 = 0) from g)] at h
      refine q_iload_n dX12_meet_16 rfl rfl ?_
      refine q_iload_n dX12_meet_17 rfl rfl ?_
      obtain ⟨c3598, h⟩ := qk_some h
      obtain ⟨c3599, h⟩ := qk_some h
      refine q_icmp_ne (tgt := 23) dX12_meet_18 (by decide) rfl (qRb_R c3598) (qRb_R c3599) (fun g => ?_) (fun g => ?_)
      · rw [if_neg (show ¬ (a1 = a2) from g)] at h
        refine q_iconst dX12_meet_23 rfl rfl ?_
        refine q_istore_n (lv' := [(3, qi 0), (0, qr 70), (1, qi a1), (2, qi a2)]) dX12_meet_24 (by decide) rfl rfl ?_
        refine q_iconst dX12_meet_25 rfl rfl ?_
        refine q_istore (lv' := [(4, qi 0), (3, qi 0), (0, qr 70), (1, qi a1), (2, qi a2)]) dX12_meet_26 (by decide) rfl rfl ?_
        obtain ⟨q3608, h3609, h⟩ := Option.bind_eq_some_iff.mp h
        refine q_pick [2, 3, 4, 1, 0] rfl (M_meet_L28_ok hL d qF a1 a2 0 0 _ _ h3609 ?_)
        refine q_iload_n dX12_meet_70 rfl rfl ?_
        cases h
        exact q_ireturn dX12_meet_71 rfl hQ
      · rw [if_pos (show a1 = a2 from g)] at h
        refine q_iconst dX12_meet_21 rfl rfl ?_
        cases h
        exact q_ireturn dX12_meet_22 rfl hQ
set_option maxRecDepth 20000 in
theorem M_writes_ok {X : qX} (hL : ∀ c, c < 93 → c ∈ qLs X) (d : Nat) (a1 : Int) (S : qSto) (o : qSto) (h : M_writes a1 S = some o) (Q : Option qV → qSto → Prop) (hQ : Q none o) : qC X d yX12_writes cX12_writes 2 none [qr 70, qi a1] S Q := by
  refine q_entry (lv := [(0, qr 70), (1, qi a1)]) pn_X12 (Nat.le_of_ble_eq_true rfl) rfl ?_
  unfold M_writes at h
  refine q_aload_n dX12_writes_0 rfl rfl ?_
  refine q_getA dX12_writes_1 fl_X12_79 (hL 70 (by decide)) sh_70 (by decide) rfl rfl ?_
  refine q_aload_n dX12_writes_4 rfl rfl ?_
  refine q_getI dX12_writes_5 fl_X12_506 (hL 70 (by decide)) sh_70 (by decide) rfl rfl ?_
  refine q_iload_n dX12_writes_8 rfl rfl ?_
  obtain ⟨c3621, h⟩ := qk_some h
  refine q_iastore dX12_writes_9 (hL 92 (by decide)) sh_92 (qIx_0 c3621) (qIx_1 c3621) rfl ?_
  refine q_aload_n dX12_writes_10 rfl rfl ?_
  refine q_aload_n dX12_writes_11 rfl rfl ?_
  refine q_getI dX12_writes_12 fl_X12_506 (hL 70 (by decide)) sh_70 (by decide) rfl rfl ?_
  refine q_iconst dX12_writes_15 rfl rfl ?_
  refine q_iadd dX12_writes_16 rfl ?_
  refine q_putI dX12_writes_17 fl_X12_506 (hL 70 (by decide)) sh_70 (by decide) pf_12_41 pt_12_41 rfl rfl ?_
  cases h
  exact q_return dX12_writes_20 rfl hQ
set_option maxRecDepth 20000 in
theorem M_writesName_L2_ok {X : qX} (hL : ∀ c, c < 93 → c ∈ qLs X) (d : Nat) {Q : Option qV → qSto → Prop} : ∀ (n : Nat) (x1 : Int) (x2 : Int) (S : qSto) (o : qSto), M_writesName_L2 n x1 x2 S = some o → (qW X (d + 3) yX12_writesName cX12_writesName 3 none 30 [] [] o Q) → qW X (d + 3) yX12_writesName cX12_writesName 3 none 2 [(0, qr 70), (1, qi x1), (2, qi x2)] [] S Q := by
  intro n
  induction n with
  | zero =>
    intro x1 x2 S o h
    simp [M_writesName_L2] at h
  | succ n ih =>
    intro x1 x2 S o h hE
    rw [M_writesName_L2] at h
    refine q_iload_n dX12_writesName_2 rfl rfl ?_
    refine q_aload_n dX12_writesName_3 rfl rfl ?_
    refine q_iload_n dX12_writesName_4 rfl rfl ?_
    obtain ⟨q3615, h3616, h⟩ := Option.bind_eq_some_iff.mp h
    refine q_callVi (as := [qi x1]) (c := 70) dX12_writesName_5 ml_X12_302 rfl rfl (hL 70 (by decide)) sh_70 rfl rfl (Nat.le_of_ble_eq_true rfl) (M_lettersOf_ok hL (d + 2) x1 _ _ h3616) rfl ?_
    obtain ⟨c3617, h⟩ := qk_some h
    obtain ⟨c3618, h⟩ := qk_some h
    refine q_icmp_ge (tgt := 30) dX12_writesName_8 (by decide) rfl (qRb_R c3617) (qRb_R c3618) (fun g => ?_) (fun g => ?_)
    · rw [if_pos (show q3615.1 ≤ x2 from g)] at h
      cases h
      exact q_pick [] rfl (hE)
    · rw [if_neg (show ¬ (q3615.1 ≤ x2) from g)] at h
      refine q_aload_n dX12_writesName_11 rfl rfl ?_
      refine q_bipush dX12_writesName_12 (by decide) rfl ?_
      refine q_aload_n dX12_writesName_14 rfl rfl ?_
      refine q_iload_n dX12_writesName_15 rfl rfl ?_
      refine q_iload_n dX12_writesName_16 rfl rfl ?_
      obtain ⟨q3619, h3620, h⟩ := Option.bind_eq_some_iff.mp h
      refine q_callVi (as := [qi x1, qi x2]) (c := 70) dX12_writesName_17 ml_X12_512 rfl rfl (hL 70 (by decide)) sh_70 rfl rfl (Nat.le_of_ble_eq_true rfl) (M_letter_ok hL d x1 x2 _ _ h3620) rfl ?_
      refine q_iadd dX12_writesName_20 rfl ?_
      obtain ⟨q3622, h3623, h⟩ := Option.bind_eq_some_iff.mp h
      refine q_callVv (as := [qi (96 + q3619.1)]) (c := 70) dX12_writesName_21 ml_X12_509 rfl rfl (hL 70 (by decide)) sh_70 rfl rfl (Nat.le_of_ble_eq_true rfl) (M_writes_ok hL (d + 2) (96 + q3619.1) _ _ h3623) rfl ?_
      refine q_iinc (lv' := [(2, qi (x2 + 1)), (0, qr 70), (1, qi x1)]) dX12_writesName_24 (by decide) rfl rfl rfl ?_
      refine q_goto (pc' := 2) dX12_writesName_27 (by decide) ?_
      exact q_pick [1, 2, 0] rfl (ih x1 (x2 + 1) _ _ h hE)
set_option maxRecDepth 20000 in
theorem M_writesName_ok {X : qX} (hL : ∀ c, c < 93 → c ∈ qLs X) (d : Nat) (a1 : Int) (S : qSto) (o : qSto) (h : M_writesName a1 S = some o) (Q : Option qV → qSto → Prop) (hQ : Q none o) : qC X (d + 3) yX12_writesName cX12_writesName 3 none [qr 70, qi a1] S Q := by
  refine q_entry (lv := [(0, qr 70), (1, qi a1)]) pn_X12 (Nat.le_of_ble_eq_true rfl) rfl ?_
  unfold M_writesName at h
  refine q_iconst dX12_writesName_0 rfl rfl ?_
  refine q_istore_n (lv' := [(2, qi 0), (0, qr 70), (1, qi a1)]) dX12_writesName_1 (by decide) rfl rfl ?_
  obtain ⟨q3624, h3625, h⟩ := Option.bind_eq_some_iff.mp h
  refine q_pick [1, 2, 0] rfl (M_writesName_L2_ok hL d qF a1 0 _ _ h3625 ?_)
  cases h
  exact q_return dX12_writesName_30 rfl hQ
set_option maxRecDepth 20000 in
theorem M_writesNumber_L8_ok {X : qX} (hL : ∀ c, c < 93 → c ∈ qLs X) (d : Nat) {Q : Option qV → qSto → Prop} : ∀ (n : Nat) (x1 : Int) (x2 : Int) (S : qSto) (o : (Int × qSto)), M_writesNumber_L8 n x1 x2 S = some o → (qW X (d + 1) yX12_writesNumber cX12_writesNumber 3 none 24 [(0, qr 70), (1, qi x1), (2, qi o.1)] [] o.2 Q) → qW X (d + 1) yX12_writesNumber cX12_writesNumber 3 none 8 [(0, qr 70), (1, qi x1), (2, qi x2)] [] S Q := by
  intro n
  induction n with
  | zero =>
    intro x1 x2 S o h
    simp [M_writesNumber_L8] at h
  | succ n ih =>
    intro x1 x2 S o h hE
    rw [M_writesNumber_L8] at h
    refine q_iload_n dX12_writesNumber_8 rfl rfl ?_
    refine q_iload_n dX12_writesNumber_9 rfl rfl ?_
    obtain ⟨c3631, h⟩ := qk_some h
    obtain ⟨c3632, h⟩ := qk_some h
    obtain ⟨c3633, h⟩ := qk_some h
    refine q_idiv dX12_writesNumber_10 (qRb_R c3631) (qRb_R c3632) (qNz_ne c3633) rfl ?_
    refine q_bipush dX12_writesNumber_11 (by decide) rfl ?_
    obtain ⟨c3634, h⟩ := qk_some h
    refine q_icmp_le (tgt := 24) dX12_writesNumber_13 (by decide) rfl (qRb_R c3634) ⟨by decide, by decide⟩ (fun g => ?_) (fun g => ?_)
    · rw [if_pos (show (Int.tdiv x1 x2) ≤ 9 from g)] at h
      cases h
      exact q_pick [0, 1, 2] rfl (hE)
    · rw [if_neg (show ¬ ((Int.tdiv x1 x2) ≤ 9) from g)] at h
      refine q_bipush dX12_writesNumber_16 (by decide) rfl ?_
      refine q_iload_n dX12_writesNumber_18 rfl rfl ?_
      refine q_imul dX12_writesNumber_19 rfl ?_
      refine q_istore_n (lv' := [(2, qi (10 * x2)), (0, qr 70), (1, qi x1)]) dX12_writesNumber_20 (by decide) rfl rfl ?_
      refine q_goto (pc' := 8) dX12_writesNumber_21 (by decide) ?_
      exact q_pick [1, 2, 0] rfl (ih x1 (10 * x2) _ _ h hE)
set_option maxRecDepth 20000 in
theorem M_writesNumber_L24_ok {X : qX} (hL : ∀ c, c < 93 → c ∈ qLs X) (d : Nat) {Q : Option qV → qSto → Prop} : ∀ (n : Nat) (x1 : Int) (x2 : Int) (S : qSto) (o : qSto), M_writesNumber_L24 n x1 x2 S = some o → (qW X (d + 1) yX12_writesNumber cX12_writesNumber 3 none 49 [] [] o Q) → qW X (d + 1) yX12_writesNumber cX12_writesNumber 3 none 24 [(0, qr 70), (1, qi x1), (2, qi x2)] [] S Q := by
  intro n
  induction n with
  | zero =>
    intro x1 x2 S o h
    simp [M_writesNumber_L24] at h
  | succ n ih =>
    intro x1 x2 S o h hE
    rw [M_writesNumber_L24] at h
    refine q_iload_n dX12_writesNumber_24 rfl rfl ?_
    obtain ⟨c3637, h⟩ := qk_some h
    refine q_if_le (tgt := 49) dX12_writesNumber_25 (by decide) rfl (qRb_R c3637)  (fun g => ?_) (fun g => ?_)
    · rw [if_pos (show x2 ≤ 0 from g)] at h
      cases h
      exact q_pick [] rfl (hE)
    · rw [if_neg (show ¬ (x2 ≤ 0) from g)] at h
      refine q_aload_n dX12_writesNumber_28 rfl rfl ?_
      refine q_bipush dX12_writesNumber_29 (by decide) rfl ?_
      refine q_iload_n dX12_writesNumber_31 rfl rfl ?_
      refine q_iload_n dX12_writesNumber_32 rfl rfl ?_
      obtain ⟨c3638, h⟩ := qk_some h
      obtain ⟨c3639, h⟩ := qk_some h
      obtain ⟨c3640, h⟩ := qk_some h
      refine q_idiv dX12_writesNumber_33 (qRb_R c3638) (qRb_R c3639) (qNz_ne c3640) rfl ?_
      refine q_bipush dX12_writesNumber_34 (by decide) rfl ?_
      obtain ⟨c3641, h⟩ := qk_some h
      refine q_irem dX12_writesNumber_36 (qRb_R c3641) ⟨by decide, by decide⟩ (by decide) rfl ?_
      refine q_iadd dX12_writesNumber_37 rfl ?_
      obtain ⟨q3642, h3643, h⟩ := Option.bind_eq_some_iff.mp h
      refine q_callVv (as := [qi (48 + (Int.tmod (Int.tdiv x1 x2) 10))]) (c := 70) dX12_writesNumber_38 ml_X12_509 rfl rfl (hL 70 (by decide)) sh_70 rfl rfl (Nat.le_of_ble_eq_true rfl) (M_writes_ok hL d (48 + (Int.tmod (Int.tdiv x1 x2) 10)) _ _ h3643) rfl ?_
      refine q_iload_n dX12_writesNumber_41 rfl rfl ?_
      refine q_bipush dX12_writesNumber_42 (by decide) rfl ?_
      obtain ⟨c3644, h⟩ := qk_some h
      refine q_idiv dX12_writesNumber_44 (qRb_R c3644) ⟨by decide, by decide⟩ (by decide) rfl ?_
      refine q_istore_n (lv' := [(2, qi (Int.tdiv x2 10)), (0, qr 70), (1, qi x1)]) dX12_writesNumber_45 (by decide) rfl rfl ?_
      refine q_goto (pc' := 24) dX12_writesNumber_46 (by decide) ?_
      exact q_pick [1, 2, 0] rfl (ih x1 (Int.tdiv x2 10) _ _ h hE)
set_option maxRecDepth 20000 in
theorem M_writesNumber_ok {X : qX} (hL : ∀ c, c < 93 → c ∈ qLs X) (d : Nat) (a1 : Int) (S : qSto) (o : qSto) (h : M_writesNumber a1 S = some o) (Q : Option qV → qSto → Prop) (hQ : Q none o) : qC X (d + 1) yX12_writesNumber cX12_writesNumber 3 none [qr 70, qi a1] S Q := by
  refine q_entry (lv := [(0, qr 70), (1, qi a1)]) pn_X12 (Nat.le_of_ble_eq_true rfl) rfl ?_
  unfold M_writesNumber at h
  refine q_aload_n dX12_writesNumber_0 rfl rfl ?_
  refine q_bipush dX12_writesNumber_1 (by decide) rfl ?_
  obtain ⟨q3629, h3630, h⟩ := Option.bind_eq_some_iff.mp h
  refine q_callVv (as := [qi 32]) (c := 70) dX12_writesNumber_3 ml_X12_509 rfl rfl (hL 70 (by decide)) sh_70 rfl rfl (Nat.le_of_ble_eq_true rfl) (M_writes_ok hL d 32 _ _ h3630) rfl ?_
  refine q_iconst dX12_writesNumber_6 rfl rfl ?_
  refine q_istore_n (lv' := [(2, qi 1), (0, qr 70), (1, qi a1)]) dX12_writesNumber_7 (by decide) rfl rfl ?_
  obtain ⟨q3635, h3636, h⟩ := Option.bind_eq_some_iff.mp h
  refine q_pick [1, 2, 0] rfl (M_writesNumber_L8_ok hL d qF a1 1 _ _ h3636 ?_)
  obtain ⟨q3645, h3646, h⟩ := Option.bind_eq_some_iff.mp h
  refine q_pick [0, 1, 2] rfl (M_writesNumber_L24_ok hL d qF a1 q3635.1 _ _ h3646 ?_)
  cases h
  exact q_return dX12_writesNumber_49 rfl hQ
set_option maxRecDepth 20000 in
theorem M_write_L7_ok {X : qX} (hL : ∀ c, c < 93 → c ∈ qLs X) (d : Nat) {Q : Option qV → qSto → Prop} : ∀ (n : Nat) (x1 : Int) (S : qSto) (o : qSto), M_write_L7 n x1 S = some o → (qW X (d + 4) yX12_write cX12_write 2 (some .int) 76 [(0, qr 70)] [] o Q) → qW X (d + 4) yX12_write cX12_write 2 (some .int) 7 [(0, qr 70), (1, qi x1)] [] S Q := by
  intro n
  induction n with
  | zero =>
    intro x1 S o h
    simp [M_write_L7] at h
  | succ n ih =>
    intro x1 S o h hE
    rw [M_write_L7] at h
    refine q_iload_n dX12_write_7 rfl rfl ?_
    refine q_aload_n dX12_write_8 rfl rfl ?_
    refine q_getA dX12_write_9 fl_X12_13 (hL 70 (by decide)) sh_70 (by decide) rfl rfl ?_
    refine q_bipush dX12_write_12 (by decide) rfl ?_
    refine q_iaload dX12_write_14 (hL 72 (by decide)) sh_72 (by decide) (by decide) rfl ?_
    obtain ⟨c3610, h⟩ := qk_some h
    obtain ⟨c3611, h⟩ := qk_some h
    refine q_icmp_ge (tgt := 76) dX12_write_15 (by decide) rfl (qRb_R c3610) (qRb_R c3611) (fun g => ?_) (fun g => ?_)
    · rw [if_pos (show (S 72 9) ≤ x1 from g)] at h
      cases h
      exact q_pick [0] rfl (hE)
    · rw [if_neg (show ¬ ((S 72 9) ≤ x1) from g)] at h
      refine q_aload_n dX12_write_18 rfl rfl ?_
      refine q_iload_n dX12_write_19 rfl rfl ?_
      obtain ⟨q3612, h3613, h⟩ := Option.bind_eq_some_iff.mp h
      refine q_callVi (as := [qi x1]) (c := 70) dX12_write_20 ml_X12_326 rfl rfl (hL 70 (by decide)) sh_70 rfl rfl (Nat.le_of_ble_eq_true rfl) (M_stays_ok hL (d + 3) x1 _ _ h3613) rfl ?_
      refine q_jn (G := fun (t3657 : qSto) => qW X (d + 4) yX12_write cX12_write 2 (some .int) 70 [(0, qr 70), (1, qi x1)] [] t3657 Q) h (fun t3657 h => ?_) (fun t3657 h hk3947 => ?_)
      · try dsimp only at h
        refine q_iinc (lv' := [(1, qi (x1 + 1)), (0, qr 70)]) dX12_write_70 (by decide) rfl rfl rfl ?_
        refine q_goto (pc' := 7) dX12_write_73 (by decide) ?_
        exact q_pick [1, 0] rfl (ih (x1 + 1) _ _ h hE)
      · skip
        obtain ⟨c3614, h⟩ := qk_some h
        refine q_if_ne (tgt := 29) dX12_write_23 (by decide) rfl (qRb_R c3614)  (fun g => ?_) (fun g => ?_)
        · rw [if_neg (show ¬ (q3612.1 = 0) from g)] at h
          refine q_aload_n dX12_write_29 rfl rfl ?_
          refine q_iload_n dX12_write_30 rfl rfl ?_
          obtain ⟨q3626, h3627, h⟩ := Option.bind_eq_some_iff.mp h
          refine q_callVv (as := [qi x1]) (c := 70) dX12_write_31 ml_X12_515 rfl rfl (hL 70 (by decide)) sh_70 rfl rfl (Nat.le_of_ble_eq_true rfl) (M_writesName_ok hL d x1 _ _ h3627) rfl ?_
          refine q_aload_n dX12_write_34 rfl rfl ?_
          refine q_aload_n dX12_write_35 rfl rfl ?_
          refine q_getA dX12_write_36 fl_X12_36 (hL 70 (by decide)) sh_70 (by decide) rfl rfl ?_
          refine q_iload_n dX12_write_39 rfl rfl ?_
          obtain ⟨c3628, h⟩ := qk_some h
          refine q_iaload dX12_write_40 (hL 78 (by decide)) sh_78 (qIx_0 c3628) (qIx_1 c3628) rfl ?_
          obtain ⟨q3647, h3648, h⟩ := Option.bind_eq_some_iff.mp h
          refine q_callVv (as := [qi (q3626 78 (Int.toNat x1))]) (c := 70) dX12_write_41 ml_X12_518 rfl rfl (hL 70 (by decide)) sh_70 rfl rfl (Nat.le_of_ble_eq_true rfl) (M_writesNumber_ok hL (d + 2) (q3626 78 (Int.toNat x1)) _ _ h3648) rfl ?_
          refine q_aload_n dX12_write_44 rfl rfl ?_
          refine q_aload_n dX12_write_45 rfl rfl ?_
          refine q_getA dX12_write_46 fl_X12_39 (hL 70 (by decide)) sh_70 (by decide) rfl rfl ?_
          refine q_iload_n dX12_write_49 rfl rfl ?_
          obtain ⟨c3649, h⟩ := qk_some h
          refine q_iaload dX12_write_50 (hL 79 (by decide)) sh_79 (qIx_0 c3649) (qIx_1 c3649) rfl ?_
          obtain ⟨q3650, h3651, h⟩ := Option.bind_eq_some_iff.mp h
          refine q_callVv (as := [qi (q3647 79 (Int.toNat x1))]) (c := 70) dX12_write_51 ml_X12_518 rfl rfl (hL 70 (by decide)) sh_70 rfl rfl (Nat.le_of_ble_eq_true rfl) (M_writesNumber_ok hL (d + 2) (q3647 79 (Int.toNat x1)) _ _ h3651) rfl ?_
          refine q_aload_n dX12_write_54 rfl rfl ?_
          refine q_aload_n dX12_write_55 rfl rfl ?_
          refine q_getA dX12_write_56 fl_X12_42 (hL 70 (by decide)) sh_70 (by decide) rfl rfl ?_
          refine q_iload_n dX12_write_59 rfl rfl ?_
          obtain ⟨c3652, h⟩ := qk_some h
          refine q_iaload dX12_write_60 (hL 80 (by decide)) sh_80 (qIx_0 c3652) (qIx_1 c3652) rfl ?_
          obtain ⟨q3653, h3654, h⟩ := Option.bind_eq_some_iff.mp h
          refine q_callVv (as := [qi (q3650 80 (Int.toNat x1))]) (c := 70) dX12_write_61 ml_X12_518 rfl rfl (hL 70 (by decide)) sh_70 rfl rfl (Nat.le_of_ble_eq_true rfl) (M_writesNumber_ok hL (d + 2) (q3650 80 (Int.toNat x1)) _ _ h3654) rfl ?_
          refine q_aload_n dX12_write_64 rfl rfl ?_
          refine q_bipush dX12_write_65 (by decide) rfl ?_
          obtain ⟨q3655, h3656, h⟩ := Option.bind_eq_some_iff.mp h
          refine q_callVv (as := [qi 59]) (c := 70) dX12_write_67 ml_X12_509 rfl rfl (hL 70 (by decide)) sh_70 rfl rfl (Nat.le_of_ble_eq_true rfl) (M_writes_ok hL (d + 3) 59 _ _ h3656) rfl ?_
          cases h
          exact q_pick [0, 1] rfl hk3947
        · rw [if_pos (show q3612.1 = 0 from g)] at h
          refine q_goto (pc' := 70) dX12_write_26 (by decide) ?_
          cases h
          exact q_pick [0, 1] rfl hk3947
set_option maxRecDepth 20000 in
theorem M_write_ok {X : qX} (hL : ∀ c, c < 93 → c ∈ qLs X) (d : Nat) (S : qSto) (o : (Int × qSto)) (h : M_write S = some o) (Q : Option qV → qSto → Prop) (hQ : Q (some (qi o.1)) o.2) : qC X (d + 4) yX12_write cX12_write 2 (some .int) [qr 70] S Q := by
  refine q_entry (lv := [(0, qr 70)]) pn_X12 (Nat.le_of_ble_eq_true rfl) rfl ?_
  unfold M_write at h
  refine q_aload_n dX12_write_0 rfl rfl ?_
  refine q_iconst dX12_write_1 rfl rfl ?_
  refine q_putI dX12_write_2 fl_X12_506 (hL 70 (by decide)) sh_70 (by decide) pf_12_41 pt_12_41 rfl rfl ?_
  refine q_iconst dX12_write_5 rfl rfl ?_
  refine q_istore_n (lv' := [(1, qi 0), (0, qr 70)]) dX12_write_6 (by decide) rfl rfl ?_
  obtain ⟨q3658, h3659, h⟩ := Option.bind_eq_some_iff.mp h
  refine q_pick [1, 0] rfl (M_write_L7_ok hL d qF 0 _ _ h3659 ?_)
  refine q_aload_n dX12_write_76 rfl rfl ?_
  refine q_getI dX12_write_77 fl_X12_506 (hL 70 (by decide)) sh_70 (by decide) rfl rfl ?_
  cases h
  exact q_ireturn dX12_write_80 rfl hQ
set_option maxRecDepth 20000 in
theorem M_octet_ok {X : qX} (hL : ∀ c, c < 93 → c ∈ qLs X) (d : Nat) (a1 : Int) (S : qSto) (o : (Int × qSto)) (h : M_octet a1 S = some o) (Q : Option qV → qSto → Prop) (hQ : Q (some (qi o.1)) o.2) : qC X (d + 1) yX12_octet cX12_octet 2 (some .int) [qr 70, qi a1] S Q := by
  refine q_entry (lv := [(0, qr 70), (1, qi a1)]) pn_X12 (Nat.le_of_ble_eq_true rfl) rfl ?_
  unfold M_octet at h
  refine q_iload_n dX12_octet_0 rfl rfl ?_
  obtain ⟨c3660, h⟩ := qk_some h
  refine q_i2l dX12_octet_1 (qRb_R c3660) rfl ?_
  refine q_lconst (v := 0) dX12_octet_2 rfl rfl ?_
  refine q_aload_n dX12_octet_3 rfl rfl ?_
  refine q_getI dX12_octet_4 fl_X12_506 (hL 70 (by decide)) sh_70 (by decide) rfl rfl ?_
  refine q_iconst dX12_octet_7 rfl rfl ?_
  refine q_isub dX12_octet_8 rfl ?_
  obtain ⟨c3661, h⟩ := qk_some h
  refine q_i2l dX12_octet_9 (qRb_R c3661) rfl ?_
  obtain ⟨q3662, h3663, h⟩ := Option.bind_eq_some_iff.mp h
  refine q_callSi (as := [ql a1, ql 0, ql ((S 70 41) - 1)]) dX12_octet_10 ml_X12_99 rfl rfl (Nat.le_of_ble_eq_true rfl) (M_in_ok hL d a1 0 ((S 70 41) - 1) _ _ h3663) rfl ?_
  obtain ⟨c3664, h⟩ := qk_some h
  refine q_if_eq (tgt := 25) dX12_octet_13 (by decide) rfl (qRb_R c3664)  (fun g => ?_) (fun g => ?_)
  · rw [if_pos (show q3662.1 = 0 from g)] at h
    refine q_iconst dX12_octet_25 rfl rfl ?_
    cases h
    exact q_ireturn dX12_octet_26 rfl hQ
  · rw [if_neg (show ¬ (q3662.1 = 0) from g)] at h
    refine q_aload_n dX12_octet_16 rfl rfl ?_
    refine q_getA dX12_octet_17 fl_X12_79 (hL 70 (by decide)) sh_70 (by decide) rfl rfl ?_
    refine q_iload_n dX12_octet_20 rfl rfl ?_
    obtain ⟨c3665, h⟩ := qk_some h
    refine q_iaload dX12_octet_21 (hL 92 (by decide)) sh_92 (qIx_0 c3665) (qIx_1 c3665) rfl ?_
    refine q_goto (pc' := 26) dX12_octet_22 (by decide) ?_
    cases h
    exact q_ireturn dX12_octet_26 rfl hQ
set_option maxRecDepth 20000 in
theorem M_isMark_ok {X : qX} (hL : ∀ c, c < 93 → c ∈ qLs X) (d : Nat) (a0 : Int) (S : qSto) (o : (Int × qSto)) (h : M_isMark a0 S = some o) (Q : Option qV → qSto → Prop) (hQ : Q (some (qi o.1)) o.2) : qC X (d + 1) yX12_isMark cX12_isMark 1 (some .boolean) [qi a0] S Q := by
  refine q_entry (lv := [(0, qi a0)]) pn_X12 (Nat.le_of_ble_eq_true rfl) rfl ?_
  unfold M_isMark at h
  refine q_iload_n dX12_isMark_0 rfl rfl ?_
  obtain ⟨c3666, h⟩ := qk_some h
  refine q_i2l dX12_isMark_1 (qRb_R c3666) rfl ?_
  refine q_lconst (v := 0) dX12_isMark_2 rfl rfl ?_
  refine q_ldc2 (v := 3) dX12_isMark_3 qw_1729 rfl ?_
  obtain ⟨q3667, h3668, h⟩ := Option.bind_eq_some_iff.mp h
  refine q_callSi (as := [ql a0, ql 0, ql 3]) dX12_isMark_6 ml_X12_99 rfl rfl (Nat.le_of_ble_eq_true rfl) (M_in_ok hL d a0 0 3 _ _ h3668) rfl ?_
  obtain ⟨c3669, h⟩ := qk_some h
  cases h
  exact q_zreturn dX12_isMark_9 rfl (qZb_Z c3669) hQ
set_option maxRecDepth 20000 in
theorem M_differsIn_ok {X : qX} (hL : ∀ c, c < 93 → c ∈ qLs X) (d : Nat) (a1 : Int) (a2 : Int) (S : qSto) (o : (Int × qSto)) (h : M_differsIn a1 a2 S = some o) (Q : Option qV → qSto → Prop) (hQ : Q (some (qi o.1)) o.2) : qC X (d + 1) yX12_differsIn cX12_differsIn 4 (some .boolean) [qr 70, qi a1, qi a2] S Q := by
  refine q_entry (lv := [(0, qr 70), (1, qi a1), (2, qi a2)]) pn_X12 (Nat.le_of_ble_eq_true rfl) rfl ?_
  unfold M_differsIn at h
  refine q_aload_n dX12_differsIn_0 rfl rfl ?_
  refine q_getA dX12_differsIn_1 fl_X12_57 (hL 70 (by decide)) sh_70 (by decide) rfl rfl ?_
  refine q_iload_n dX12_differsIn_4 rfl rfl ?_
  refine q_iconst dX12_differsIn_5 rfl rfl ?_
  refine q_iadd dX12_differsIn_6 rfl ?_
  obtain ⟨c3677, h⟩ := qk_some h
  refine q_iaload dX12_differsIn_7 (hL 85 (by decide)) sh_85 (qIx_0 c3677) (qIx_1 c3677) rfl ?_
  refine q_jn (G := fun (t3679 : Int) => qW X (d + 1) yX12_differsIn cX12_differsIn 4 (some .boolean) 16 [(0, qr 70), (1, qi a1), (2, qi a2)] [qi t3679] S Q) h (fun t3679 h => ?_) (fun t3679 h hk3948 => ?_)
  · try dsimp only at h
    refine q_istore_n (lv' := [(3, qi t3679), (0, qr 70), (1, qi a1), (2, qi a2)]) dX12_differsIn_16 (by decide) rfl rfl ?_
    refine q_iload_n dX12_differsIn_17 rfl rfl ?_
    refine q_aload_n dX12_differsIn_18 rfl rfl ?_
    refine q_iload_n dX12_differsIn_19 rfl rfl ?_
    obtain ⟨q3680, h3681, h⟩ := Option.bind_eq_some_iff.mp h
    refine q_callVi (as := [qi a1]) (c := 70) dX12_differsIn_20 ml_X12_326 rfl rfl (hL 70 (by decide)) sh_70 rfl rfl (Nat.le_of_ble_eq_true rfl) (M_stays_ok hL d a1 _ _ h3681) rfl ?_
    obtain ⟨c3682, h⟩ := qk_some h
    obtain ⟨c3683, h⟩ := qk_some h
    refine q_icmp_eq (tgt := 28) dX12_differsIn_23 (by decide) rfl (qRb_R c3682) (qRb_R c3683) (fun g => ?_) (fun g => ?_)
    · rw [if_pos (show t3679 = q3680.1 from g)] at h
      refine q_iload_n dX12_differsIn_28 rfl rfl ?_
      obtain ⟨c3684, h⟩ := qk_some h
      refine q_if_eq (tgt := 85) dX12_differsIn_29 (by decide) rfl (qRb_R c3684)  (fun g => ?_) (fun g => ?_)
      · rw [if_pos (show t3679 = 0 from g)] at h
        refine q_iconst dX12_differsIn_85 rfl rfl ?_
        cases h
        exact q_zreturn dX12_differsIn_86 rfl (by decide) hQ
      · rw [if_neg (show ¬ (t3679 = 0) from g)] at h
        refine q_aload_n dX12_differsIn_32 rfl rfl ?_
        refine q_getA dX12_differsIn_33 fl_X12_57 (hL 70 (by decide)) sh_70 (by decide) rfl rfl ?_
        refine q_iload_n dX12_differsIn_36 rfl rfl ?_
        obtain ⟨c3685, h⟩ := qk_some h
        refine q_iaload dX12_differsIn_37 (hL 85 (by decide)) sh_85 (qIx_0 c3685) (qIx_1 c3685) rfl ?_
        refine q_aload_n dX12_differsIn_38 rfl rfl ?_
        refine q_getA dX12_differsIn_39 fl_X12_36 (hL 70 (by decide)) sh_70 (by decide) rfl rfl ?_
        refine q_iload_n dX12_differsIn_42 rfl rfl ?_
        obtain ⟨c3686, h⟩ := qk_some h
        refine q_iaload dX12_differsIn_43 (hL 78 (by decide)) sh_78 (qIx_0 c3686) (qIx_1 c3686) rfl ?_
        obtain ⟨c3687, h⟩ := qk_some h
        obtain ⟨c3688, h⟩ := qk_some h
        refine q_icmp_ne (tgt := 81) dX12_differsIn_44 (by decide) rfl (qRb_R c3687) (qRb_R c3688) (fun g => ?_) (fun g => ?_)
        · rw [if_neg (show ¬ ((q3680.2 85 (Int.toNat a2)) = (q3680.2 78 (Int.toNat a1))) from g)] at h
          refine q_iconst dX12_differsIn_81 rfl rfl ?_
          refine q_goto (pc' := 86) dX12_differsIn_82 (by decide) ?_
          cases h
          exact q_zreturn dX12_differsIn_86 rfl (by decide) hQ
        · rw [if_pos (show (q3680.2 85 (Int.toNat a2)) = (q3680.2 78 (Int.toNat a1)) from g)] at h
          refine q_aload_n dX12_differsIn_47 rfl rfl ?_
          refine q_getA dX12_differsIn_48 fl_X12_57 (hL 70 (by decide)) sh_70 (by decide) rfl rfl ?_
          refine q_iload_n dX12_differsIn_51 rfl rfl ?_
          refine q_iconst dX12_differsIn_52 rfl rfl ?_
          refine q_iadd dX12_differsIn_53 rfl ?_
          obtain ⟨c3689, h⟩ := qk_some h
          refine q_iaload dX12_differsIn_54 (hL 85 (by decide)) sh_85 (qIx_0 c3689) (qIx_1 c3689) rfl ?_
          refine q_aload_n dX12_differsIn_55 rfl rfl ?_
          refine q_getA dX12_differsIn_56 fl_X12_39 (hL 70 (by decide)) sh_70 (by decide) rfl rfl ?_
          refine q_iload_n dX12_differsIn_59 rfl rfl ?_
          obtain ⟨c3690, h⟩ := qk_some h
          refine q_iaload dX12_differsIn_60 (hL 79 (by decide)) sh_79 (qIx_0 c3690) (qIx_1 c3690) rfl ?_
          obtain ⟨c3691, h⟩ := qk_some h
          obtain ⟨c3692, h⟩ := qk_some h
          refine q_icmp_ne (tgt := 81) dX12_differsIn_61 (by decide) rfl (qRb_R c3691) (qRb_R c3692) (fun g => ?_) (fun g => ?_)
          · rw [if_neg (show ¬ ((q3680.2 85 (Int.toNat (a2 + 1))) = (q3680.2 79 (Int.toNat a1))) from g)] at h
            refine q_iconst dX12_differsIn_81 rfl rfl ?_
            refine q_goto (pc' := 86) dX12_differsIn_82 (by decide) ?_
            cases h
            exact q_zreturn dX12_differsIn_86 rfl (by decide) hQ
          · rw [if_pos (show (q3680.2 85 (Int.toNat (a2 + 1))) = (q3680.2 79 (Int.toNat a1)) from g)] at h
            refine q_aload_n dX12_differsIn_64 rfl rfl ?_
            refine q_getA dX12_differsIn_65 fl_X12_57 (hL 70 (by decide)) sh_70 (by decide) rfl rfl ?_
            refine q_iload_n dX12_differsIn_68 rfl rfl ?_
            refine q_iconst dX12_differsIn_69 rfl rfl ?_
            refine q_iadd dX12_differsIn_70 rfl ?_
            obtain ⟨c3693, h⟩ := qk_some h
            refine q_iaload dX12_differsIn_71 (hL 85 (by decide)) sh_85 (qIx_0 c3693) (qIx_1 c3693) rfl ?_
            refine q_aload_n dX12_differsIn_72 rfl rfl ?_
            refine q_getA dX12_differsIn_73 fl_X12_42 (hL 70 (by decide)) sh_70 (by decide) rfl rfl ?_
            refine q_iload_n dX12_differsIn_76 rfl rfl ?_
            obtain ⟨c3694, h⟩ := qk_some h
            refine q_iaload dX12_differsIn_77 (hL 80 (by decide)) sh_80 (qIx_0 c3694) (qIx_1 c3694) rfl ?_
            obtain ⟨c3695, h⟩ := qk_some h
            obtain ⟨c3696, h⟩ := qk_some h
            refine q_icmp_eq (tgt := 85) dX12_differsIn_78 (by decide) rfl (qRb_R c3695) (qRb_R c3696) (fun g => ?_) (fun g => ?_)
            · rw [if_pos (show (q3680.2 85 (Int.toNat (a2 + 2))) = (q3680.2 80 (Int.toNat a1)) from g)] at h
              refine q_iconst dX12_differsIn_85 rfl rfl ?_
              cases h
              exact q_zreturn dX12_differsIn_86 rfl (by decide) hQ
            · rw [if_neg (show ¬ ((q3680.2 85 (Int.toNat (a2 + 2))) = (q3680.2 80 (Int.toNat a1))) from g)] at h
              refine q_iconst dX12_differsIn_81 rfl rfl ?_
              refine q_goto (pc' := 86) dX12_differsIn_82 (by decide) ?_
              cases h
              exact q_zreturn dX12_differsIn_86 rfl (by decide) hQ
    · rw [if_neg (show ¬ (t3679 = q3680.1) from g)] at h
      refine q_iconst dX12_differsIn_26 rfl rfl ?_
      cases h
      exact q_zreturn dX12_differsIn_27 rfl (by decide) hQ
  · skip
    obtain ⟨c3678, h⟩ := qk_some h
    refine q_if_le (tgt := 15) dX12_differsIn_8 (by decide) rfl (qRb_R c3678)  (fun g => ?_) (fun g => ?_)
    · rw [if_pos (show (S 85 (Int.toNat (a2 + 2))) ≤ 0 from g)] at h
      refine q_iconst dX12_differsIn_15 rfl rfl ?_
      cases h
      exact q_pick [0, 1, 2] rfl hk3948
    · rw [if_neg (show ¬ ((S 85 (Int.toNat (a2 + 2))) ≤ 0) from g)] at h
      refine q_iconst dX12_differsIn_11 rfl rfl ?_
      refine q_goto (pc' := 16) dX12_differsIn_12 (by decide) ?_
      cases h
      exact q_pick [0, 1, 2] rfl hk3948
set_option maxRecDepth 20000 in
theorem M_differs_L22_ok {X : qX} (hL : ∀ c, c < 93 → c ∈ qLs X) (d : Nat) {Q : Option qV → qSto → Prop} : ∀ (n : Nat) (x1 : Int) (x2 : Int) (x3 : Int) (S : qSto) (o : (Int × qSto)), M_differs_L22 n x1 x2 x3 S = some o → (qW X (d + 2) yX12_differs cX12_differs 4 (some .int) 68 [(2, qi o.1)] [] o.2 Q) → qW X (d + 2) yX12_differs cX12_differs 4 (some .int) 22 [(0, qr 70), (1, qi x1), (2, qi x2), (3, qi x3)] [] S Q := by
  intro n
  induction n with
  | zero =>
    intro x1 x2 x3 S o h
    simp [M_differs_L22] at h
  | succ n ih =>
    intro x1 x2 x3 S o h hE
    rw [M_differs_L22] at h
    refine q_iload_n dX12_differs_22 rfl rfl ?_
    refine q_aload_n dX12_differs_23 rfl rfl ?_
    refine q_getA dX12_differs_24 fl_X12_13 (hL 70 (by decide)) sh_70 (by decide) rfl rfl ?_
    refine q_bipush dX12_differs_27 (by decide) rfl ?_
    refine q_iaload dX12_differs_29 (hL 72 (by decide)) sh_72 (by decide) (by decide) rfl ?_
    obtain ⟨c3675, h⟩ := qk_some h
    obtain ⟨c3676, h⟩ := qk_some h
    refine q_icmp_ge (tgt := 68) dX12_differs_30 (by decide) rfl (qRb_R c3675) (qRb_R c3676) (fun g => ?_) (fun g => ?_)
    · rw [if_pos (show (S 72 9) ≤ x3 from g)] at h
      cases h
      exact q_pick [2] rfl (hE)
    · rw [if_neg (show ¬ ((S 72 9) ≤ x3) from g)] at h
      refine q_aload_n dX12_differs_33 rfl rfl ?_
      refine q_iload_n dX12_differs_34 rfl rfl ?_
      refine q_bipush dX12_differs_35 (by decide) rfl ?_
      refine q_bipush dX12_differs_37 (by decide) rfl ?_
      refine q_iload_n dX12_differs_39 rfl rfl ?_
      refine q_iadd dX12_differs_40 rfl ?_
      refine q_imul dX12_differs_41 rfl ?_
      refine q_iconst dX12_differs_42 rfl rfl ?_
      refine q_iload_n dX12_differs_43 rfl rfl ?_
      refine q_imul dX12_differs_44 rfl ?_
      refine q_iadd dX12_differs_45 rfl ?_
      obtain ⟨q3697, h3698, h⟩ := Option.bind_eq_some_iff.mp h
      refine q_callVi (as := [qi x3, qi ((42 * (12 + x1)) + (3 * x3))]) (c := 70) dX12_differs_46 ml_X12_524 rfl rfl (hL 70 (by decide)) sh_70 rfl rfl (Nat.le_of_ble_eq_true rfl) (M_differsIn_ok hL d x3 ((42 * (12 + x1)) + (3 * x3)) _ _ h3698) rfl ?_
      refine q_jn (G := fun (t3700 : Int) => qW X (d + 2) yX12_differs cX12_differs 4 (some .int) 61 [(0, qr 70), (1, qi x1), (3, qi x3)] [qi t3700] q3697.2 Q) h (fun t3700 h => ?_) (fun t3700 h hk3949 => ?_)
      · try dsimp only at h
        refine q_istore_n (lv' := [(2, qi t3700), (0, qr 70), (1, qi x1), (3, qi x3)]) dX12_differs_61 (by decide) rfl rfl ?_
        refine q_iinc (lv' := [(3, qi (x3 + 1)), (2, qi t3700), (0, qr 70), (1, qi x1)]) dX12_differs_62 (by decide) rfl rfl rfl ?_
        refine q_goto (pc' := 22) dX12_differs_65 (by decide) ?_
        exact q_pick [2, 3, 1, 0] rfl (ih x1 t3700 (x3 + 1) _ _ h hE)
      · skip
        obtain ⟨c3699, h⟩ := qk_some h
        refine q_if_eq (tgt := 60) dX12_differs_49 (by decide) rfl (qRb_R c3699)  (fun g => ?_) (fun g => ?_)
        · rw [if_pos (show q3697.1 = 0 from g)] at h
          refine q_iload_n dX12_differs_60 rfl rfl ?_
          cases h
          exact q_pick [0, 1, 3] rfl hk3949
        · rw [if_neg (show ¬ (q3697.1 = 0) from g)] at h
          refine q_iload_n dX12_differs_52 rfl rfl ?_
          refine q_iconst dX12_differs_53 rfl rfl ?_
          refine q_iload_n dX12_differs_54 rfl rfl ?_
          refine q_ishl dX12_differs_55 rfl ?_
          refine q_ior dX12_differs_56 rfl ?_
          refine q_goto (pc' := 61) dX12_differs_57 (by decide) ?_
          cases h
          exact q_pick [0, 1, 3] rfl hk3949
set_option maxRecDepth 20000 in
theorem M_differs_ok {X : qX} (hL : ∀ c, c < 93 → c ∈ qLs X) (d : Nat) (a1 : Int) (S : qSto) (o : (Int × qSto)) (h : M_differs a1 S = some o) (Q : Option qV → qSto → Prop) (hQ : Q (some (qi o.1)) o.2) : qC X (d + 2) yX12_differs cX12_differs 4 (some .int) [qr 70, qi a1] S Q := by
  refine q_entry (lv := [(0, qr 70), (1, qi a1)]) pn_X12 (Nat.le_of_ble_eq_true rfl) rfl ?_
  unfold M_differs at h
  refine q_iload_n dX12_differs_0 rfl rfl ?_
  obtain ⟨q3670, h3671, h⟩ := Option.bind_eq_some_iff.mp h
  refine q_callSi (as := [qi a1]) dX12_differs_1 ml_X12_521 rfl rfl (Nat.le_of_ble_eq_true rfl) (M_isMark_ok hL d a1 _ _ h3671) rfl ?_
  obtain ⟨c3672, h⟩ := qk_some h
  refine q_if_eq (tgt := 16) dX12_differs_4 (by decide) rfl (qRb_R c3672)  (fun g => ?_) (fun g => ?_)
  · rw [if_pos (show q3670.1 = 0 from g)] at h
    refine q_iconst dX12_differs_16 rfl rfl ?_
    cases h
    exact q_ireturn dX12_differs_17 rfl hQ
  · rw [if_neg (show ¬ (q3670.1 = 0) from g)] at h
    refine q_aload_n dX12_differs_7 rfl rfl ?_
    refine q_getA dX12_differs_8 fl_X12_60 (hL 70 (by decide)) sh_70 (by decide) rfl rfl ?_
    refine q_iload_n dX12_differs_11 rfl rfl ?_
    obtain ⟨c3673, h⟩ := qk_some h
    refine q_zaload dX12_differs_12 (hL 86 (by decide)) sh_86 (qIx_0 c3673) (qIx_1 c3673) rfl ?_
    obtain ⟨c3674, h⟩ := qk_some h
    refine q_if_ne (tgt := 18) dX12_differs_13 (by decide) rfl (qRb_R c3674)  (fun g => ?_) (fun g => ?_)
    · rw [if_neg (show ¬ ((q3670.2 86 (Int.toNat a1)) = 0) from g)] at h
      refine q_iconst dX12_differs_18 rfl rfl ?_
      refine q_istore_n (lv' := [(2, qi 0), (0, qr 70), (1, qi a1)]) dX12_differs_19 (by decide) rfl rfl ?_
      refine q_iconst dX12_differs_20 rfl rfl ?_
      refine q_istore_n (lv' := [(3, qi 0), (2, qi 0), (0, qr 70), (1, qi a1)]) dX12_differs_21 (by decide) rfl rfl ?_
      obtain ⟨q3701, h3702, h⟩ := Option.bind_eq_some_iff.mp h
      refine q_pick [2, 3, 1, 0] rfl (M_differs_L22_ok hL d qF a1 0 0 _ _ h3702 ?_)
      refine q_iload_n dX12_differs_68 rfl rfl ?_
      cases h
      exact q_ireturn dX12_differs_69 rfl hQ
    · rw [if_pos (show (q3670.2 86 (Int.toNat a1)) = 0 from g)] at h
      refine q_iconst dX12_differs_16 rfl rfl ?_
      cases h
      exact q_ireturn dX12_differs_17 rfl hQ
