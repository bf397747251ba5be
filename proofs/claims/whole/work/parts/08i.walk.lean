set_option maxRecDepth 20000 in
theorem M_reaches_ok {X : qX} (hL : ∀ c, c < 93 → c ∈ qLs X) (d : Nat) (a1 : Int) (a2 : Int) (S : qSto) (o : (Int × qSto)) (h : M_reaches a1 a2 S = some o) (Q : Option qV → qSto → Prop) (hQ : Q (some (qi o.1)) o.2) : qC X (d + 1) yX12_reaches cX12_reaches 3 (some .boolean) [qr 70, qi a1, qi a2] S Q := by
  refine q_entry (lv := [(0, qr 70), (1, qi a1), (2, qi a2)]) pn_X12 (Nat.le_of_ble_eq_true rfl) rfl ?_
  unfold M_reaches at h
  refine q_aload_n dX12_reaches_0 rfl rfl ?_
  refine q_getA dX12_reaches_1 fl_X12_13 (hL 70 (by decide)) sh_70 (by decide) rfl rfl ?_
  refine q_bipush dX12_reaches_4 (by decide) rfl ?_
  refine q_iload_n dX12_reaches_6 rfl rfl ?_
  refine q_iadd dX12_reaches_7 rfl ?_
  obtain ⟨c2642, h⟩ := qk_some h
  refine q_iaload dX12_reaches_8 (hL 72 (by decide)) sh_72 (qIx_0 c2642) (qIx_1 c2642) rfl ?_
  refine q_aload_n dX12_reaches_9 rfl rfl ?_
  refine q_getA dX12_reaches_10 fl_X12_36 (hL 70 (by decide)) sh_70 (by decide) rfl rfl ?_
  refine q_iload_n dX12_reaches_13 rfl rfl ?_
  obtain ⟨c2643, h⟩ := qk_some h
  refine q_iaload dX12_reaches_14 (hL 78 (by decide)) sh_78 (qIx_0 c2643) (qIx_1 c2643) rfl ?_
  refine q_aload_n dX12_reaches_15 rfl rfl ?_
  refine q_iload_n dX12_reaches_16 rfl rfl ?_
  refine q_iconst dX12_reaches_17 rfl rfl ?_
  obtain ⟨q2644, h2645, h⟩ := Option.bind_eq_some_iff.mp h
  refine q_callVi (as := [qi a2, qi 0]) (c := 70) dX12_reaches_18 ml_X12_316 rfl rfl (hL 70 (by decide)) sh_70 rfl rfl (Nat.le_of_ble_eq_true rfl) (M_of_ok hL d a2 0 _ _ h2645) rfl ?_
  refine q_iadd dX12_reaches_21 rfl ?_
  refine q_iconst dX12_reaches_22 rfl rfl ?_
  refine q_isub dX12_reaches_23 rfl ?_
  obtain ⟨c2646, h⟩ := qk_some h
  obtain ⟨c2647, h⟩ := qk_some h
  refine q_icmp_gt (tgt := 49) dX12_reaches_24 (by decide) rfl (qRb_R c2646) (qRb_R c2647) (fun g => ?_) (fun g => ?_)
  · rw [if_pos (show (((S 78 (Int.toNat a2)) + q2644.1) - 1) < (S 72 (Int.toNat (27 + a1))) from g)] at h
    refine q_iconst dX12_reaches_49 rfl rfl ?_
    cases h
    exact q_zreturn dX12_reaches_50 rfl (by decide) hQ
  · rw [if_neg (show ¬ ((((S 78 (Int.toNat a2)) + q2644.1) - 1) < (S 72 (Int.toNat (27 + a1)))) from g)] at h
    refine q_aload_n dX12_reaches_27 rfl rfl ?_
    refine q_getA dX12_reaches_28 fl_X12_13 (hL 70 (by decide)) sh_70 (by decide) rfl rfl ?_
    refine q_bipush dX12_reaches_31 (by decide) rfl ?_
    refine q_iload_n dX12_reaches_33 rfl rfl ?_
    refine q_iadd dX12_reaches_34 rfl ?_
    obtain ⟨c2648, h⟩ := qk_some h
    refine q_iaload dX12_reaches_35 (hL 72 (by decide)) sh_72 (qIx_0 c2648) (qIx_1 c2648) rfl ?_
    refine q_aload_n dX12_reaches_36 rfl rfl ?_
    refine q_getA dX12_reaches_37 fl_X12_36 (hL 70 (by decide)) sh_70 (by decide) rfl rfl ?_
    refine q_iload_n dX12_reaches_40 rfl rfl ?_
    obtain ⟨c2649, h⟩ := qk_some h
    refine q_iaload dX12_reaches_41 (hL 78 (by decide)) sh_78 (qIx_0 c2649) (qIx_1 c2649) rfl ?_
    obtain ⟨c2650, h⟩ := qk_some h
    obtain ⟨c2651, h⟩ := qk_some h
    refine q_icmp_lt (tgt := 49) dX12_reaches_42 (by decide) rfl (qRb_R c2650) (qRb_R c2651) (fun g => ?_) (fun g => ?_)
    · rw [if_pos (show (q2644.2 72 (Int.toNat (35 + a1))) < (q2644.2 78 (Int.toNat a2)) from g)] at h
      refine q_iconst dX12_reaches_49 rfl rfl ?_
      cases h
      exact q_zreturn dX12_reaches_50 rfl (by decide) hQ
    · rw [if_neg (show ¬ ((q2644.2 72 (Int.toNat (35 + a1))) < (q2644.2 78 (Int.toNat a2))) from g)] at h
      refine q_iconst dX12_reaches_45 rfl rfl ?_
      refine q_goto (pc' := 50) dX12_reaches_46 (by decide) ?_
      cases h
      exact q_zreturn dX12_reaches_50 rfl (by decide) hQ
set_option maxRecDepth 20000 in
theorem M_takesCranes_L11_ok {X : qX} (hL : ∀ c, c < 93 → c ∈ qLs X) (d : Nat) {Q : Option qV → qSto → Prop} : ∀ (n : Nat) (x1 : Int) (x3 : Int) (x4 : Int) (x5 : Int) (S : qSto) (o : (qSto ⊕ (Int × qSto))), M_takesCranes_L11 n x1 x3 x4 x5 S = some o → (∀ t, o = Sum.inl t → qW X (d + 2) yX12_takesCranes cX12_takesCranes 6 (some .int) 72 [] [] t Q) → (∀ w, o = Sum.inr w → Q (some (qi w.1)) w.2) → qW X (d + 2) yX12_takesCranes cX12_takesCranes 6 (some .int) 11 [(0, qr 70), (1, qi x1), (3, qi x3), (4, qi x4), (5, qi x5)] [] S Q := by
  intro n
  induction n with
  | zero =>
    intro x1 x3 x4 x5 S o h
    simp [M_takesCranes_L11] at h
  | succ n ih =>
    intro x1 x3 x4 x5 S o h hE hR
    rw [M_takesCranes_L11] at h
    refine q_iload dX12_takesCranes_11 rfl rfl ?_
    refine q_aload_n dX12_takesCranes_13 rfl rfl ?_
    refine q_getA dX12_takesCranes_14 fl_X12_13 (hL 70 (by decide)) sh_70 (by decide) rfl rfl ?_
    refine q_bipush dX12_takesCranes_17 (by decide) rfl ?_
    refine q_iaload dX12_takesCranes_19 (hL 72 (by decide)) sh_72 (by decide) (by decide) rfl ?_
    obtain ⟨c2638, h⟩ := qk_some h
    obtain ⟨c2639, h⟩ := qk_some h
    refine q_icmp_ge (tgt := 72) dX12_takesCranes_20 (by decide) rfl (qRb_R c2638) (qRb_R c2639) (fun g => ?_) (fun g => ?_)
    · rw [if_pos (show (S 72 7) ≤ x5 from g)] at h
      cases h
      exact q_pick [] rfl (hE _ rfl)
    · rw [if_neg (show ¬ ((S 72 7) ≤ x5) from g)] at h
      refine q_iload dX12_takesCranes_23 rfl rfl ?_
      refine q_iload_n dX12_takesCranes_25 rfl rfl ?_
      obtain ⟨c2640, h⟩ := qk_some h
      obtain ⟨c2641, h⟩ := qk_some h
      refine q_icmp_eq (tgt := 66) dX12_takesCranes_26 (by decide) rfl (qRb_R c2640) (qRb_R c2641) (fun g => ?_) (fun g => ?_)
      · rw [if_pos (show x5 = x3 from g)] at h
        refine q_iinc (lv' := [(5, qi (x5 + 1)), (0, qr 70), (1, qi x1), (3, qi x3), (4, qi x4)]) dX12_takesCranes_66 (by decide) rfl rfl rfl ?_
        refine q_goto (pc' := 11) dX12_takesCranes_69 (by decide) ?_
        exact q_pick [1, 2, 3, 4, 0] rfl (ih x1 x3 x4 (x5 + 1) _ _ h hE hR)
      · rw [if_neg (show ¬ (x5 = x3) from g)] at h
        refine q_aload_n dX12_takesCranes_29 rfl rfl ?_
        refine q_iload dX12_takesCranes_30 rfl rfl ?_
        refine q_iload_n dX12_takesCranes_32 rfl rfl ?_
        obtain ⟨q2652, h2653, h⟩ := Option.bind_eq_some_iff.mp h
        refine q_callVi (as := [qi x5, qi x1]) (c := 70) dX12_takesCranes_33 ml_X12_340 rfl rfl (hL 70 (by decide)) sh_70 rfl rfl (Nat.le_of_ble_eq_true rfl) (M_reaches_ok hL d x5 x1 _ _ h2653) rfl ?_
        obtain ⟨c2654, h⟩ := qk_some h
        refine q_if_ne (tgt := 42) dX12_takesCranes_36 (by decide) rfl (qRb_R c2654)  (fun g => ?_) (fun g => ?_)
        · rw [if_neg (show ¬ (q2652.1 = 0) from g)] at h
          refine q_aload_n dX12_takesCranes_42 rfl rfl ?_
          refine q_getA dX12_takesCranes_43 fl_X12_51 (hL 70 (by decide)) sh_70 (by decide) rfl rfl ?_
          refine q_iload dX12_takesCranes_46 rfl rfl ?_
          refine q_iload_n dX12_takesCranes_48 rfl rfl ?_
          obtain ⟨c2655, h⟩ := qk_some h
          refine q_iastore dX12_takesCranes_49 (hL 83 (by decide)) sh_83 (qIx_0 c2655) (qIx_1 c2655) rfl ?_
          refine q_iload dX12_takesCranes_50 rfl rfl ?_
          refine q_iconst dX12_takesCranes_52 rfl rfl ?_
          refine q_isub dX12_takesCranes_53 rfl ?_
          refine q_istore (lv' := [(4, qi (x4 - 1)), (0, qr 70), (1, qi x1), (3, qi x3), (5, qi x5)]) dX12_takesCranes_54 (by decide) rfl rfl ?_
          refine q_iload dX12_takesCranes_56 rfl rfl ?_
          obtain ⟨c2656, h⟩ := qk_some h
          refine q_if_ne (tgt := 66) dX12_takesCranes_58 (by decide) rfl (qRb_R c2656)  (fun g => ?_) (fun g => ?_)
          · rw [if_neg (show ¬ ((x4 - 1) = 0) from g)] at h
            refine q_iinc (lv' := [(5, qi (x5 + 1)), (4, qi (x4 - 1)), (0, qr 70), (1, qi x1), (3, qi x3)]) dX12_takesCranes_66 (by decide) rfl rfl rfl ?_
            refine q_goto (pc' := 11) dX12_takesCranes_69 (by decide) ?_
            exact q_pick [2, 3, 4, 1, 0] rfl (ih x1 x3 (x4 - 1) (x5 + 1) _ _ h hE hR)
          · rw [if_pos (show (x4 - 1) = 0 from g)] at h
            refine q_iload dX12_takesCranes_61 rfl rfl ?_
            refine q_iconst dX12_takesCranes_63 rfl rfl ?_
            refine q_iadd dX12_takesCranes_64 rfl ?_
            cases h
            exact q_ireturn dX12_takesCranes_65 rfl (hR _ rfl)
        · rw [if_pos (show q2652.1 = 0 from g)] at h
          refine q_goto (pc' := 66) dX12_takesCranes_39 (by decide) ?_
          refine q_iinc (lv' := [(5, qi (x5 + 1)), (0, qr 70), (1, qi x1), (3, qi x3), (4, qi x4)]) dX12_takesCranes_66 (by decide) rfl rfl rfl ?_
          refine q_goto (pc' := 11) dX12_takesCranes_69 (by decide) ?_
          exact q_pick [1, 2, 3, 4, 0] rfl (ih x1 x3 x4 (x5 + 1) _ _ h hE hR)
set_option maxRecDepth 20000 in
theorem M_takesCranes_ok {X : qX} (hL : ∀ c, c < 93 → c ∈ qLs X) (d : Nat) (a1 : Int) (a2 : Int) (a3 : Int) (S : qSto) (o : (Int × qSto)) (h : M_takesCranes a1 a2 a3 S = some o) (Q : Option qV → qSto → Prop) (hQ : Q (some (qi o.1)) o.2) : qC X (d + 2) yX12_takesCranes cX12_takesCranes 6 (some .int) [qr 70, qi a1, qi a2, qi a3] S Q := by
  refine q_entry (lv := [(0, qr 70), (1, qi a1), (2, qi a2), (3, qi a3)]) pn_X12 (Nat.le_of_ble_eq_true rfl) rfl ?_
  unfold M_takesCranes at h
  refine q_aload_n dX12_takesCranes_0 rfl rfl ?_
  refine q_getA dX12_takesCranes_1 fl_X12_42 (hL 70 (by decide)) sh_70 (by decide) rfl rfl ?_
  refine q_iload_n dX12_takesCranes_4 rfl rfl ?_
  obtain ⟨c2637, h⟩ := qk_some h
  refine q_iaload dX12_takesCranes_5 (hL 80 (by decide)) sh_80 (qIx_0 c2637) (qIx_1 c2637) rfl ?_
  refine q_istore (lv' := [(4, qi (S 80 (Int.toNat a1))), (0, qr 70), (1, qi a1), (2, qi a2), (3, qi a3)]) dX12_takesCranes_6 (by decide) rfl rfl ?_
  refine q_iload_n dX12_takesCranes_8 rfl rfl ?_
  refine q_istore (lv' := [(5, qi a2), (4, qi (S 80 (Int.toNat a1))), (0, qr 70), (1, qi a1), (2, qi a2), (3, qi a3)]) dX12_takesCranes_9 (by decide) rfl rfl ?_
  obtain ⟨q2657, h2658, h⟩ := Option.bind_eq_some_iff.mp h
  refine q_pick [2, 3, 5, 1, 0] rfl (M_takesCranes_L11_ok hL d qF a1 a3 (S 80 (Int.toNat a1)) a2 _ _ h2658 (fun t2659 e3903 => ?_) (fun w e3903 => ?_))
  · subst e3903
    simp only [Sum.elim_inl] at h
    refine q_iconst dX12_takesCranes_72 rfl rfl ?_
    cases h
    exact q_ireturn dX12_takesCranes_73 rfl hQ
  · subst e3903
    simp only [Sum.elim_inr] at h
    cases h
    exact hQ
set_option maxRecDepth 20000 in
theorem M_deals_L2_ok {X : qX} (hL : ∀ c, c < 93 → c ∈ qLs X) (d : Nat) {Q : Option qV → qSto → Prop} : ∀ (n : Nat) (x1 : Int) (x2 : Int) (x3 : Int) (S : qSto) (o : qSto), M_deals_L2 n x3 S = some o → (qW X (d + 3) yX12_deals cX12_deals 5 (some .boolean) 21 [(0, qr 70), (1, qi x1), (2, qi x2)] [] o Q) → qW X (d + 3) yX12_deals cX12_deals 5 (some .boolean) 2 [(0, qr 70), (1, qi x1), (2, qi x2), (3, qi x3)] [] S Q := by
  intro n
  induction n with
  | zero =>
    intro x1 x2 x3 S o h
    simp [M_deals_L2] at h
  | succ n ih =>
    intro x1 x2 x3 S o h hE
    rw [M_deals_L2] at h
    refine q_iload_n dX12_deals_2 rfl rfl ?_
    refine q_bipush dX12_deals_3 (by decide) rfl ?_
    obtain ⟨c2613, h⟩ := qk_some h
    refine q_icmp_ge (tgt := 21) dX12_deals_5 (by decide) rfl (qRb_R c2613) ⟨by decide, by decide⟩ (fun g => ?_) (fun g => ?_)
    · rw [if_pos (show 8 ≤ x3 from g)] at h
      cases h
      exact q_pick [0, 1, 2] rfl (hE)
    · rw [if_neg (show ¬ (8 ≤ x3) from g)] at h
      refine q_aload_n dX12_deals_8 rfl rfl ?_
      refine q_getA dX12_deals_9 fl_X12_51 (hL 70 (by decide)) sh_70 (by decide) rfl rfl ?_
      refine q_iload_n dX12_deals_12 rfl rfl ?_
      refine q_iconst dX12_deals_13 rfl rfl ?_
      obtain ⟨c2614, h⟩ := qk_some h
      refine q_iastore dX12_deals_14 (hL 83 (by decide)) sh_83 (qIx_0 c2614) (qIx_1 c2614) rfl ?_
      refine q_iinc (lv' := [(3, qi (x3 + 1)), (0, qr 70), (1, qi x1), (2, qi x2)]) dX12_deals_15 (by decide) rfl rfl rfl ?_
      refine q_goto (pc' := 2) dX12_deals_18 (by decide) ?_
      exact q_pick [1, 2, 3, 0] rfl (ih x1 x2 (x3 + 1) _ _ h hE)
set_option maxRecDepth 20000 in
theorem M_deals_L31_ok {X : qX} (hL : ∀ c, c < 93 → c ∈ qLs X) (d : Nat) {Q : Option qV → qSto → Prop} : ∀ (n : Nat) (x1 : Int) (x2 : Int) (x3 : Int) (x4 : Int) (S : qSto) (o : (qSto ⊕ (Int × qSto))), M_deals_L31 n x1 x2 x3 x4 S = some o → (∀ t, o = Sum.inl t → qW X (d + 3) yX12_deals cX12_deals 5 (some .boolean) 70 [] [] t Q) → (∀ w, o = Sum.inr w → Q (some (qi w.1)) w.2) → qW X (d + 3) yX12_deals cX12_deals 5 (some .boolean) 31 [(0, qr 70), (1, qi x1), (2, qi x2), (3, qi x3), (4, qi x4)] [] S Q := by
  intro n
  induction n with
  | zero =>
    intro x1 x2 x3 x4 S o h
    simp [M_deals_L31] at h
  | succ n ih =>
    intro x1 x2 x3 x4 S o h hE hR
    rw [M_deals_L31] at h
    refine q_iload dX12_deals_31 rfl rfl ?_
    refine q_iconst dX12_deals_33 rfl rfl ?_
    obtain ⟨c2636, h⟩ := qk_some h
    refine q_icmp_eq (tgt := 70) dX12_deals_34 (by decide) rfl (qRb_R c2636) ⟨by decide, by decide⟩ (fun g => ?_) (fun g => ?_)
    · rw [if_pos (show x4 = (-1) from g)] at h
      cases h
      exact q_pick [] rfl (hE _ rfl)
    · rw [if_neg (show ¬ (x4 = (-1)) from g)] at h
      refine q_aload_n dX12_deals_37 rfl rfl ?_
      refine q_iload dX12_deals_38 rfl rfl ?_
      refine q_iload_n dX12_deals_40 rfl rfl ?_
      refine q_iload_n dX12_deals_41 rfl rfl ?_
      obtain ⟨q2660, h2661, h⟩ := Option.bind_eq_some_iff.mp h
      refine q_callVi (as := [qi x4, qi x3, qi x2]) (c := 70) dX12_deals_42 ml_X12_346 rfl rfl (hL 70 (by decide)) sh_70 rfl rfl (Nat.le_of_ble_eq_true rfl) (M_takesCranes_ok hL d x4 x3 x2 _ _ h2661) rfl ?_
      refine q_istore_n (lv' := [(3, qi q2660.1), (0, qr 70), (1, qi x1), (2, qi x2), (4, qi x4)]) dX12_deals_45 (by decide) rfl rfl ?_
      refine q_iload_n dX12_deals_46 rfl rfl ?_
      refine q_iconst dX12_deals_47 rfl rfl ?_
      obtain ⟨c2662, h⟩ := qk_some h
      refine q_icmp_ne (tgt := 53) dX12_deals_48 (by decide) rfl (qRb_R c2662) ⟨by decide, by decide⟩ (fun g => ?_) (fun g => ?_)
      · rw [if_neg (show ¬ (q2660.1 = (-1)) from g)] at h
        refine q_aload_n dX12_deals_53 rfl rfl ?_
        refine q_iload_n dX12_deals_54 rfl rfl ?_
        refine q_aload_n dX12_deals_55 rfl rfl ?_
        refine q_getA dX12_deals_56 fl_X12_36 (hL 70 (by decide)) sh_70 (by decide) rfl rfl ?_
        refine q_iload dX12_deals_59 rfl rfl ?_
        obtain ⟨c2663, h⟩ := qk_some h
        refine q_iaload dX12_deals_61 (hL 78 (by decide)) sh_78 (qIx_0 c2663) (qIx_1 c2663) rfl ?_
        obtain ⟨q2664, h2665, h⟩ := Option.bind_eq_some_iff.mp h
        refine q_callVi (as := [qi x1, qi (q2660.2 78 (Int.toNat x4))]) (c := 70) dX12_deals_62 ml_X12_343 rfl rfl (hL 70 (by decide)) sh_70 rfl rfl (Nat.le_of_ble_eq_true rfl) (M_nextAtWork_ok hL d x1 (q2660.2 78 (Int.toNat x4)) _ _ h2665) rfl ?_
        refine q_istore (lv' := [(4, qi q2664.1), (3, qi q2660.1), (0, qr 70), (1, qi x1), (2, qi x2)]) dX12_deals_65 (by decide) rfl rfl ?_
        refine q_goto (pc' := 31) dX12_deals_67 (by decide) ?_
        exact q_pick [2, 3, 4, 1, 0] rfl (ih x1 x2 q2660.1 q2664.1 _ _ h hE hR)
      · rw [if_pos (show q2660.1 = (-1) from g)] at h
        refine q_iconst dX12_deals_51 rfl rfl ?_
        cases h
        exact q_zreturn dX12_deals_52 rfl (by decide) (hR _ rfl)
set_option maxRecDepth 20000 in
theorem M_deals_ok {X : qX} (hL : ∀ c, c < 93 → c ∈ qLs X) (d : Nat) (a1 : Int) (a2 : Int) (S : qSto) (o : (Int × qSto)) (h : M_deals a1 a2 S = some o) (Q : Option qV → qSto → Prop) (hQ : Q (some (qi o.1)) o.2) : qC X (d + 3) yX12_deals cX12_deals 5 (some .boolean) [qr 70, qi a1, qi a2] S Q := by
  refine q_entry (lv := [(0, qr 70), (1, qi a1), (2, qi a2)]) pn_X12 (Nat.le_of_ble_eq_true rfl) rfl ?_
  unfold M_deals at h
  refine q_iconst dX12_deals_0 rfl rfl ?_
  refine q_istore_n (lv' := [(3, qi 0), (0, qr 70), (1, qi a1), (2, qi a2)]) dX12_deals_1 (by decide) rfl rfl ?_
  obtain ⟨q2615, h2616, h⟩ := Option.bind_eq_some_iff.mp h
  refine q_pick [1, 2, 3, 0] rfl (M_deals_L2_ok hL d qF a1 a2 0 _ _ h2616 ?_)
  refine q_iconst dX12_deals_21 rfl rfl ?_
  refine q_istore_n (lv' := [(3, qi 0), (0, qr 70), (1, qi a1), (2, qi a2)]) dX12_deals_22 (by decide) rfl rfl ?_
  refine q_aload_n dX12_deals_23 rfl rfl ?_
  refine q_iload_n dX12_deals_24 rfl rfl ?_
  refine q_iconst dX12_deals_25 rfl rfl ?_
  obtain ⟨q2634, h2635, h⟩ := Option.bind_eq_some_iff.mp h
  refine q_callVi (as := [qi a1, qi (-1)]) (c := 70) dX12_deals_26 ml_X12_343 rfl rfl (hL 70 (by decide)) sh_70 rfl rfl (Nat.le_of_ble_eq_true rfl) (M_nextAtWork_ok hL d a1 (-1) _ _ h2635) rfl ?_
  refine q_istore (lv' := [(4, qi q2634.1), (3, qi 0), (0, qr 70), (1, qi a1), (2, qi a2)]) dX12_deals_29 (by decide) rfl rfl ?_
  obtain ⟨q2666, h2667, h⟩ := Option.bind_eq_some_iff.mp h
  refine q_pick [2, 3, 4, 1, 0] rfl (M_deals_L31_ok hL d qF a1 a2 0 q2634.1 _ _ h2667 (fun t2668 e3904 => ?_) (fun w e3904 => ?_))
  · subst e3904
    simp only [Sum.elim_inl] at h
    refine q_iconst dX12_deals_70 rfl rfl ?_
    cases h
    exact q_zreturn dX12_deals_71 rfl (by decide) hQ
  · subst e3904
    simp only [Sum.elim_inr] at h
    cases h
    exact hQ
set_option maxRecDepth 20000 in
theorem M_hasCranes_L7_ok {X : qX} (hL : ∀ c, c < 93 → c ∈ qLs X) (d : Nat) {Q : Option qV → qSto → Prop} : ∀ (n : Nat) (x1 : Int) (x2 : Int) (S : qSto) (o : (qSto ⊕ (Int × qSto))), M_hasCranes_L7 n x1 x2 S = some o → (∀ t, o = Sum.inl t → qW X (d + 4) yX12_hasCranes cX12_hasCranes 3 (some .boolean) 41 [] [] t Q) → (∀ w, o = Sum.inr w → Q (some (qi w.1)) w.2) → qW X (d + 4) yX12_hasCranes cX12_hasCranes 3 (some .boolean) 7 [(0, qr 70), (1, qi x1), (2, qi x2)] [] S Q := by
  intro n
  induction n with
  | zero =>
    intro x1 x2 S o h
    simp [M_hasCranes_L7] at h
  | succ n ih =>
    intro x1 x2 S o h hE hR
    rw [M_hasCranes_L7] at h
    refine q_iload_n dX12_hasCranes_7 rfl rfl ?_
    refine q_aload_n dX12_hasCranes_8 rfl rfl ?_
    refine q_getA dX12_hasCranes_9 fl_X12_39 (hL 70 (by decide)) sh_70 (by decide) rfl rfl ?_
    refine q_iload_n dX12_hasCranes_12 rfl rfl ?_
    obtain ⟨c2609, h⟩ := qk_some h
    refine q_iaload dX12_hasCranes_13 (hL 79 (by decide)) sh_79 (qIx_0 c2609) (qIx_1 c2609) rfl ?_
    refine q_aload_n dX12_hasCranes_14 rfl rfl ?_
    refine q_getA dX12_hasCranes_15 fl_X12_45 (hL 70 (by decide)) sh_70 (by decide) rfl rfl ?_
    refine q_iload_n dX12_hasCranes_18 rfl rfl ?_
    obtain ⟨c2610, h⟩ := qk_some h
    refine q_iaload dX12_hasCranes_19 (hL 81 (by decide)) sh_81 (qIx_0 c2610) (qIx_1 c2610) rfl ?_
    refine q_iadd dX12_hasCranes_20 rfl ?_
    obtain ⟨c2611, h⟩ := qk_some h
    obtain ⟨c2612, h⟩ := qk_some h
    refine q_icmp_ge (tgt := 41) dX12_hasCranes_21 (by decide) rfl (qRb_R c2611) (qRb_R c2612) (fun g => ?_) (fun g => ?_)
    · rw [if_pos (show ((S 79 (Int.toNat x1)) + (S 81 (Int.toNat x1))) ≤ x2 from g)] at h
      cases h
      exact q_pick [] rfl (hE _ rfl)
    · rw [if_neg (show ¬ (((S 79 (Int.toNat x1)) + (S 81 (Int.toNat x1))) ≤ x2) from g)] at h
      refine q_aload_n dX12_hasCranes_24 rfl rfl ?_
      refine q_iload_n dX12_hasCranes_25 rfl rfl ?_
      refine q_iconst dX12_hasCranes_26 rfl rfl ?_
      obtain ⟨q2669, h2670, h⟩ := Option.bind_eq_some_iff.mp h
      refine q_callVi (as := [qi x2, qi (-1)]) (c := 70) dX12_hasCranes_27 ml_X12_361 rfl rfl (hL 70 (by decide)) sh_70 rfl rfl (Nat.le_of_ble_eq_true rfl) (M_deals_ok hL d x2 (-1) _ _ h2670) rfl ?_
      obtain ⟨c2671, h⟩ := qk_some h
      refine q_if_ne (tgt := 35) dX12_hasCranes_30 (by decide) rfl (qRb_R c2671)  (fun g => ?_) (fun g => ?_)
      · rw [if_neg (show ¬ (q2669.1 = 0) from g)] at h
        refine q_iinc (lv' := [(2, qi (x2 + 1)), (0, qr 70), (1, qi x1)]) dX12_hasCranes_35 (by decide) rfl rfl rfl ?_
        refine q_goto (pc' := 7) dX12_hasCranes_38 (by decide) ?_
        exact q_pick [1, 2, 0] rfl (ih x1 (x2 + 1) _ _ h hE hR)
      · rw [if_pos (show q2669.1 = 0 from g)] at h
        refine q_iconst dX12_hasCranes_33 rfl rfl ?_
        cases h
        exact q_zreturn dX12_hasCranes_34 rfl (by decide) (hR _ rfl)
set_option maxRecDepth 20000 in
theorem M_hasCranes_ok {X : qX} (hL : ∀ c, c < 93 → c ∈ qLs X) (d : Nat) (a1 : Int) (S : qSto) (o : (Int × qSto)) (h : M_hasCranes a1 S = some o) (Q : Option qV → qSto → Prop) (hQ : Q (some (qi o.1)) o.2) : qC X (d + 4) yX12_hasCranes cX12_hasCranes 3 (some .boolean) [qr 70, qi a1] S Q := by
  refine q_entry (lv := [(0, qr 70), (1, qi a1)]) pn_X12 (Nat.le_of_ble_eq_true rfl) rfl ?_
  unfold M_hasCranes at h
  refine q_aload_n dX12_hasCranes_0 rfl rfl ?_
  refine q_getA dX12_hasCranes_1 fl_X12_39 (hL 70 (by decide)) sh_70 (by decide) rfl rfl ?_
  refine q_iload_n dX12_hasCranes_4 rfl rfl ?_
  obtain ⟨c2608, h⟩ := qk_some h
  refine q_iaload dX12_hasCranes_5 (hL 79 (by decide)) sh_79 (qIx_0 c2608) (qIx_1 c2608) rfl ?_
  refine q_istore_n (lv' := [(2, qi (S 79 (Int.toNat a1))), (0, qr 70), (1, qi a1)]) dX12_hasCranes_6 (by decide) rfl rfl ?_
  obtain ⟨q2672, h2673, h⟩ := Option.bind_eq_some_iff.mp h
  refine q_pick [1, 2, 0] rfl (M_hasCranes_L7_ok hL d qF a1 (S 79 (Int.toNat a1)) _ _ h2673 (fun t2674 e3905 => ?_) (fun w e3905 => ?_))
  · subst e3905
    simp only [Sum.elim_inl] at h
    refine q_iconst dX12_hasCranes_41 rfl rfl ?_
    cases h
    exact q_zreturn dX12_hasCranes_42 rfl (by decide) hQ
  · subst e3905
    simp only [Sum.elim_inr] at h
    cases h
    exact hQ
set_option maxRecDepth 20000 in
theorem M_lateLaw_ok {X : qX} (hL : ∀ c, c < 93 → c ∈ qLs X) (d : Nat) (a1 : Int) (S : qSto) (o : (Int × qSto)) (h : M_lateLaw a1 S = some o) (Q : Option qV → qSto → Prop) (hQ : Q (some (qi o.1)) o.2) : qC X (d + 5) yX12_lateLaw cX12_lateLaw 2 (some .int) [qr 70, qi a1] S Q := by
  refine q_entry (lv := [(0, qr 70), (1, qi a1)]) pn_X12 (Nat.le_of_ble_eq_true rfl) rfl ?_
  unfold M_lateLaw at h
  refine q_aload_n dX12_lateLaw_0 rfl rfl ?_
  refine q_aload_n dX12_lateLaw_1 rfl rfl ?_
  refine q_getA dX12_lateLaw_2 fl_X12_36 (hL 70 (by decide)) sh_70 (by decide) rfl rfl ?_
  refine q_iload_n dX12_lateLaw_5 rfl rfl ?_
  obtain ⟨c2496, h⟩ := qk_some h
  refine q_iaload dX12_lateLaw_6 (hL 78 (by decide)) sh_78 (qIx_0 c2496) (qIx_1 c2496) rfl ?_
  refine q_aload_n dX12_lateLaw_7 rfl rfl ?_
  refine q_iload_n dX12_lateLaw_8 rfl rfl ?_
  obtain ⟨q2500, h2501, h⟩ := Option.bind_eq_some_iff.mp h
  refine q_callVi (as := [qi a1]) (c := 70) dX12_lateLaw_9 ml_X12_349 rfl rfl (hL 70 (by decide)) sh_70 rfl rfl (Nat.le_of_ble_eq_true rfl) (M_lastMetre_ok hL (d + 3) a1 _ _ h2501) rfl ?_
  obtain ⟨q2502, h2503, h⟩ := Option.bind_eq_some_iff.mp h
  refine q_callVi (as := [qi (S 78 (Int.toNat a1)), qi q2500.1]) (c := 70) dX12_lateLaw_12 ml_X12_280 rfl rfl (hL 70 (by decide)) sh_70 rfl rfl (Nat.le_of_ble_eq_true rfl) (M_leastDepth_ok hL (d + 4) (S 78 (Int.toNat a1)) q2500.1 _ _ h2503) rfl ?_
  refine q_aload_n dX12_lateLaw_15 rfl rfl ?_
  refine q_iload_n dX12_lateLaw_16 rfl rfl ?_
  obtain ⟨q2517, h2518, h⟩ := Option.bind_eq_some_iff.mp h
  refine q_callVi (as := [qi a1]) (c := 70) dX12_lateLaw_17 ml_X12_364 rfl rfl (hL 70 (by decide)) sh_70 rfl rfl (Nat.le_of_ble_eq_true rfl) (M_lowestIn_ok hL (d + 4) a1 _ _ h2518) rfl ?_
  refine q_iadd dX12_lateLaw_20 rfl ?_
  refine q_aload_n dX12_lateLaw_21 rfl rfl ?_
  refine q_iload_n dX12_lateLaw_22 rfl rfl ?_
  obtain ⟨q2530, h2531, h⟩ := Option.bind_eq_some_iff.mp h
  refine q_callVi (as := [qi a1]) (c := 70) dX12_lateLaw_23 ml_X12_367 rfl rfl (hL 70 (by decide)) sh_70 rfl rfl (Nat.le_of_ble_eq_true rfl) (M_needOf_ok hL (d + 3) a1 _ _ h2531) rfl ?_
  obtain ⟨c2532, h⟩ := qk_some h
  obtain ⟨c2533, h⟩ := qk_some h
  refine q_icmp_ge (tgt := 32) dX12_lateLaw_26 (by decide) rfl (qRb_R c2532) (qRb_R c2533) (fun g => ?_) (fun g => ?_)
  · rw [if_pos (show q2530.1 ≤ (q2502.1 + q2517.1) from g)] at h
    refine q_aload_n dX12_lateLaw_32 rfl rfl ?_
    refine q_iload_n dX12_lateLaw_33 rfl rfl ?_
    obtain ⟨q2568, h2569, h⟩ := Option.bind_eq_some_iff.mp h
    refine q_callVi (as := [qi a1]) (c := 70) dX12_lateLaw_34 ml_X12_370 rfl rfl (hL 70 (by decide)) sh_70 rfl rfl (Nat.le_of_ble_eq_true rfl) (M_waysOf_ok hL (d + 1) a1 _ _ h2569) rfl ?_
    obtain ⟨c2570, h⟩ := qk_some h
    refine q_if_eq (tgt := 43) dX12_lateLaw_37 (by decide) rfl (qRb_R c2570)  (fun g => ?_) (fun g => ?_)
    · rw [if_pos (show q2568.1 = 0 from g)] at h
      refine q_aload_n dX12_lateLaw_43 rfl rfl ?_
      refine q_iload_n dX12_lateLaw_44 rfl rfl ?_
      obtain ⟨q2605, h2606, h⟩ := Option.bind_eq_some_iff.mp h
      refine q_callVi (as := [qi a1]) (c := 70) dX12_lateLaw_45 ml_X12_373 rfl rfl (hL 70 (by decide)) sh_70 rfl rfl (Nat.le_of_ble_eq_true rfl) (M_hasGangs_ok hL (d + 1) a1 _ _ h2606) rfl ?_
      obtain ⟨c2607, h⟩ := qk_some h
      refine q_if_ne (tgt := 54) dX12_lateLaw_48 (by decide) rfl (qRb_R c2607)  (fun g => ?_) (fun g => ?_)
      · rw [if_neg (show ¬ (q2605.1 = 0) from g)] at h
        refine q_aload_n dX12_lateLaw_54 rfl rfl ?_
        refine q_iload_n dX12_lateLaw_55 rfl rfl ?_
        obtain ⟨q2675, h2676, h⟩ := Option.bind_eq_some_iff.mp h
        refine q_callVi (as := [qi a1]) (c := 70) dX12_lateLaw_56 ml_X12_376 rfl rfl (hL 70 (by decide)) sh_70 rfl rfl (Nat.le_of_ble_eq_true rfl) (M_hasCranes_ok hL d a1 _ _ h2676) rfl ?_
        obtain ⟨c2677, h⟩ := qk_some h
        refine q_if_eq (tgt := 66) dX12_lateLaw_59 (by decide) rfl (qRb_R c2677)  (fun g => ?_) (fun g => ?_)
        · rw [if_pos (show q2675.1 = 0 from g)] at h
          refine q_bipush dX12_lateLaw_66 (by decide) rfl ?_
          cases h
          exact q_ireturn dX12_lateLaw_68 rfl hQ
        · rw [if_neg (show ¬ (q2675.1 = 0) from g)] at h
          refine q_iconst dX12_lateLaw_62 rfl rfl ?_
          refine q_goto (pc' := 68) dX12_lateLaw_63 (by decide) ?_
          cases h
          exact q_ireturn dX12_lateLaw_68 rfl hQ
      · rw [if_pos (show q2605.1 = 0 from g)] at h
        refine q_bipush dX12_lateLaw_51 (by decide) rfl ?_
        cases h
        exact q_ireturn dX12_lateLaw_53 rfl hQ
    · rw [if_neg (show ¬ (q2568.1 = 0) from g)] at h
      refine q_bipush dX12_lateLaw_40 (by decide) rfl ?_
      cases h
      exact q_ireturn dX12_lateLaw_42 rfl hQ
  · rw [if_neg (show ¬ (q2530.1 ≤ (q2502.1 + q2517.1)) from g)] at h
    refine q_bipush dX12_lateLaw_29 (by decide) rfl ?_
    cases h
    exact q_ireturn dX12_lateLaw_31 rfl hQ
set_option maxRecDepth 20000 in
theorem M_lawOf_ok {X : qX} (hL : ∀ c, c < 93 → c ∈ qLs X) (d : Nat) (a1 : Int) (a2 : Int) (a4 : Int) (a6 : Int) (S : qSto) (o : (Int × qSto)) (h : M_lawOf a1 a2 a4 a6 S = some o) (Q : Option qV → qSto → Prop) (hQ : Q (some (qi o.1)) o.2) : qC X (d + 6) yX12_lawOf cX12_lawOf 11 (some .int) [qr 70, qi a1, ql a2, ql a4, qi a6] S Q := by
  refine q_entry (lv := [(0, qr 70), (1, qi a1), (2, ql a2), (4, ql a4), (6, qi a6)]) pn_X12 (Nat.le_of_ble_eq_true rfl) rfl ?_
  unfold M_lawOf at h
  refine q_aload_n dX12_lawOf_0 rfl rfl ?_
  refine q_iload_n dX12_lawOf_1 rfl rfl ?_
  refine q_lload_n dX12_lawOf_2 rfl rfl ?_
  refine q_lload dX12_lawOf_3 rfl rfl ?_
  refine q_iload dX12_lawOf_5 rfl rfl ?_
  obtain ⟨q2475, h2476, h⟩ := Option.bind_eq_some_iff.mp h
  refine q_callVi (as := [qi a1, ql a2, ql a4, qi a6]) (c := 70) dX12_lawOf_7 ml_X12_379 rfl rfl (hL 70 (by decide)) sh_70 rfl rfl (Nat.le_of_ble_eq_true rfl) (M_earlyLaw_ok hL (d + 2) a1 a2 a4 a6 _ _ h2476) rfl ?_
  refine q_istore (lv' := [(7, qi q2475.1), (0, qr 70), (1, qi a1), (2, ql a2), (4, ql a4), (6, qi a6)]) dX12_lawOf_10 (by decide) rfl rfl ?_
  refine q_iload dX12_lawOf_12 rfl rfl ?_
  obtain ⟨c2477, h⟩ := qk_some h
  refine q_if_le (tgt := 20) dX12_lawOf_14 (by decide) rfl (qRb_R c2477)  (fun g => ?_) (fun g => ?_)
  · rw [if_pos (show q2475.1 ≤ 0 from g)] at h
    refine q_aload_n dX12_lawOf_20 rfl rfl ?_
    refine q_getA dX12_lawOf_21 fl_X12_36 (hL 70 (by decide)) sh_70 (by decide) rfl rfl ?_
    refine q_iload_n dX12_lawOf_24 rfl rfl ?_
    obtain ⟨c2478, h⟩ := qk_some h
    refine q_iaload dX12_lawOf_25 (hL 78 (by decide)) sh_78 (qIx_0 c2478) (qIx_1 c2478) rfl ?_
    refine q_istore (lv' := [(8, qi (q2475.2 78 (Int.toNat a1))), (7, qi q2475.1), (0, qr 70), (1, qi a1), (2, ql a2), (4, ql a4), (6, qi a6)]) dX12_lawOf_26 (by decide) rfl rfl ?_
    refine q_aload_n dX12_lawOf_28 rfl rfl ?_
    refine q_getA dX12_lawOf_29 fl_X12_39 (hL 70 (by decide)) sh_70 (by decide) rfl rfl ?_
    refine q_iload_n dX12_lawOf_32 rfl rfl ?_
    obtain ⟨c2479, h⟩ := qk_some h
    refine q_iaload dX12_lawOf_33 (hL 79 (by decide)) sh_79 (qIx_0 c2479) (qIx_1 c2479) rfl ?_
    refine q_istore (lv' := [(9, qi (q2475.2 79 (Int.toNat a1))), (8, qi (q2475.2 78 (Int.toNat a1))), (7, qi q2475.1), (0, qr 70), (1, qi a1), (2, ql a2), (4, ql a4), (6, qi a6)]) dX12_lawOf_34 (by decide) rfl rfl ?_
    refine q_aload_n dX12_lawOf_36 rfl rfl ?_
    refine q_getA dX12_lawOf_37 fl_X12_42 (hL 70 (by decide)) sh_70 (by decide) rfl rfl ?_
    refine q_iload_n dX12_lawOf_40 rfl rfl ?_
    obtain ⟨c2480, h⟩ := qk_some h
    refine q_iaload dX12_lawOf_41 (hL 80 (by decide)) sh_80 (qIx_0 c2480) (qIx_1 c2480) rfl ?_
    refine q_istore (lv' := [(10, qi (q2475.2 80 (Int.toNat a1))), (9, qi (q2475.2 79 (Int.toNat a1))), (8, qi (q2475.2 78 (Int.toNat a1))), (7, qi q2475.1), (0, qr 70), (1, qi a1), (2, ql a2), (4, ql a4), (6, qi a6)]) dX12_lawOf_42 (by decide) rfl rfl ?_
    refine q_aload_n dX12_lawOf_44 rfl rfl ?_
    refine q_iload_n dX12_lawOf_45 rfl rfl ?_
    refine q_lload_n dX12_lawOf_46 rfl rfl ?_
    refine q_l2i dX12_lawOf_47 rfl ?_
    refine q_lload dX12_lawOf_48 rfl rfl ?_
    refine q_l2i dX12_lawOf_50 rfl ?_
    refine q_iload dX12_lawOf_51 rfl rfl ?_
    obtain ⟨q2494, h2495, h⟩ := Option.bind_eq_some_iff.mp h
    refine q_callVv (as := [qi a1, qi a2, qi a4, qi a6]) (c := 70) dX12_lawOf_53 ml_X12_383 rfl rfl (hL 70 (by decide)) sh_70 rfl rfl (Nat.le_of_ble_eq_true rfl) (M_lay_ok hL (d + 2) a1 a2 a4 a6 _ _ h2495) rfl ?_
    refine q_aload_n dX12_lawOf_56 rfl rfl ?_
    refine q_iload_n dX12_lawOf_57 rfl rfl ?_
    obtain ⟨q2678, h2679, h⟩ := Option.bind_eq_some_iff.mp h
    refine q_callVi (as := [qi a1]) (c := 70) dX12_lawOf_58 ml_X12_387 rfl rfl (hL 70 (by decide)) sh_70 rfl rfl (Nat.le_of_ble_eq_true rfl) (M_lateLaw_ok hL d a1 _ _ h2679) rfl ?_
    refine q_istore (lv' := [(7, qi q2678.1), (10, qi (q2475.2 80 (Int.toNat a1))), (9, qi (q2475.2 79 (Int.toNat a1))), (8, qi (q2475.2 78 (Int.toNat a1))), (0, qr 70), (1, qi a1), (2, ql a2), (4, ql a4), (6, qi a6)]) dX12_lawOf_61 (by decide) rfl rfl ?_
    refine q_aload_n dX12_lawOf_63 rfl rfl ?_
    refine q_iload_n dX12_lawOf_64 rfl rfl ?_
    refine q_iload dX12_lawOf_65 rfl rfl ?_
    refine q_iload dX12_lawOf_67 rfl rfl ?_
    refine q_iload dX12_lawOf_69 rfl rfl ?_
    obtain ⟨q2680, h2681, h⟩ := Option.bind_eq_some_iff.mp h
    refine q_callVv (as := [qi a1, qi (q2475.2 78 (Int.toNat a1)), qi (q2475.2 79 (Int.toNat a1)), qi (q2475.2 80 (Int.toNat a1))]) (c := 70) dX12_lawOf_71 ml_X12_383 rfl rfl (hL 70 (by decide)) sh_70 rfl rfl (Nat.le_of_ble_eq_true rfl) (M_lay_ok hL (d + 2) a1 (q2475.2 78 (Int.toNat a1)) (q2475.2 79 (Int.toNat a1)) (q2475.2 80 (Int.toNat a1)) _ _ h2681) rfl ?_
    refine q_iload dX12_lawOf_74 rfl rfl ?_
    cases h
    exact q_ireturn dX12_lawOf_76 rfl hQ
  · rw [if_neg (show ¬ (q2475.1 ≤ 0) from g)] at h
    refine q_iload dX12_lawOf_17 rfl rfl ?_
    cases h
    exact q_ireturn dX12_lawOf_19 rfl hQ
set_option maxRecDepth 20000 in
theorem M_breaks_ok {X : qX} (hL : ∀ c, c < 93 → c ∈ qLs X) (d : Nat) (a1 : Int) (a2 : Int) (a3 : Int) (a4 : Int) (S : qSto) (o : (Int × qSto)) (h : M_breaks a1 a2 a3 a4 S = some o) (Q : Option qV → qSto → Prop) (hQ : Q (some (qi o.1)) o.2) : qC X (d + 7) yX12_breaks cX12_breaks 5 (some .int) [qr 70, qi a1, qi a2, qi a3, qi a4] S Q := by
  refine q_entry (lv := [(0, qr 70), (1, qi a1), (2, qi a2), (3, qi a3), (4, qi a4)]) pn_X12 (Nat.le_of_ble_eq_true rfl) rfl ?_
  unfold M_breaks at h
  refine q_aload_n dX12_breaks_0 rfl rfl ?_
  refine q_iload_n dX12_breaks_1 rfl rfl ?_
  obtain ⟨q2427, h2428, h⟩ := Option.bind_eq_some_iff.mp h
  refine q_callVi (as := [qi a1]) (c := 70) dX12_breaks_2 ml_X12_297 rfl rfl (hL 70 (by decide)) sh_70 rfl rfl (Nat.le_of_ble_eq_true rfl) (M_isShip_ok hL (d + 5) a1 _ _ h2428) rfl ?_
  obtain ⟨c2429, h⟩ := qk_some h
  refine q_if_eq (tgt := 22) dX12_breaks_5 (by decide) rfl (qRb_R c2429)  (fun g => ?_) (fun g => ?_)
  · rw [if_pos (show q2427.1 = 0 from g)] at h
    refine q_iconst dX12_breaks_22 rfl rfl ?_
    cases h
    exact q_ireturn dX12_breaks_23 rfl hQ
  · rw [if_neg (show ¬ (q2427.1 = 0) from g)] at h
    refine q_aload_n dX12_breaks_8 rfl rfl ?_
    refine q_iload_n dX12_breaks_9 rfl rfl ?_
    refine q_iload_n dX12_breaks_10 rfl rfl ?_
    obtain ⟨c2430, h⟩ := qk_some h
    refine q_i2l dX12_breaks_11 (qRb_R c2430) rfl ?_
    refine q_iload_n dX12_breaks_12 rfl rfl ?_
    obtain ⟨c2431, h⟩ := qk_some h
    refine q_i2l dX12_breaks_13 (qRb_R c2431) rfl ?_
    refine q_iload dX12_breaks_14 rfl rfl ?_
    obtain ⟨q2682, h2683, h⟩ := Option.bind_eq_some_iff.mp h
    refine q_callVi (as := [qi a1, ql a2, ql a3, qi a4]) (c := 70) dX12_breaks_16 ml_X12_390 rfl rfl (hL 70 (by decide)) sh_70 rfl rfl (Nat.le_of_ble_eq_true rfl) (M_lawOf_ok hL d a1 a2 a3 a4 _ _ h2683) rfl ?_
    refine q_goto (pc' := 23) dX12_breaks_19 (by decide) ?_
    cases h
    exact q_ireturn dX12_breaks_23 rfl hQ
set_option maxRecDepth 20000 in
theorem M_inWay_ok {X : qX} (hL : ∀ c, c < 93 → c ∈ qLs X) (d : Nat) (a1 : Int) (a2 : Int) (a3 : Int) (a4 : Int) (S : qSto) (o : (Int × qSto)) (h : M_inWay a1 a2 a3 a4 S = some o) (Q : Option qV → qSto → Prop) (hQ : Q (some (qi o.1)) o.2) : qC X (d + 4) yX12_inWay cX12_inWay 9 (some .int) [qr 70, qi a1, qi a2, qi a3, qi a4] S Q := by
  refine q_entry (lv := [(0, qr 70), (1, qi a1), (2, qi a2), (3, qi a3), (4, qi a4)]) pn_X12 (Nat.le_of_ble_eq_true rfl) rfl ?_
  unfold M_inWay at h
  refine q_aload_n dX12_inWay_0 rfl rfl ?_
  refine q_iload_n dX12_inWay_1 rfl rfl ?_
  obtain ⟨q2684, h2685, h⟩ := Option.bind_eq_some_iff.mp h
  refine q_callVi (as := [qi a1]) (c := 70) dX12_inWay_2 ml_X12_297 rfl rfl (hL 70 (by decide)) sh_70 rfl rfl (Nat.le_of_ble_eq_true rfl) (M_isShip_ok hL (d + 2) a1 _ _ h2685) rfl ?_
  obtain ⟨c2686, h⟩ := qk_some h
  refine q_if_ne (tgt := 10) dX12_inWay_5 (by decide) rfl (qRb_R c2686)  (fun g => ?_) (fun g => ?_)
  · rw [if_neg (show ¬ (q2684.1 = 0) from g)] at h
    refine q_aload_n dX12_inWay_10 rfl rfl ?_
    refine q_iload_n dX12_inWay_11 rfl rfl ?_
    refine q_iload_n dX12_inWay_12 rfl rfl ?_
    obtain ⟨c2687, h⟩ := qk_some h
    refine q_i2l dX12_inWay_13 (qRb_R c2687) rfl ?_
    refine q_iload_n dX12_inWay_14 rfl rfl ?_
    obtain ⟨c2688, h⟩ := qk_some h
    refine q_i2l dX12_inWay_15 (qRb_R c2688) rfl ?_
    refine q_iload dX12_inWay_16 rfl rfl ?_
    obtain ⟨q2689, h2690, h⟩ := Option.bind_eq_some_iff.mp h
    refine q_callVi (as := [qi a1, ql a2, ql a3, qi a4]) (c := 70) dX12_inWay_18 ml_X12_379 rfl rfl (hL 70 (by decide)) sh_70 rfl rfl (Nat.le_of_ble_eq_true rfl) (M_earlyLaw_ok hL d a1 a2 a3 a4 _ _ h2690) rfl ?_
    obtain ⟨c2691, h⟩ := qk_some h
    refine q_if_le (tgt := 26) dX12_inWay_21 (by decide) rfl (qRb_R c2691)  (fun g => ?_) (fun g => ?_)
    · rw [if_pos (show q2689.1 ≤ 0 from g)] at h
      refine q_aload_n dX12_inWay_26 rfl rfl ?_
      refine q_getA dX12_inWay_27 fl_X12_36 (hL 70 (by decide)) sh_70 (by decide) rfl rfl ?_
      refine q_iload_n dX12_inWay_30 rfl rfl ?_
      obtain ⟨c2692, h⟩ := qk_some h
      refine q_iaload dX12_inWay_31 (hL 78 (by decide)) sh_78 (qIx_0 c2692) (qIx_1 c2692) rfl ?_
      refine q_istore (lv' := [(5, qi (q2689.2 78 (Int.toNat a1))), (0, qr 70), (1, qi a1), (2, qi a2), (3, qi a3), (4, qi a4)]) dX12_inWay_32 (by decide) rfl rfl ?_
      refine q_aload_n dX12_inWay_34 rfl rfl ?_
      refine q_getA dX12_inWay_35 fl_X12_39 (hL 70 (by decide)) sh_70 (by decide) rfl rfl ?_
      refine q_iload_n dX12_inWay_38 rfl rfl ?_
      obtain ⟨c2693, h⟩ := qk_some h
      refine q_iaload dX12_inWay_39 (hL 79 (by decide)) sh_79 (qIx_0 c2693) (qIx_1 c2693) rfl ?_
      refine q_istore (lv' := [(6, qi (q2689.2 79 (Int.toNat a1))), (5, qi (q2689.2 78 (Int.toNat a1))), (0, qr 70), (1, qi a1), (2, qi a2), (3, qi a3), (4, qi a4)]) dX12_inWay_40 (by decide) rfl rfl ?_
      refine q_aload_n dX12_inWay_42 rfl rfl ?_
      refine q_getA dX12_inWay_43 fl_X12_42 (hL 70 (by decide)) sh_70 (by decide) rfl rfl ?_
      refine q_iload_n dX12_inWay_46 rfl rfl ?_
      obtain ⟨c2694, h⟩ := qk_some h
      refine q_iaload dX12_inWay_47 (hL 80 (by decide)) sh_80 (qIx_0 c2694) (qIx_1 c2694) rfl ?_
      refine q_istore (lv' := [(7, qi (q2689.2 80 (Int.toNat a1))), (6, qi (q2689.2 79 (Int.toNat a1))), (5, qi (q2689.2 78 (Int.toNat a1))), (0, qr 70), (1, qi a1), (2, qi a2), (3, qi a3), (4, qi a4)]) dX12_inWay_48 (by decide) rfl rfl ?_
      refine q_aload_n dX12_inWay_50 rfl rfl ?_
      refine q_iload_n dX12_inWay_51 rfl rfl ?_
      refine q_iload_n dX12_inWay_52 rfl rfl ?_
      refine q_iload_n dX12_inWay_53 rfl rfl ?_
      refine q_iload dX12_inWay_54 rfl rfl ?_
      obtain ⟨q2695, h2696, h⟩ := Option.bind_eq_some_iff.mp h
      refine q_callVv (as := [qi a1, qi a2, qi a3, qi a4]) (c := 70) dX12_inWay_56 ml_X12_383 rfl rfl (hL 70 (by decide)) sh_70 rfl rfl (Nat.le_of_ble_eq_true rfl) (M_lay_ok hL d a1 a2 a3 a4 _ _ h2696) rfl ?_
      refine q_aload_n dX12_inWay_59 rfl rfl ?_
      refine q_iload_n dX12_inWay_60 rfl rfl ?_
      obtain ⟨q2697, h2698, h⟩ := Option.bind_eq_some_iff.mp h
      refine q_callVi (as := [qi a1]) (c := 70) dX12_inWay_61 ml_X12_370 rfl rfl (hL 70 (by decide)) sh_70 rfl rfl (Nat.le_of_ble_eq_true rfl) (M_waysOf_ok hL d a1 _ _ h2698) rfl ?_
      refine q_istore (lv' := [(8, qi q2697.1), (7, qi (q2689.2 80 (Int.toNat a1))), (6, qi (q2689.2 79 (Int.toNat a1))), (5, qi (q2689.2 78 (Int.toNat a1))), (0, qr 70), (1, qi a1), (2, qi a2), (3, qi a3), (4, qi a4)]) dX12_inWay_64 (by decide) rfl rfl ?_
      refine q_aload_n dX12_inWay_66 rfl rfl ?_
      refine q_iload_n dX12_inWay_67 rfl rfl ?_
      refine q_iload dX12_inWay_68 rfl rfl ?_
      refine q_iload dX12_inWay_70 rfl rfl ?_
      refine q_iload dX12_inWay_72 rfl rfl ?_
      obtain ⟨q2699, h2700, h⟩ := Option.bind_eq_some_iff.mp h
      refine q_callVv (as := [qi a1, qi (q2689.2 78 (Int.toNat a1)), qi (q2689.2 79 (Int.toNat a1)), qi (q2689.2 80 (Int.toNat a1))]) (c := 70) dX12_inWay_74 ml_X12_383 rfl rfl (hL 70 (by decide)) sh_70 rfl rfl (Nat.le_of_ble_eq_true rfl) (M_lay_ok hL d a1 (q2689.2 78 (Int.toNat a1)) (q2689.2 79 (Int.toNat a1)) (q2689.2 80 (Int.toNat a1)) _ _ h2700) rfl ?_
      refine q_iload dX12_inWay_77 rfl rfl ?_
      cases h
      exact q_ireturn dX12_inWay_79 rfl hQ
    · rw [if_neg (show ¬ (q2689.1 ≤ 0) from g)] at h
      refine q_iconst dX12_inWay_24 rfl rfl ?_
      cases h
      exact q_ireturn dX12_inWay_25 rfl hQ
  · rw [if_pos (show q2684.1 = 0 from g)] at h
    refine q_iconst dX12_inWay_8 rfl rfl ?_
    cases h
    exact q_ireturn dX12_inWay_9 rfl hQ
set_option maxRecDepth 20000 in
theorem M_layTens_L2_ok {X : qX} (hL : ∀ c, c < 93 → c ∈ qLs X) (d : Nat) {Q : Option qV → qSto → Prop} : ∀ (n : Nat) (x1 : Int) (x2 : Int) (S : qSto) (o : qSto), M_layTens_L2 n x1 x2 S = some o → (qW X (d + 1) yX12_layTens cX12_layTens 3 none 55 [] [] o Q) → qW X (d + 1) yX12_layTens cX12_layTens 3 none 2 [(0, qr 70), (1, qi x1), (2, qi x2)] [] S Q := by
  intro n
  induction n with
  | zero =>
    intro x1 x2 S o h
    simp [M_layTens_L2] at h
  | succ n ih =>
    intro x1 x2 S o h hE
    rw [M_layTens_L2] at h
    refine q_bipush dX12_layTens_2 (by decide) rfl ?_
    refine q_iload_n dX12_layTens_4 rfl rfl ?_
    refine q_imul dX12_layTens_5 rfl ?_
    refine q_aload_n dX12_layTens_6 rfl rfl ?_
    refine q_iload_n dX12_layTens_7 rfl rfl ?_
    refine q_iconst dX12_layTens_8 rfl rfl ?_
    obtain ⟨q2723, h2724, h⟩ := Option.bind_eq_some_iff.mp h
    refine q_callVi (as := [qi x1, qi 0]) (c := 70) dX12_layTens_9 ml_X12_316 rfl rfl (hL 70 (by decide)) sh_70 rfl rfl (Nat.le_of_ble_eq_true rfl) (M_of_ok hL d x1 0 _ _ h2724) rfl ?_
    refine q_iadd dX12_layTens_12 rfl ?_
    refine q_aload_n dX12_layTens_13 rfl rfl ?_
    refine q_getA dX12_layTens_14 fl_X12_13 (hL 70 (by decide)) sh_70 (by decide) rfl rfl ?_
    refine q_iconst dX12_layTens_17 rfl rfl ?_
    refine q_iaload dX12_layTens_18 (hL 72 (by decide)) sh_72 (by decide) (by decide) rfl ?_
    obtain ⟨c2725, h⟩ := qk_some h
    obtain ⟨c2726, h⟩ := qk_some h
    refine q_icmp_gt (tgt := 55) dX12_layTens_19 (by decide) rfl (qRb_R c2725) (qRb_R c2726) (fun g => ?_) (fun g => ?_)
    · rw [if_pos (show (q2723.2 72 0) < ((10 * x2) + q2723.1) from g)] at h
      cases h
      exact q_pick [] rfl (hE)
    · rw [if_neg (show ¬ ((q2723.2 72 0) < ((10 * x2) + q2723.1)) from g)] at h
      refine q_aload_n dX12_layTens_22 rfl rfl ?_
      refine q_getA dX12_layTens_23 fl_X12_54 (hL 70 (by decide)) sh_70 (by decide) rfl rfl ?_
      refine q_iload_n dX12_layTens_26 rfl rfl ?_
      refine q_aload_n dX12_layTens_27 rfl rfl ?_
      refine q_bipush dX12_layTens_28 (by decide) rfl ?_
      refine q_iload_n dX12_layTens_30 rfl rfl ?_
      refine q_imul dX12_layTens_31 rfl ?_
      refine q_bipush dX12_layTens_32 (by decide) rfl ?_
      refine q_iload_n dX12_layTens_34 rfl rfl ?_
      refine q_imul dX12_layTens_35 rfl ?_
      refine q_aload_n dX12_layTens_36 rfl rfl ?_
      refine q_iload_n dX12_layTens_37 rfl rfl ?_
      refine q_iconst dX12_layTens_38 rfl rfl ?_
      obtain ⟨q2727, h2728, h⟩ := Option.bind_eq_some_iff.mp h
      refine q_callVi (as := [qi x1, qi 0]) (c := 70) dX12_layTens_39 ml_X12_316 rfl rfl (hL 70 (by decide)) sh_70 rfl rfl (Nat.le_of_ble_eq_true rfl) (M_of_ok hL d x1 0 _ _ h2728) rfl ?_
      refine q_iadd dX12_layTens_42 rfl ?_
      refine q_iconst dX12_layTens_43 rfl rfl ?_
      refine q_isub dX12_layTens_44 rfl ?_
      obtain ⟨q2729, h2730, h⟩ := Option.bind_eq_some_iff.mp h
      refine q_callVi (as := [qi (10 * x2), qi (((10 * x2) + q2727.1) - 1)]) (c := 70) dX12_layTens_45 ml_X12_280 rfl rfl (hL 70 (by decide)) sh_70 rfl rfl (Nat.le_of_ble_eq_true rfl) (M_leastDepth_ok hL d (10 * x2) (((10 * x2) + q2727.1) - 1) _ _ h2730) rfl ?_
      obtain ⟨c2731, h⟩ := qk_some h
      refine q_iastore dX12_layTens_48 (hL 84 (by decide)) sh_84 (qIx_0 c2731) (qIx_1 c2731) rfl ?_
      refine q_iinc (lv' := [(2, qi (x2 + 1)), (0, qr 70), (1, qi x1)]) dX12_layTens_49 (by decide) rfl rfl rfl ?_
      refine q_goto (pc' := 2) dX12_layTens_52 (by decide) ?_
      exact q_pick [1, 2, 0] rfl (ih x1 (x2 + 1) _ _ h hE)
set_option maxRecDepth 20000 in
theorem M_layTens_ok {X : qX} (hL : ∀ c, c < 93 → c ∈ qLs X) (d : Nat) (a1 : Int) (S : qSto) (o : qSto) (h : M_layTens a1 S = some o) (Q : Option qV → qSto → Prop) (hQ : Q none o) : qC X (d + 1) yX12_layTens cX12_layTens 3 none [qr 70, qi a1] S Q := by
  refine q_entry (lv := [(0, qr 70), (1, qi a1)]) pn_X12 (Nat.le_of_ble_eq_true rfl) rfl ?_
  unfold M_layTens at h
  refine q_iconst dX12_layTens_0 rfl rfl ?_
  refine q_istore_n (lv' := [(2, qi 0), (0, qr 70), (1, qi a1)]) dX12_layTens_1 (by decide) rfl rfl ?_
  obtain ⟨q2732, h2733, h⟩ := Option.bind_eq_some_iff.mp h
  refine q_pick [1, 2, 0] rfl (M_layTens_L2_ok hL d qF a1 0 _ _ h2733 ?_)
  cases h
  exact q_return dX12_layTens_55 rfl hQ
set_option maxRecDepth 20000 in
theorem M_fitsAt_L18_ok {X : qX} (hL : ∀ c, c < 93 → c ∈ qLs X) (d : Nat) {Q : Option qV → qSto → Prop} : ∀ (n : Nat) (x1 : Int) (x2 : Int) (x3 : Int) (S : qSto) (o : (qSto ⊕ (Int × qSto))), M_fitsAt_L18 n x1 x2 x3 S = some o → (∀ t, o = Sum.inl t → qW X (d + 5) yX12_fitsAt cX12_fitsAt 4 (some .boolean) 102 [] [] t Q) → (∀ w, o = Sum.inr w → Q (some (qi w.1)) w.2) → qW X (d + 5) yX12_fitsAt cX12_fitsAt 4 (some .boolean) 18 [(0, qr 70), (1, qi x1), (2, qi x2), (3, qi x3)] [] S Q := by
  intro n
  induction n with
  | zero =>
    intro x1 x2 x3 S o h
    simp [M_fitsAt_L18] at h
  | succ n ih =>
    intro x1 x2 x3 S o h hE hR
    rw [M_fitsAt_L18] at h
    refine q_bipush dX12_fitsAt_18 (by decide) rfl ?_
    refine q_iload_n dX12_fitsAt_20 rfl rfl ?_
    refine q_imul dX12_fitsAt_21 rfl ?_
    refine q_aload_n dX12_fitsAt_22 rfl rfl ?_
    refine q_iload_n dX12_fitsAt_23 rfl rfl ?_
    refine q_iconst dX12_fitsAt_24 rfl rfl ?_
    obtain ⟨q2755, h2756, h⟩ := Option.bind_eq_some_iff.mp h
    refine q_callVi (as := [qi x1, qi 0]) (c := 70) dX12_fitsAt_25 ml_X12_316 rfl rfl (hL 70 (by decide)) sh_70 rfl rfl (Nat.le_of_ble_eq_true rfl) (M_of_ok hL (d + 4) x1 0 _ _ h2756) rfl ?_
    refine q_iadd dX12_fitsAt_28 rfl ?_
    refine q_aload_n dX12_fitsAt_29 rfl rfl ?_
    refine q_getA dX12_fitsAt_30 fl_X12_13 (hL 70 (by decide)) sh_70 (by decide) rfl rfl ?_
    refine q_iconst dX12_fitsAt_33 rfl rfl ?_
    refine q_iaload dX12_fitsAt_34 (hL 72 (by decide)) sh_72 (by decide) (by decide) rfl ?_
    obtain ⟨c2757, h⟩ := qk_some h
    obtain ⟨c2758, h⟩ := qk_some h
    refine q_icmp_gt (tgt := 102) dX12_fitsAt_35 (by decide) rfl (qRb_R c2757) (qRb_R c2758) (fun g => ?_) (fun g => ?_)
    · rw [if_pos (show (q2755.2 72 0) < ((10 * x3) + q2755.1) from g)] at h
      cases h
      exact q_pick [] rfl (hE _ rfl)
    · rw [if_neg (show ¬ ((q2755.2 72 0) < ((10 * x3) + q2755.1)) from g)] at h
      refine q_aload_n dX12_fitsAt_38 rfl rfl ?_
      refine q_getA dX12_fitsAt_39 fl_X12_54 (hL 70 (by decide)) sh_70 (by decide) rfl rfl ?_
      refine q_iload_n dX12_fitsAt_42 rfl rfl ?_
      obtain ⟨c2759, h⟩ := qk_some h
      refine q_iaload dX12_fitsAt_43 (hL 84 (by decide)) sh_84 (qIx_0 c2759) (qIx_1 c2759) rfl ?_
      refine q_iload_n dX12_fitsAt_44 rfl rfl ?_
      refine q_iadd dX12_fitsAt_45 rfl ?_
      refine q_aload_n dX12_fitsAt_46 rfl rfl ?_
      refine q_iload_n dX12_fitsAt_47 rfl rfl ?_
      obtain ⟨q2760, h2761, h⟩ := Option.bind_eq_some_iff.mp h
      refine q_callVi (as := [qi x1]) (c := 70) dX12_fitsAt_48 ml_X12_367 rfl rfl (hL 70 (by decide)) sh_70 rfl rfl (Nat.le_of_ble_eq_true rfl) (M_needOf_ok hL (d + 3) x1 _ _ h2761) rfl ?_
      obtain ⟨c2762, h⟩ := qk_some h
      obtain ⟨c2763, h⟩ := qk_some h
      refine q_icmp_ge (tgt := 57) dX12_fitsAt_51 (by decide) rfl (qRb_R c2762) (qRb_R c2763) (fun g => ?_) (fun g => ?_)
      · rw [if_pos (show q2760.1 ≤ ((q2755.2 84 (Int.toNat x3)) + x2) from g)] at h
        refine q_aload_n dX12_fitsAt_57 rfl rfl ?_
        refine q_getA dX12_fitsAt_58 fl_X12_36 (hL 70 (by decide)) sh_70 (by decide) rfl rfl ?_
        refine q_iload_n dX12_fitsAt_61 rfl rfl ?_
        refine q_bipush dX12_fitsAt_62 (by decide) rfl ?_
        refine q_iload_n dX12_fitsAt_64 rfl rfl ?_
        refine q_imul dX12_fitsAt_65 rfl ?_
        obtain ⟨c2764, h⟩ := qk_some h
        refine q_iastore dX12_fitsAt_66 (hL 78 (by decide)) sh_78 (qIx_0 c2764) (qIx_1 c2764) rfl ?_
        refine q_aload_n dX12_fitsAt_67 rfl rfl ?_
        refine q_iload_n dX12_fitsAt_68 rfl rfl ?_
        obtain ⟨q2765, h2766, h⟩ := Option.bind_eq_some_iff.mp h
        refine q_callVi (as := [qi x1]) (c := 70) dX12_fitsAt_69 ml_X12_370 rfl rfl (hL 70 (by decide)) sh_70 rfl rfl (Nat.le_of_ble_eq_true rfl) (M_waysOf_ok hL (d + 1) x1 _ _ h2766) rfl ?_
        obtain ⟨c2767, h⟩ := qk_some h
        refine q_if_ne (tgt := 96) dX12_fitsAt_72 (by decide) rfl (qRb_R c2767)  (fun g => ?_) (fun g => ?_)
        · rw [if_neg (show ¬ (q2765.1 = 0) from g)] at h
          refine q_iinc (lv' := [(3, qi (x3 + 1)), (0, qr 70), (1, qi x1), (2, qi x2)]) dX12_fitsAt_96 (by decide) rfl rfl rfl ?_
          refine q_goto (pc' := 18) dX12_fitsAt_99 (by decide) ?_
          exact q_pick [1, 2, 3, 0] rfl (ih x1 x2 (x3 + 1) _ _ h hE hR)
        · rw [if_pos (show q2765.1 = 0 from g)] at h
          refine q_aload_n dX12_fitsAt_75 rfl rfl ?_
          refine q_iload_n dX12_fitsAt_76 rfl rfl ?_
          obtain ⟨q2768, h2769, h⟩ := Option.bind_eq_some_iff.mp h
          refine q_callVi (as := [qi x1]) (c := 70) dX12_fitsAt_77 ml_X12_376 rfl rfl (hL 70 (by decide)) sh_70 rfl rfl (Nat.le_of_ble_eq_true rfl) (M_hasCranes_ok hL d x1 _ _ h2769) rfl ?_
          obtain ⟨c2770, h⟩ := qk_some h
          refine q_if_ne (tgt := 86) dX12_fitsAt_80 (by decide) rfl (qRb_R c2770)  (fun g => ?_) (fun g => ?_)
          · rw [if_neg (show ¬ (q2768.1 = 0) from g)] at h
            refine q_aload_n dX12_fitsAt_86 rfl rfl ?_
            refine q_bipush dX12_fitsAt_87 (by decide) rfl ?_
            refine q_iload_n dX12_fitsAt_89 rfl rfl ?_
            refine q_imul dX12_fitsAt_90 rfl ?_
            refine q_putI dX12_fitsAt_91 fl_X12_393 (hL 70 (by decide)) sh_70 (by decide) pf_12_28 pt_12_28 rfl rfl ?_
            refine q_iconst dX12_fitsAt_94 rfl rfl ?_
            cases h
            exact q_zreturn dX12_fitsAt_95 rfl (by decide) (hR _ rfl)
          · rw [if_pos (show q2768.1 = 0 from g)] at h
            refine q_goto (pc' := 96) dX12_fitsAt_83 (by decide) ?_
            refine q_iinc (lv' := [(3, qi (x3 + 1)), (0, qr 70), (1, qi x1), (2, qi x2)]) dX12_fitsAt_96 (by decide) rfl rfl rfl ?_
            refine q_goto (pc' := 18) dX12_fitsAt_99 (by decide) ?_
            exact q_pick [1, 2, 3, 0] rfl (ih x1 x2 (x3 + 1) _ _ h hE hR)
      · rw [if_neg (show ¬ (q2760.1 ≤ ((q2755.2 84 (Int.toNat x3)) + x2)) from g)] at h
        refine q_goto (pc' := 96) dX12_fitsAt_54 (by decide) ?_
        refine q_iinc (lv' := [(3, qi (x3 + 1)), (0, qr 70), (1, qi x1), (2, qi x2)]) dX12_fitsAt_96 (by decide) rfl rfl rfl ?_
        refine q_goto (pc' := 18) dX12_fitsAt_99 (by decide) ?_
        exact q_pick [1, 2, 3, 0] rfl (ih x1 x2 (x3 + 1) _ _ h hE hR)
set_option maxRecDepth 20000 in
theorem M_fitsAt_ok {X : qX} (hL : ∀ c, c < 93 → c ∈ qLs X) (d : Nat) (a1 : Int) (S : qSto) (o : (Int × qSto)) (h : M_fitsAt a1 S = some o) (Q : Option qV → qSto → Prop) (hQ : Q (some (qi o.1)) o.2) : qC X (d + 5) yX12_fitsAt cX12_fitsAt 4 (some .boolean) [qr 70, qi a1] S Q := by
  refine q_entry (lv := [(0, qr 70), (1, qi a1)]) pn_X12 (Nat.le_of_ble_eq_true rfl) rfl ?_
  unfold M_fitsAt at h
  refine q_aload_n dX12_fitsAt_0 rfl rfl ?_
  refine q_iload_n dX12_fitsAt_1 rfl rfl ?_
  obtain ⟨q2750, h2751, h⟩ := Option.bind_eq_some_iff.mp h
  refine q_callVi (as := [qi a1]) (c := 70) dX12_fitsAt_2 ml_X12_373 rfl rfl (hL 70 (by decide)) sh_70 rfl rfl (Nat.le_of_ble_eq_true rfl) (M_hasGangs_ok hL (d + 1) a1 _ _ h2751) rfl ?_
  obtain ⟨c2752, h⟩ := qk_some h
  refine q_if_ne (tgt := 10) dX12_fitsAt_5 (by decide) rfl (qRb_R c2752)  (fun g => ?_) (fun g => ?_)
  · rw [if_neg (show ¬ (q2750.1 = 0) from g)] at h
    refine q_aload_n dX12_fitsAt_10 rfl rfl ?_
    refine q_iload_n dX12_fitsAt_11 rfl rfl ?_
    obtain ⟨q2753, h2754, h⟩ := Option.bind_eq_some_iff.mp h
    refine q_callVi (as := [qi a1]) (c := 70) dX12_fitsAt_12 ml_X12_364 rfl rfl (hL 70 (by decide)) sh_70 rfl rfl (Nat.le_of_ble_eq_true rfl) (M_lowestIn_ok hL (d + 4) a1 _ _ h2754) rfl ?_
    refine q_istore_n (lv' := [(2, qi q2753.1), (0, qr 70), (1, qi a1)]) dX12_fitsAt_15 (by decide) rfl rfl ?_
    refine q_iconst dX12_fitsAt_16 rfl rfl ?_
    refine q_istore_n (lv' := [(3, qi 0), (2, qi q2753.1), (0, qr 70), (1, qi a1)]) dX12_fitsAt_17 (by decide) rfl rfl ?_
    obtain ⟨q2771, h2772, h⟩ := Option.bind_eq_some_iff.mp h
    refine q_pick [2, 3, 1, 0] rfl (M_fitsAt_L18_ok hL d qF a1 q2753.1 0 _ _ h2772 (fun t2773 e3906 => ?_) (fun w e3906 => ?_))
    · subst e3906
      simp only [Sum.elim_inl] at h
      refine q_iconst dX12_fitsAt_102 rfl rfl ?_
      cases h
      exact q_zreturn dX12_fitsAt_103 rfl (by decide) hQ
    · subst e3906
      simp only [Sum.elim_inr] at h
      cases h
      exact hQ
  · rw [if_pos (show q2750.1 = 0 from g)] at h
    refine q_iconst dX12_fitsAt_8 rfl rfl ?_
    cases h
    exact q_zreturn dX12_fitsAt_9 rfl (by decide) hQ
set_option maxRecDepth 20000 in
theorem M_seeks_L63_ok {X : qX} (hL : ∀ c, c < 93 → c ∈ qLs X) (d : Nat) {Q : Option qV → qSto → Prop} : ∀ (n : Nat) (x1 : Int) (x2 : Int) (x3 : Int) (x4 : Int) (x5 : Int) (x6 : Int) (x7 : Int) (S : qSto) (o : (Int × qSto)), M_seeks_L63 n x1 x2 x6 x7 S = some o → (qW X (d + 6) yX12_seeks cX12_seeks 8 (some .boolean) 134 [(0, qr 70), (1, qi x1), (3, qi x3), (4, qi x4), (5, qi x5), (6, qi o.1)] [] o.2 Q) → qW X (d + 6) yX12_seeks cX12_seeks 8 (some .boolean) 63 [(0, qr 70), (1, qi x1), (2, qi x2), (3, qi x3), (4, qi x4), (5, qi x5), (6, qi x6), (7, qi x7)] [] S Q := by
  intro n
  induction n with
  | zero =>
    intro x1 x2 x3 x4 x5 x6 x7 S o h
    simp [M_seeks_L63] at h
  | succ n ih =>
    intro x1 x2 x3 x4 x5 x6 x7 S o h hE
    rw [M_seeks_L63] at h
    refine q_iload dX12_seeks_63 rfl rfl ?_
    refine q_sipush dX12_seeks_65 (by decide) rfl ?_
    obtain ⟨c2738, h⟩ := qk_some h
    refine q_icmp_gt (tgt := 134) dX12_seeks_68 (by decide) rfl (qRb_R c2738) ⟨by decide, by decide⟩ (fun g => ?_) (fun g => ?_)
    · rw [if_pos (show 335 < x7 from g)] at h
      cases h
      exact q_pick [0, 1, 3, 4, 5, 6] rfl (hE)
    · rw [if_neg (show ¬ (335 < x7) from g)] at h
      refine q_iload dX12_seeks_71 rfl rfl ?_
      obtain ⟨c2739, h⟩ := qk_some h
      refine q_if_ne (tgt := 134) dX12_seeks_73 (by decide) rfl (qRb_R c2739)  (fun g => ?_) (fun g => ?_)
      · rw [if_neg (show ¬ (x6 = 0) from g)] at h
        cases h
        exact q_pick [0, 1, 3, 4, 5, 6] rfl (hE)
      · rw [if_pos (show x6 = 0 from g)] at h
        refine q_aload_n dX12_seeks_76 rfl rfl ?_
        refine q_aload_n dX12_seeks_77 rfl rfl ?_
        refine q_iload_n dX12_seeks_78 rfl rfl ?_
        refine q_iconst dX12_seeks_79 rfl rfl ?_
        obtain ⟨q2740, h2741, h⟩ := Option.bind_eq_some_iff.mp h
        refine q_callVi (as := [qi x1, qi 1]) (c := 70) dX12_seeks_80 ml_X12_316 rfl rfl (hL 70 (by decide)) sh_70 rfl rfl (Nat.le_of_ble_eq_true rfl) (M_of_ok hL (d + 5) x1 1 _ _ h2741) rfl ?_
        refine q_iload dX12_seeks_83 rfl rfl ?_
        obtain ⟨q2742, h2743, h⟩ := Option.bind_eq_some_iff.mp h
        refine q_callVi (as := [qi q2740.1, qi x7]) (c := 70) dX12_seeks_85 ml_X12_308 rfl rfl (hL 70 (by decide)) sh_70 rfl rfl (Nat.le_of_ble_eq_true rfl) (M_isOpen_ok hL (d + 5) q2740.1 x7 _ _ h2743) rfl ?_
        refine q_jn (G := fun (t2776 : (Int × qSto)) => qW X (d + 6) yX12_seeks cX12_seeks 8 (some .boolean) 128 [(0, qr 70), (1, qi x1), (2, qi x2), (3, qi x3), (4, qi x4), (5, qi x5), (6, qi t2776.1), (7, qi x7)] [] t2776.2 Q) h (fun t2776 h => ?_) (fun t2776 h hk3907 => ?_)
        · try dsimp only at h
          refine q_iinc (lv' := [(7, qi (x7 + 1)), (0, qr 70), (1, qi x1), (2, qi x2), (3, qi x3), (4, qi x4), (5, qi x5), (6, qi t2776.1)]) dX12_seeks_128 (by decide) rfl rfl rfl ?_
          refine q_goto (pc' := 63) dX12_seeks_131 (by decide) ?_
          exact q_pick [1, 2, 3, 4, 5, 6, 7, 0] rfl (ih x1 x2 x3 x4 x5 t2776.1 (x7 + 1) _ _ h hE)
        · skip
          obtain ⟨c2744, h⟩ := qk_some h
          refine q_if_eq (tgt := 128) dX12_seeks_88 (by decide) rfl (qRb_R c2744)  (fun g => ?_) (fun g => ?_)
          · rw [if_pos (show q2742.1 = 0 from g)] at h
            cases h
            exact q_pick [0, 1, 2, 3, 4, 5, 6, 7] rfl hk3907
          · rw [if_neg (show ¬ (q2742.1 = 0) from g)] at h
            refine q_aload_n dX12_seeks_91 rfl rfl ?_
            refine q_iload_n dX12_seeks_92 rfl rfl ?_
            refine q_iload dX12_seeks_93 rfl rfl ?_
            refine q_iload_n dX12_seeks_95 rfl rfl ?_
            obtain ⟨q2745, h2746, h⟩ := Option.bind_eq_some_iff.mp h
            refine q_callVi (as := [qi x1, qi x7, qi x2]) (c := 70) dX12_seeks_96 ml_X12_322 rfl rfl (hL 70 (by decide)) sh_70 rfl rfl (Nat.le_of_ble_eq_true rfl) (M_leaveBy_ok hL (d + 3) x1 x7 x2 _ _ h2746) rfl ?_
            refine q_iconst dX12_seeks_99 rfl rfl ?_
            obtain ⟨c2747, h⟩ := qk_some h
            refine q_icmp_ne (tgt := 106) dX12_seeks_100 (by decide) rfl (qRb_R c2747) ⟨by decide, by decide⟩ (fun g => ?_) (fun g => ?_)
            · rw [if_neg (show ¬ (q2745.1 = (-1)) from g)] at h
              refine q_aload_n dX12_seeks_106 rfl rfl ?_
              refine q_iload_n dX12_seeks_107 rfl rfl ?_
              refine q_iconst dX12_seeks_108 rfl rfl ?_
              refine q_iload dX12_seeks_109 rfl rfl ?_
              refine q_iload_n dX12_seeks_111 rfl rfl ?_
              obtain ⟨q2748, h2749, h⟩ := Option.bind_eq_some_iff.mp h
              refine q_callVv (as := [qi x1, qi 0, qi x7, qi x2]) (c := 70) dX12_seeks_112 ml_X12_383 rfl rfl (hL 70 (by decide)) sh_70 rfl rfl (Nat.le_of_ble_eq_true rfl) (M_lay_ok hL (d + 2) x1 0 x7 x2 _ _ h2749) rfl ?_
              refine q_aload_n dX12_seeks_115 rfl rfl ?_
              refine q_iload_n dX12_seeks_116 rfl rfl ?_
              obtain ⟨q2774, h2775, h⟩ := Option.bind_eq_some_iff.mp h
              refine q_callVi (as := [qi x1]) (c := 70) dX12_seeks_117 ml_X12_399 rfl rfl (hL 70 (by decide)) sh_70 rfl rfl (Nat.le_of_ble_eq_true rfl) (M_fitsAt_ok hL d x1 _ _ h2775) rfl ?_
              refine q_istore (lv' := [(6, qi q2774.1), (0, qr 70), (1, qi x1), (2, qi x2), (3, qi x3), (4, qi x4), (5, qi x5), (7, qi x7)]) dX12_seeks_120 (by decide) rfl rfl ?_
              refine q_aload_n dX12_seeks_122 rfl rfl ?_
              refine q_iload dX12_seeks_123 rfl rfl ?_
              refine q_putI dX12_seeks_125 fl_X12_402 (hL 70 (by decide)) sh_70 (by decide) pf_12_27 pt_12_27 rfl rfl ?_
              cases h
              exact q_pick [1, 2, 3, 4, 5, 6, 0, 7] rfl hk3907
            · rw [if_pos (show q2745.1 = (-1) from g)] at h
              refine q_goto (pc' := 128) dX12_seeks_103 (by decide) ?_
              cases h
              exact q_pick [0, 1, 2, 3, 4, 5, 6, 7] rfl hk3907
set_option maxRecDepth 20000 in
theorem M_seeks_ok {X : qX} (hL : ∀ c, c < 93 → c ∈ qLs X) (d : Nat) (a1 : Int) (a2 : Int) (S : qSto) (o : (Int × qSto)) (h : M_seeks a1 a2 S = some o) (Q : Option qV → qSto → Prop) (hQ : Q (some (qi o.1)) o.2) : qC X (d + 6) yX12_seeks cX12_seeks 8 (some .boolean) [qr 70, qi a1, qi a2] S Q := by
  refine q_entry (lv := [(0, qr 70), (1, qi a1), (2, qi a2)]) pn_X12 (Nat.le_of_ble_eq_true rfl) rfl ?_
  unfold M_seeks at h
  refine q_iload_n dX12_seeks_0 rfl rfl ?_
  refine q_aload_n dX12_seeks_1 rfl rfl ?_
  refine q_iload_n dX12_seeks_2 rfl rfl ?_
  refine q_bipush dX12_seeks_3 (by decide) rfl ?_
  obtain ⟨q2712, h2713, h⟩ := Option.bind_eq_some_iff.mp h
  refine q_callVi (as := [qi a1, qi 7]) (c := 70) dX12_seeks_5 ml_X12_316 rfl rfl (hL 70 (by decide)) sh_70 rfl rfl (Nat.le_of_ble_eq_true rfl) (M_of_ok hL (d + 5) a1 7 _ _ h2713) rfl ?_
  obtain ⟨c2714, h⟩ := qk_some h
  obtain ⟨c2715, h⟩ := qk_some h
  refine q_icmp_lt (tgt := 22) dX12_seeks_8 (by decide) rfl (qRb_R c2714) (qRb_R c2715) (fun g => ?_) (fun g => ?_)
  · rw [if_pos (show a2 < q2712.1 from g)] at h
    refine q_iconst dX12_seeks_22 rfl rfl ?_
    cases h
    exact q_zreturn dX12_seeks_23 rfl (by decide) hQ
  · rw [if_neg (show ¬ (a2 < q2712.1) from g)] at h
    refine q_iload_n dX12_seeks_11 rfl rfl ?_
    refine q_aload_n dX12_seeks_12 rfl rfl ?_
    refine q_iload_n dX12_seeks_13 rfl rfl ?_
    refine q_bipush dX12_seeks_14 (by decide) rfl ?_
    obtain ⟨q2716, h2717, h⟩ := Option.bind_eq_some_iff.mp h
    refine q_callVi (as := [qi a1, qi 8]) (c := 70) dX12_seeks_16 ml_X12_316 rfl rfl (hL 70 (by decide)) sh_70 rfl rfl (Nat.le_of_ble_eq_true rfl) (M_of_ok hL (d + 5) a1 8 _ _ h2717) rfl ?_
    obtain ⟨c2718, h⟩ := qk_some h
    obtain ⟨c2719, h⟩ := qk_some h
    refine q_icmp_le (tgt := 24) dX12_seeks_19 (by decide) rfl (qRb_R c2718) (qRb_R c2719) (fun g => ?_) (fun g => ?_)
    · rw [if_pos (show a2 ≤ q2716.1 from g)] at h
      refine q_aload_n dX12_seeks_24 rfl rfl ?_
      refine q_getA dX12_seeks_25 fl_X12_36 (hL 70 (by decide)) sh_70 (by decide) rfl rfl ?_
      refine q_iload_n dX12_seeks_28 rfl rfl ?_
      obtain ⟨c2720, h⟩ := qk_some h
      refine q_iaload dX12_seeks_29 (hL 78 (by decide)) sh_78 (qIx_0 c2720) (qIx_1 c2720) rfl ?_
      refine q_istore_n (lv' := [(3, qi (q2716.2 78 (Int.toNat a1))), (0, qr 70), (1, qi a1), (2, qi a2)]) dX12_seeks_30 (by decide) rfl rfl ?_
      refine q_aload_n dX12_seeks_31 rfl rfl ?_
      refine q_getA dX12_seeks_32 fl_X12_39 (hL 70 (by decide)) sh_70 (by decide) rfl rfl ?_
      refine q_iload_n dX12_seeks_35 rfl rfl ?_
      obtain ⟨c2721, h⟩ := qk_some h
      refine q_iaload dX12_seeks_36 (hL 79 (by decide)) sh_79 (qIx_0 c2721) (qIx_1 c2721) rfl ?_
      refine q_istore (lv' := [(4, qi (q2716.2 79 (Int.toNat a1))), (3, qi (q2716.2 78 (Int.toNat a1))), (0, qr 70), (1, qi a1), (2, qi a2)]) dX12_seeks_37 (by decide) rfl rfl ?_
      refine q_aload_n dX12_seeks_39 rfl rfl ?_
      refine q_getA dX12_seeks_40 fl_X12_42 (hL 70 (by decide)) sh_70 (by decide) rfl rfl ?_
      refine q_iload_n dX12_seeks_43 rfl rfl ?_
      obtain ⟨c2722, h⟩ := qk_some h
      refine q_iaload dX12_seeks_44 (hL 80 (by decide)) sh_80 (qIx_0 c2722) (qIx_1 c2722) rfl ?_
      refine q_istore (lv' := [(5, qi (q2716.2 80 (Int.toNat a1))), (4, qi (q2716.2 79 (Int.toNat a1))), (3, qi (q2716.2 78 (Int.toNat a1))), (0, qr 70), (1, qi a1), (2, qi a2)]) dX12_seeks_45 (by decide) rfl rfl ?_
      refine q_aload_n dX12_seeks_47 rfl rfl ?_
      refine q_iload_n dX12_seeks_48 rfl rfl ?_
      obtain ⟨q2734, h2735, h⟩ := Option.bind_eq_some_iff.mp h
      refine q_callVv (as := [qi a1]) (c := 70) dX12_seeks_49 ml_X12_396 rfl rfl (hL 70 (by decide)) sh_70 rfl rfl (Nat.le_of_ble_eq_true rfl) (M_layTens_ok hL (d + 4) a1 _ _ h2735) rfl ?_
      refine q_iconst dX12_seeks_52 rfl rfl ?_
      refine q_istore (lv' := [(6, qi 0), (5, qi (q2716.2 80 (Int.toNat a1))), (4, qi (q2716.2 79 (Int.toNat a1))), (3, qi (q2716.2 78 (Int.toNat a1))), (0, qr 70), (1, qi a1), (2, qi a2)]) dX12_seeks_53 (by decide) rfl rfl ?_
      refine q_aload_n dX12_seeks_55 rfl rfl ?_
      refine q_iload_n dX12_seeks_56 rfl rfl ?_
      refine q_iconst dX12_seeks_57 rfl rfl ?_
      obtain ⟨q2736, h2737, h⟩ := Option.bind_eq_some_iff.mp h
      refine q_callVi (as := [qi a1, qi 4]) (c := 70) dX12_seeks_58 ml_X12_316 rfl rfl (hL 70 (by decide)) sh_70 rfl rfl (Nat.le_of_ble_eq_true rfl) (M_of_ok hL (d + 5) a1 4 _ _ h2737) rfl ?_
      refine q_istore (lv' := [(7, qi q2736.1), (6, qi 0), (5, qi (q2716.2 80 (Int.toNat a1))), (4, qi (q2716.2 79 (Int.toNat a1))), (3, qi (q2716.2 78 (Int.toNat a1))), (0, qr 70), (1, qi a1), (2, qi a2)]) dX12_seeks_61 (by decide) rfl rfl ?_
      obtain ⟨q2777, h2778, h⟩ := Option.bind_eq_some_iff.mp h
      refine q_pick [5, 6, 7, 4, 3, 2, 1, 0] rfl (M_seeks_L63_ok hL d qF a1 a2 (q2716.2 78 (Int.toNat a1)) (q2716.2 79 (Int.toNat a1)) (q2716.2 80 (Int.toNat a1)) 0 q2736.1 _ _ h2778 ?_)
      refine q_aload_n dX12_seeks_134 rfl rfl ?_
      refine q_iload_n dX12_seeks_135 rfl rfl ?_
      refine q_iload_n dX12_seeks_136 rfl rfl ?_
      refine q_iload dX12_seeks_137 rfl rfl ?_
      refine q_iload dX12_seeks_139 rfl rfl ?_
      obtain ⟨q2779, h2780, h⟩ := Option.bind_eq_some_iff.mp h
      refine q_callVv (as := [qi a1, qi (q2716.2 78 (Int.toNat a1)), qi (q2716.2 79 (Int.toNat a1)), qi (q2716.2 80 (Int.toNat a1))]) (c := 70) dX12_seeks_141 ml_X12_383 rfl rfl (hL 70 (by decide)) sh_70 rfl rfl (Nat.le_of_ble_eq_true rfl) (M_lay_ok hL (d + 2) a1 (q2716.2 78 (Int.toNat a1)) (q2716.2 79 (Int.toNat a1)) (q2716.2 80 (Int.toNat a1)) _ _ h2780) rfl ?_
      refine q_iload dX12_seeks_144 rfl rfl ?_
      obtain ⟨c2781, h⟩ := qk_some h
      cases h
      exact q_zreturn dX12_seeks_146 rfl (qZb_Z c2781) hQ
    · rw [if_neg (show ¬ (a2 ≤ q2716.1) from g)] at h
      refine q_iconst dX12_seeks_22 rfl rfl ?_
      cases h
      exact q_zreturn dX12_seeks_23 rfl (by decide) hQ
set_option maxRecDepth 20000 in
theorem M_earliest_ok {X : qX} (hL : ∀ c, c < 93 → c ∈ qLs X) (d : Nat) (a1 : Int) (a2 : Int) (a3 : Int) (S : qSto) (o : (Int × qSto)) (h : M_earliest a1 a2 a3 S = some o) (Q : Option qV → qSto → Prop) (hQ : Q (some (qi o.1)) o.2) : qC X (d + 7) yX12_earliest cX12_earliest 4 (some .int) [qr 70, qi a1, qi a2, qi a3] S Q := by
  refine q_entry (lv := [(0, qr 70), (1, qi a1), (2, qi a2), (3, qi a3)]) pn_X12 (Nat.le_of_ble_eq_true rfl) rfl ?_
  unfold M_earliest at h
  refine q_aload_n dX12_earliest_0 rfl rfl ?_
  refine q_iload_n dX12_earliest_1 rfl rfl ?_
  obtain ⟨q2701, h2702, h⟩ := Option.bind_eq_some_iff.mp h
  refine q_callVi (as := [qi a1]) (c := 70) dX12_earliest_2 ml_X12_297 rfl rfl (hL 70 (by decide)) sh_70 rfl rfl (Nat.le_of_ble_eq_true rfl) (M_isShip_ok hL (d + 5) a1 _ _ h2702) rfl ?_
  obtain ⟨c2703, h⟩ := qk_some h
  refine q_if_eq (tgt := 32) dX12_earliest_5 (by decide) rfl (qRb_R c2703)  (fun g => ?_) (fun g => ?_)
  · rw [if_pos (show q2701.1 = 0 from g)] at h
    refine q_iconst dX12_earliest_32 rfl rfl ?_
    cases h
    exact q_ireturn dX12_earliest_33 rfl hQ
  · rw [if_neg (show ¬ (q2701.1 = 0) from g)] at h
    refine q_iload_n dX12_earliest_8 rfl rfl ?_
    obtain ⟨c2704, h⟩ := qk_some h
    refine q_i2l dX12_earliest_9 (qRb_R c2704) rfl ?_
    refine q_lconst (v := 1) dX12_earliest_10 rfl rfl ?_
    refine q_ldc2 (v := 8) dX12_earliest_11 qw_1683 rfl ?_
    obtain ⟨q2705, h2706, h⟩ := Option.bind_eq_some_iff.mp h
    refine q_callSi (as := [ql a2, ql 1, ql 8]) dX12_earliest_14 ml_X12_99 rfl rfl (Nat.le_of_ble_eq_true rfl) (M_in_ok hL (d + 6) a2 1 8 _ _ h2706) rfl ?_
    obtain ⟨c2707, h⟩ := qk_some h
    refine q_if_eq (tgt := 32) dX12_earliest_17 (by decide) rfl (qRb_R c2707)  (fun g => ?_) (fun g => ?_)
    · rw [if_pos (show q2705.1 = 0 from g)] at h
      refine q_iconst dX12_earliest_32 rfl rfl ?_
      cases h
      exact q_ireturn dX12_earliest_33 rfl hQ
    · rw [if_neg (show ¬ (q2705.1 = 0) from g)] at h
      refine q_iload_n dX12_earliest_20 rfl rfl ?_
      obtain ⟨c2708, h⟩ := qk_some h
      refine q_i2l dX12_earliest_21 (qRb_R c2708) rfl ?_
      refine q_lconst (v := 0) dX12_earliest_22 rfl rfl ?_
      refine q_ldc2 (v := 2) dX12_earliest_23 qw_1670 rfl ?_
      obtain ⟨q2709, h2710, h⟩ := Option.bind_eq_some_iff.mp h
      refine q_callSi (as := [ql a3, ql 0, ql 2]) dX12_earliest_26 ml_X12_99 rfl rfl (Nat.le_of_ble_eq_true rfl) (M_in_ok hL (d + 6) a3 0 2 _ _ h2710) rfl ?_
      obtain ⟨c2711, h⟩ := qk_some h
      refine q_if_ne (tgt := 34) dX12_earliest_29 (by decide) rfl (qRb_R c2711)  (fun g => ?_) (fun g => ?_)
      · rw [if_neg (show ¬ (q2709.1 = 0) from g)] at h
        refine q_aload_n dX12_earliest_34 rfl rfl ?_
        refine q_iload_n dX12_earliest_35 rfl rfl ?_
        refine q_iload_n dX12_earliest_36 rfl rfl ?_
        obtain ⟨q2782, h2783, h⟩ := Option.bind_eq_some_iff.mp h
        refine q_callVi (as := [qi a1, qi a2]) (c := 70) dX12_earliest_37 ml_X12_405 rfl rfl (hL 70 (by decide)) sh_70 rfl rfl (Nat.le_of_ble_eq_true rfl) (M_seeks_ok hL d a1 a2 _ _ h2783) rfl ?_
        obtain ⟨c2784, h⟩ := qk_some h
        refine q_if_ne (tgt := 46) dX12_earliest_40 (by decide) rfl (qRb_R c2784)  (fun g => ?_) (fun g => ?_)
        · rw [if_neg (show ¬ (q2782.1 = 0) from g)] at h
          refine q_iload_n dX12_earliest_46 rfl rfl ?_
          obtain ⟨c2785, h⟩ := qk_some h
          refine q_if_ne (tgt := 57) dX12_earliest_47 (by decide) rfl (qRb_R c2785)  (fun g => ?_) (fun g => ?_)
          · rw [if_neg (show ¬ (a3 = 0) from g)] at h
            refine q_iload_n dX12_earliest_57 rfl rfl ?_
            refine q_iconst dX12_earliest_58 rfl rfl ?_
            obtain ⟨c2786, h⟩ := qk_some h
            refine q_icmp_ne (tgt := 69) dX12_earliest_59 (by decide) rfl (qRb_R c2786) ⟨by decide, by decide⟩ (fun g => ?_) (fun g => ?_)
            · rw [if_neg (show ¬ (a3 = 1) from g)] at h
              refine q_aload_n dX12_earliest_69 rfl rfl ?_
              refine q_iload_n dX12_earliest_70 rfl rfl ?_
              refine q_aload_n dX12_earliest_71 rfl rfl ?_
              refine q_getI dX12_earliest_72 fl_X12_402 (hL 70 (by decide)) sh_70 (by decide) rfl rfl ?_
              refine q_iload_n dX12_earliest_75 rfl rfl ?_
              obtain ⟨q2787, h2788, h⟩ := Option.bind_eq_some_iff.mp h
              refine q_callVi (as := [qi a1, qi (q2782.2 70 27), qi a2]) (c := 70) dX12_earliest_76 ml_X12_322 rfl rfl (hL 70 (by decide)) sh_70 rfl rfl (Nat.le_of_ble_eq_true rfl) (M_leaveBy_ok hL (d + 4) a1 (q2782.2 70 27) a2 _ _ h2788) rfl ?_
              cases h
              exact q_ireturn dX12_earliest_79 rfl hQ
            · rw [if_pos (show a3 = 1 from g)] at h
              refine q_aload_n dX12_earliest_62 rfl rfl ?_
              refine q_getI dX12_earliest_63 fl_X12_393 (hL 70 (by decide)) sh_70 (by decide) rfl rfl ?_
              refine q_goto (pc' := 79) dX12_earliest_66 (by decide) ?_
              cases h
              exact q_ireturn dX12_earliest_79 rfl hQ
          · rw [if_pos (show a3 = 0 from g)] at h
            refine q_aload_n dX12_earliest_50 rfl rfl ?_
            refine q_getI dX12_earliest_51 fl_X12_402 (hL 70 (by decide)) sh_70 (by decide) rfl rfl ?_
            refine q_goto (pc' := 79) dX12_earliest_54 (by decide) ?_
            cases h
            exact q_ireturn dX12_earliest_79 rfl hQ
        · rw [if_pos (show q2782.1 = 0 from g)] at h
          refine q_bipush dX12_earliest_43 (by decide) rfl ?_
          cases h
          exact q_ireturn dX12_earliest_45 rfl hQ
      · rw [if_pos (show q2709.1 = 0 from g)] at h
        refine q_iconst dX12_earliest_32 rfl rfl ?_
        cases h
        exact q_ireturn dX12_earliest_33 rfl hQ
set_option maxRecDepth 20000 in
theorem M_puts_L7_ok {X : qX} (hL : ∀ c, c < 93 → c ∈ qLs X) (d : Nat) {Q : Option qV → qSto → Prop} : ∀ (n : Nat) (x2 : Int) (x3 : Int) (S : qSto) (o : qSto), M_puts_L7 n x2 x3 S = some o → (qW X d yX12_puts cX12_puts 4 none 71 [] [] o Q) → qW X d yX12_puts cX12_puts 4 none 7 [(0, qr 70), (2, qi x2), (3, qi x3)] [] S Q := by
  intro n
  induction n with
  | zero =>
    intro x2 x3 S o h
    simp [M_puts_L7] at h
  | succ n ih =>
    intro x2 x3 S o h hE
    rw [M_puts_L7] at h
    refine q_iload_n dX12_puts_7 rfl rfl ?_
    refine q_bipush dX12_puts_8 (by decide) rfl ?_
    obtain ⟨c2800, h⟩ := qk_some h
    refine q_icmp_ge (tgt := 71) dX12_puts_10 (by decide) rfl (qRb_R c2800) ⟨by decide, by decide⟩ (fun g => ?_) (fun g => ?_)
    · rw [if_pos (show 14 ≤ x3 from g)] at h
      cases h
      exact q_pick [] rfl (hE)
    · rw [if_neg (show ¬ (14 ≤ x3) from g)] at h
      refine q_aload_n dX12_puts_13 rfl rfl ?_
      refine q_getA dX12_puts_14 fl_X12_57 (hL 70 (by decide)) sh_70 (by decide) rfl rfl ?_
      refine q_iload_n dX12_puts_17 rfl rfl ?_
      refine q_iconst dX12_puts_18 rfl rfl ?_
      refine q_iload_n dX12_puts_19 rfl rfl ?_
      refine q_imul dX12_puts_20 rfl ?_
      refine q_iadd dX12_puts_21 rfl ?_
      refine q_aload_n dX12_puts_22 rfl rfl ?_
      refine q_getA dX12_puts_23 fl_X12_36 (hL 70 (by decide)) sh_70 (by decide) rfl rfl ?_
      refine q_iload_n dX12_puts_26 rfl rfl ?_
      obtain ⟨c2801, h⟩ := qk_some h
      refine q_iaload dX12_puts_27 (hL 78 (by decide)) sh_78 (qIx_0 c2801) (qIx_1 c2801) rfl ?_
      obtain ⟨c2802, h⟩ := qk_some h
      refine q_iastore dX12_puts_28 (hL 85 (by decide)) sh_85 (qIx_0 c2802) (qIx_1 c2802) rfl ?_
      refine q_aload_n dX12_puts_29 rfl rfl ?_
      refine q_getA dX12_puts_30 fl_X12_57 (hL 70 (by decide)) sh_70 (by decide) rfl rfl ?_
      refine q_iload_n dX12_puts_33 rfl rfl ?_
      refine q_iconst dX12_puts_34 rfl rfl ?_
      refine q_iload_n dX12_puts_35 rfl rfl ?_
      refine q_imul dX12_puts_36 rfl ?_
      refine q_iadd dX12_puts_37 rfl ?_
      refine q_iconst dX12_puts_38 rfl rfl ?_
      refine q_iadd dX12_puts_39 rfl ?_
      refine q_aload_n dX12_puts_40 rfl rfl ?_
      refine q_getA dX12_puts_41 fl_X12_39 (hL 70 (by decide)) sh_70 (by decide) rfl rfl ?_
      refine q_iload_n dX12_puts_44 rfl rfl ?_
      obtain ⟨c2803, h⟩ := qk_some h
      refine q_iaload dX12_puts_45 (hL 79 (by decide)) sh_79 (qIx_0 c2803) (qIx_1 c2803) rfl ?_
      obtain ⟨c2804, h⟩ := qk_some h
      refine q_iastore dX12_puts_46 (hL 85 (by decide)) sh_85 (qIx_0 c2804) (qIx_1 c2804) rfl ?_
      refine q_aload_n dX12_puts_47 rfl rfl ?_
      refine q_getA dX12_puts_48 fl_X12_57 (hL 70 (by decide)) sh_70 (by decide) rfl rfl ?_
      refine q_iload_n dX12_puts_51 rfl rfl ?_
      refine q_iconst dX12_puts_52 rfl rfl ?_
      refine q_iload_n dX12_puts_53 rfl rfl ?_
      refine q_imul dX12_puts_54 rfl ?_
      refine q_iadd dX12_puts_55 rfl ?_
      refine q_iconst dX12_puts_56 rfl rfl ?_
      refine q_iadd dX12_puts_57 rfl ?_
      refine q_aload_n dX12_puts_58 rfl rfl ?_
      refine q_getA dX12_puts_59 fl_X12_42 (hL 70 (by decide)) sh_70 (by decide) rfl rfl ?_
      refine q_iload_n dX12_puts_62 rfl rfl ?_
      obtain ⟨c2805, h⟩ := qk_some h
      refine q_iaload dX12_puts_63 (hL 80 (by decide)) sh_80 (qIx_0 c2805) (qIx_1 c2805) rfl ?_
      obtain ⟨c2806, h⟩ := qk_some h
      refine q_iastore dX12_puts_64 (hL 85 (by decide)) sh_85 (qIx_0 c2806) (qIx_1 c2806) rfl ?_
      refine q_iinc (lv' := [(3, qi (x3 + 1)), (0, qr 70), (2, qi x2)]) dX12_puts_65 (by decide) rfl rfl rfl ?_
      refine q_goto (pc' := 7) dX12_puts_68 (by decide) ?_
      exact q_pick [1, 2, 0] rfl (ih x2 (x3 + 1) _ _ h hE)
set_option maxRecDepth 20000 in
theorem M_puts_ok {X : qX} (hL : ∀ c, c < 93 → c ∈ qLs X) (d : Nat) (a1 : Int) (S : qSto) (o : qSto) (h : M_puts a1 S = some o) (Q : Option qV → qSto → Prop) (hQ : Q none o) : qC X d yX12_puts cX12_puts 4 none [qr 70, qi a1] S Q := by
  refine q_entry (lv := [(0, qr 70), (1, qi a1)]) pn_X12 (Nat.le_of_ble_eq_true rfl) rfl ?_
  unfold M_puts at h
  refine q_bipush dX12_puts_0 (by decide) rfl ?_
  refine q_iload_n dX12_puts_2 rfl rfl ?_
  refine q_imul dX12_puts_3 rfl ?_
  refine q_istore_n (lv' := [(2, qi (42 * a1)), (0, qr 70), (1, qi a1)]) dX12_puts_4 (by decide) rfl rfl ?_
  refine q_iconst dX12_puts_5 rfl rfl ?_
  refine q_istore_n (lv' := [(3, qi 0), (2, qi (42 * a1)), (0, qr 70), (1, qi a1)]) dX12_puts_6 (by decide) rfl rfl ?_
  obtain ⟨q2807, h2808, h⟩ := Option.bind_eq_some_iff.mp h
  refine q_pick [2, 1, 0] rfl (M_puts_L7_ok hL d qF (42 * a1) 0 _ _ h2808 ?_)
  cases h
  exact q_return dX12_puts_71 rfl hQ
set_option maxRecDepth 20000 in
theorem M_copies_L2_ok {X : qX} (hL : ∀ c, c < 93 → c ∈ qLs X) (d : Nat) {Q : Option qV → qSto → Prop} : ∀ (n : Nat) (x1 : Int) (x2 : Int) (x3 : Int) (S : qSto) (o : qSto), M_copies_L2 n x1 x2 x3 S = some o → (qW X d yX12_copies cX12_copies 4 none 36 [] [] o Q) → qW X d yX12_copies cX12_copies 4 none 2 [(0, qr 70), (1, qi x1), (2, qi x2), (3, qi x3)] [] S Q := by
  intro n
  induction n with
  | zero =>
    intro x1 x2 x3 S o h
    simp [M_copies_L2] at h
  | succ n ih =>
    intro x1 x2 x3 S o h hE
    rw [M_copies_L2] at h
    refine q_iload_n dX12_copies_2 rfl rfl ?_
    refine q_bipush dX12_copies_3 (by decide) rfl ?_
    obtain ⟨c2813, h⟩ := qk_some h
    refine q_icmp_ge (tgt := 36) dX12_copies_5 (by decide) rfl (qRb_R c2813) ⟨by decide, by decide⟩ (fun g => ?_) (fun g => ?_)
    · rw [if_pos (show 42 ≤ x3 from g)] at h
      cases h
      exact q_pick [] rfl (hE)
    · rw [if_neg (show ¬ (42 ≤ x3) from g)] at h
      refine q_aload_n dX12_copies_8 rfl rfl ?_
      refine q_getA dX12_copies_9 fl_X12_57 (hL 70 (by decide)) sh_70 (by decide) rfl rfl ?_
      refine q_bipush dX12_copies_12 (by decide) rfl ?_
      refine q_iload_n dX12_copies_14 rfl rfl ?_
      refine q_imul dX12_copies_15 rfl ?_
      refine q_iload_n dX12_copies_16 rfl rfl ?_
      refine q_iadd dX12_copies_17 rfl ?_
      refine q_aload_n dX12_copies_18 rfl rfl ?_
      refine q_getA dX12_copies_19 fl_X12_57 (hL 70 (by decide)) sh_70 (by decide) rfl rfl ?_
      refine q_bipush dX12_copies_22 (by decide) rfl ?_
      refine q_iload_n dX12_copies_24 rfl rfl ?_
      refine q_imul dX12_copies_25 rfl ?_
      refine q_iload_n dX12_copies_26 rfl rfl ?_
      refine q_iadd dX12_copies_27 rfl ?_
      obtain ⟨c2814, h⟩ := qk_some h
      refine q_iaload dX12_copies_28 (hL 85 (by decide)) sh_85 (qIx_0 c2814) (qIx_1 c2814) rfl ?_
      obtain ⟨c2815, h⟩ := qk_some h
      refine q_iastore dX12_copies_29 (hL 85 (by decide)) sh_85 (qIx_0 c2815) (qIx_1 c2815) rfl ?_
      refine q_iinc (lv' := [(3, qi (x3 + 1)), (0, qr 70), (1, qi x1), (2, qi x2)]) dX12_copies_30 (by decide) rfl rfl rfl ?_
      refine q_goto (pc' := 2) dX12_copies_33 (by decide) ?_
      exact q_pick [1, 2, 3, 0] rfl (ih x1 x2 (x3 + 1) _ _ h hE)
set_option maxRecDepth 20000 in
theorem M_copies_ok {X : qX} (hL : ∀ c, c < 93 → c ∈ qLs X) (d : Nat) (a1 : Int) (a2 : Int) (S : qSto) (o : qSto) (h : M_copies a1 a2 S = some o) (Q : Option qV → qSto → Prop) (hQ : Q none o) : qC X d yX12_copies cX12_copies 4 none [qr 70, qi a1, qi a2] S Q := by
  refine q_entry (lv := [(0, qr 70), (1, qi a1), (2, qi a2)]) pn_X12 (Nat.le_of_ble_eq_true rfl) rfl ?_
  unfold M_copies at h
  refine q_iconst dX12_copies_0 rfl rfl ?_
  refine q_istore_n (lv' := [(3, qi 0), (0, qr 70), (1, qi a1), (2, qi a2)]) dX12_copies_1 (by decide) rfl rfl ?_
  obtain ⟨q2816, h2817, h⟩ := Option.bind_eq_some_iff.mp h
  refine q_pick [1, 2, 3, 0] rfl (M_copies_L2_ok hL d qF a1 a2 0 _ _ h2817 ?_)
  cases h
  exact q_return dX12_copies_36 rfl hQ
set_option maxRecDepth 20000 in
theorem M_keeps_L11_ok {X : qX} (hL : ∀ c, c < 93 → c ∈ qLs X) (d : Nat) {Q : Option qV → qSto → Prop} : ∀ (n : Nat) (x1 : Int) (S : qSto) (o : qSto), M_keeps_L11 n x1 S = some o → (qW X (d + 1) yX12_keeps cX12_keeps 2 none 31 [(0, qr 70)] [] o Q) → qW X (d + 1) yX12_keeps cX12_keeps 2 none 11 [(0, qr 70), (1, qi x1)] [] S Q := by
  intro n
  induction n with
  | zero =>
    intro x1 S o h
    simp [M_keeps_L11] at h
  | succ n ih =>
    intro x1 S o h hE
    rw [M_keeps_L11] at h
    refine q_iload_n dX12_keeps_11 rfl rfl ?_
    refine q_bipush dX12_keeps_12 (by decide) rfl ?_
    obtain ⟨c2812, h⟩ := qk_some h
    refine q_icmp_ge (tgt := 31) dX12_keeps_14 (by decide) rfl (qRb_R c2812) ⟨by decide, by decide⟩ (fun g => ?_) (fun g => ?_)
    · rw [if_pos (show 12 ≤ x1 from g)] at h
      cases h
      exact q_pick [0] rfl (hE)
    · rw [if_neg (show ¬ (12 ≤ x1) from g)] at h
      refine q_aload_n dX12_keeps_17 rfl rfl ?_
      refine q_iload_n dX12_keeps_18 rfl rfl ?_
      refine q_iload_n dX12_keeps_19 rfl rfl ?_
      refine q_iconst dX12_keeps_20 rfl rfl ?_
      refine q_isub dX12_keeps_21 rfl ?_
      obtain ⟨q2818, h2819, h⟩ := Option.bind_eq_some_iff.mp h
      refine q_callVv (as := [qi x1, qi (x1 - 1)]) (c := 70) dX12_keeps_22 ml_X12_411 rfl rfl (hL 70 (by decide)) sh_70 rfl rfl (Nat.le_of_ble_eq_true rfl) (M_copies_ok hL d x1 (x1 - 1) _ _ h2819) rfl ?_
      refine q_iinc (lv' := [(1, qi (x1 + 1)), (0, qr 70)]) dX12_keeps_25 (by decide) rfl rfl rfl ?_
      refine q_goto (pc' := 11) dX12_keeps_28 (by decide) ?_
      exact q_pick [1, 0] rfl (ih (x1 + 1) _ _ h hE)
set_option maxRecDepth 20000 in
theorem M_keeps_ok {X : qX} (hL : ∀ c, c < 93 → c ∈ qLs X) (d : Nat) (S : qSto) (o : qSto) (h : M_keeps S = some o) (Q : Option qV → qSto → Prop) (hQ : Q none o) : qC X (d + 1) yX12_keeps cX12_keeps 2 none [qr 70] S Q := by
  refine q_entry (lv := [(0, qr 70)]) pn_X12 (Nat.le_of_ble_eq_true rfl) rfl ?_
  unfold M_keeps at h
  refine q_aload_n dX12_keeps_0 rfl rfl ?_
  refine q_getI dX12_keeps_1 fl_X12_252 (hL 70 (by decide)) sh_70 (by decide) rfl rfl ?_
  refine q_bipush dX12_keeps_4 (by decide) rfl ?_
  refine q_jn (G := fun (t2822 : qSto) => qW X (d + 1) yX12_keeps cX12_keeps 2 none 37 [(0, qr 70)] [] t2822 Q) h (fun t2822 h => ?_) (fun t2822 h hk3908 => ?_)
  · try dsimp only at h
    refine q_aload_n dX12_keeps_37 rfl rfl ?_
    refine q_bipush dX12_keeps_38 (by decide) rfl ?_
    refine q_aload_n dX12_keeps_40 rfl rfl ?_
    refine q_getI dX12_keeps_41 fl_X12_252 (hL 70 (by decide)) sh_70 (by decide) rfl rfl ?_
    obtain ⟨q2823, h2824, h⟩ := Option.bind_eq_some_iff.mp h
    refine q_callVv (as := [qi 16, qi (t2822 70 31)]) (c := 70) dX12_keeps_44 ml_X12_411 rfl rfl (hL 70 (by decide)) sh_70 rfl rfl (Nat.le_of_ble_eq_true rfl) (M_copies_ok hL d 16 (t2822 70 31) _ _ h2824) rfl ?_
    refine q_aload_n dX12_keeps_47 rfl rfl ?_
    refine q_aload_n dX12_keeps_48 rfl rfl ?_
    refine q_getI dX12_keeps_49 fl_X12_252 (hL 70 (by decide)) sh_70 (by decide) rfl rfl ?_
    refine q_iconst dX12_keeps_52 rfl rfl ?_
    refine q_iadd dX12_keeps_53 rfl ?_
    refine q_putI dX12_keeps_54 fl_X12_252 (hL 70 (by decide)) sh_70 (by decide) pf_12_31 pt_12_31 rfl rfl ?_
    cases h
    exact q_return dX12_keeps_57 rfl hQ
  · skip
    obtain ⟨c2811, h⟩ := qk_some h
    refine q_icmp_ne (tgt := 37) dX12_keeps_6 (by decide) rfl (qRb_R c2811) ⟨by decide, by decide⟩ (fun g => ?_) (fun g => ?_)
    · rw [if_neg (show ¬ ((S 70 31) = 12) from g)] at h
      cases h
      exact q_pick [0] rfl hk3908
    · rw [if_pos (show (S 70 31) = 12 from g)] at h
      refine q_iconst dX12_keeps_9 rfl rfl ?_
      refine q_istore_n (lv' := [(1, qi 1), (0, qr 70)]) dX12_keeps_10 (by decide) rfl rfl ?_
      obtain ⟨q2820, h2821, h⟩ := Option.bind_eq_some_iff.mp h
      refine q_pick [1, 0] rfl (M_keeps_L11_ok hL d qF 1 _ _ h2821 ?_)
      refine q_aload_n dX12_keeps_31 rfl rfl ?_
      refine q_bipush dX12_keeps_32 (by decide) rfl ?_
      refine q_putI dX12_keeps_34 fl_X12_252 (hL 70 (by decide)) sh_70 (by decide) pf_12_31 pt_12_31 rfl rfl ?_
      cases h
      exact q_pick [0] rfl hk3908
set_option maxRecDepth 20000 in
theorem M_put_ok {X : qX} (hL : ∀ c, c < 93 → c ∈ qLs X) (d : Nat) (a1 : Int) (a2 : Int) (a3 : Int) (a4 : Int) (S : qSto) (o : (Int × qSto)) (h : M_put a1 a2 a3 a4 S = some o) (Q : Option qV → qSto → Prop) (hQ : Q (some (qi o.1)) o.2) : qC X (d + 7) yX12_put cX12_put 6 (some .int) [qr 70, qi a1, qi a2, qi a3, qi a4] S Q := by
  refine q_entry (lv := [(0, qr 70), (1, qi a1), (2, qi a2), (3, qi a3), (4, qi a4)]) pn_X12 (Nat.le_of_ble_eq_true rfl) rfl ?_
  unfold M_put at h
  refine q_aload_n dX12_put_0 rfl rfl ?_
  refine q_iload_n dX12_put_1 rfl rfl ?_
  obtain ⟨q2789, h2790, h⟩ := Option.bind_eq_some_iff.mp h
  refine q_callVi (as := [qi a1]) (c := 70) dX12_put_2 ml_X12_297 rfl rfl (hL 70 (by decide)) sh_70 rfl rfl (Nat.le_of_ble_eq_true rfl) (M_isShip_ok hL (d + 5) a1 _ _ h2790) rfl ?_
  obtain ⟨c2791, h⟩ := qk_some h
  refine q_if_eq (tgt := 16) dX12_put_5 (by decide) rfl (qRb_R c2791)  (fun g => ?_) (fun g => ?_)
  · rw [if_pos (show q2789.1 = 0 from g)] at h
    refine q_iconst dX12_put_16 rfl rfl ?_
    cases h
    exact q_ireturn dX12_put_17 rfl hQ
  · rw [if_neg (show ¬ (q2789.1 = 0) from g)] at h
    refine q_aload_n dX12_put_8 rfl rfl ?_
    refine q_iload_n dX12_put_9 rfl rfl ?_
    obtain ⟨q2792, h2793, h⟩ := Option.bind_eq_some_iff.mp h
    refine q_callVi (as := [qi a1]) (c := 70) dX12_put_10 ml_X12_326 rfl rfl (hL 70 (by decide)) sh_70 rfl rfl (Nat.le_of_ble_eq_true rfl) (M_stays_ok hL (d + 6) a1 _ _ h2793) rfl ?_
    obtain ⟨c2794, h⟩ := qk_some h
    refine q_if_eq (tgt := 18) dX12_put_13 (by decide) rfl (qRb_R c2794)  (fun g => ?_) (fun g => ?_)
    · rw [if_pos (show q2792.1 = 0 from g)] at h
      refine q_aload_n dX12_put_18 rfl rfl ?_
      refine q_iload_n dX12_put_19 rfl rfl ?_
      refine q_iload_n dX12_put_20 rfl rfl ?_
      obtain ⟨c2795, h⟩ := qk_some h
      refine q_i2l dX12_put_21 (qRb_R c2795) rfl ?_
      refine q_iload_n dX12_put_22 rfl rfl ?_
      obtain ⟨c2796, h⟩ := qk_some h
      refine q_i2l dX12_put_23 (qRb_R c2796) rfl ?_
      refine q_iload dX12_put_24 rfl rfl ?_
      obtain ⟨q2797, h2798, h⟩ := Option.bind_eq_some_iff.mp h
      refine q_callVi (as := [qi a1, ql a2, ql a3, qi a4]) (c := 70) dX12_put_26 ml_X12_390 rfl rfl (hL 70 (by decide)) sh_70 rfl rfl (Nat.le_of_ble_eq_true rfl) (M_lawOf_ok hL d a1 a2 a3 a4 _ _ h2798) rfl ?_
      refine q_istore (lv' := [(5, qi q2797.1), (0, qr 70), (1, qi a1), (2, qi a2), (3, qi a3), (4, qi a4)]) dX12_put_29 (by decide) rfl rfl ?_
      refine q_iload dX12_put_31 rfl rfl ?_
      obtain ⟨c2799, h⟩ := qk_some h
      refine q_if_le (tgt := 41) dX12_put_33 (by decide) rfl (qRb_R c2799)  (fun g => ?_) (fun g => ?_)
      · rw [if_pos (show q2797.1 ≤ 0 from g)] at h
        refine q_aload_n dX12_put_41 rfl rfl ?_
        refine q_bipush dX12_put_42 (by decide) rfl ?_
        obtain ⟨q2809, h2810, h⟩ := Option.bind_eq_some_iff.mp h
        refine q_callVv (as := [qi 16]) (c := 70) dX12_put_44 ml_X12_414 rfl rfl (hL 70 (by decide)) sh_70 rfl rfl (Nat.le_of_ble_eq_true rfl) (M_puts_ok hL (d + 6) 16 _ _ h2810) rfl ?_
        refine q_aload_n dX12_put_47 rfl rfl ?_
        obtain ⟨q2825, h2826, h⟩ := Option.bind_eq_some_iff.mp h
        refine q_callVv (as := []) (c := 70) dX12_put_48 ml_X12_417 rfl rfl (hL 70 (by decide)) sh_70 rfl rfl (Nat.le_of_ble_eq_true rfl) (M_keeps_ok hL (d + 5) _ _ h2826) rfl ?_
        refine q_aload_n dX12_put_51 rfl rfl ?_
        refine q_iload_n dX12_put_52 rfl rfl ?_
        refine q_iload_n dX12_put_53 rfl rfl ?_
        refine q_iload_n dX12_put_54 rfl rfl ?_
        refine q_iload dX12_put_55 rfl rfl ?_
        obtain ⟨q2827, h2828, h⟩ := Option.bind_eq_some_iff.mp h
        refine q_callVv (as := [qi a1, qi a2, qi a3, qi a4]) (c := 70) dX12_put_57 ml_X12_383 rfl rfl (hL 70 (by decide)) sh_70 rfl rfl (Nat.le_of_ble_eq_true rfl) (M_lay_ok hL (d + 3) a1 a2 a3 a4 _ _ h2828) rfl ?_
        refine q_aload_n dX12_put_60 rfl rfl ?_
        refine q_getA dX12_put_61 fl_X12_48 (hL 70 (by decide)) sh_70 (by decide) rfl rfl ?_
        refine q_iload_n dX12_put_64 rfl rfl ?_
        obtain ⟨c2829, h⟩ := qk_some h
        refine q_iaload dX12_put_65 (hL 82 (by decide)) sh_82 (qIx_0 c2829) (qIx_1 c2829) rfl ?_
        cases h
        exact q_ireturn dX12_put_66 rfl hQ
      · rw [if_neg (show ¬ (q2797.1 ≤ 0) from g)] at h
        refine q_iconst dX12_put_36 rfl rfl ?_
        refine q_iload dX12_put_37 rfl rfl ?_
        refine q_isub dX12_put_39 rfl ?_
        cases h
        exact q_ireturn dX12_put_40 rfl hQ
    · rw [if_neg (show ¬ (q2792.1 = 0) from g)] at h
      refine q_iconst dX12_put_16 rfl rfl ?_
      cases h
      exact q_ireturn dX12_put_17 rfl hQ
set_option maxRecDepth 20000 in
theorem M_seeksItself_L8_ok {X : qX} (hL : ∀ c, c < 93 → c ∈ qLs X) (d : Nat) {Q : Option qV → qSto → Prop} : ∀ (n : Nat) (x1 : Int) (x2 : Int) (S : qSto) (o : (qSto ⊕ (Int × qSto))), M_seeksItself_L8 n x1 x2 S = some o → (∀ t, o = Sum.inl t → qW X (d + 7) yX12_seeksItself cX12_seeksItself 3 (some .int) 36 [] [] t Q) → (∀ w, o = Sum.inr w → Q (some (qi w.1)) w.2) → qW X (d + 7) yX12_seeksItself cX12_seeksItself 3 (some .int) 8 [(0, qr 70), (1, qi x1), (2, qi x2)] [] S Q := by
  intro n
  induction n with
  | zero =>
    intro x1 x2 S o h
    simp [M_seeksItself_L8] at h
  | succ n ih =>
    intro x1 x2 S o h hE hR
    rw [M_seeksItself_L8] at h
    refine q_iload_n dX12_seeksItself_8 rfl rfl ?_
    refine q_aload_n dX12_seeksItself_9 rfl rfl ?_
    refine q_iload_n dX12_seeksItself_10 rfl rfl ?_
    refine q_bipush dX12_seeksItself_11 (by decide) rfl ?_
    obtain ⟨q2840, h2841, h⟩ := Option.bind_eq_some_iff.mp h
    refine q_callVi (as := [qi x1, qi 7]) (c := 70) dX12_seeksItself_13 ml_X12_316 rfl rfl (hL 70 (by decide)) sh_70 rfl rfl (Nat.le_of_ble_eq_true rfl) (M_of_ok hL (d + 6) x1 7 _ _ h2841) rfl ?_
    obtain ⟨c2842, h⟩ := qk_some h
    obtain ⟨c2843, h⟩ := qk_some h
    refine q_icmp_lt (tgt := 36) dX12_seeksItself_16 (by decide) rfl (qRb_R c2842) (qRb_R c2843) (fun g => ?_) (fun g => ?_)
    · rw [if_pos (show x2 < q2840.1 from g)] at h
      cases h
      exact q_pick [] rfl (hE _ rfl)
    · rw [if_neg (show ¬ (x2 < q2840.1) from g)] at h
      refine q_aload_n dX12_seeksItself_19 rfl rfl ?_
      refine q_iload_n dX12_seeksItself_20 rfl rfl ?_
      refine q_iload_n dX12_seeksItself_21 rfl rfl ?_
      obtain ⟨q2844, h2845, h⟩ := Option.bind_eq_some_iff.mp h
      refine q_callVi (as := [qi x1, qi x2]) (c := 70) dX12_seeksItself_22 ml_X12_405 rfl rfl (hL 70 (by decide)) sh_70 rfl rfl (Nat.le_of_ble_eq_true rfl) (M_seeks_ok hL d x1 x2 _ _ h2845) rfl ?_
      obtain ⟨c2846, h⟩ := qk_some h
      refine q_if_eq (tgt := 30) dX12_seeksItself_25 (by decide) rfl (qRb_R c2846)  (fun g => ?_) (fun g => ?_)
      · rw [if_pos (show q2844.1 = 0 from g)] at h
        refine q_iinc (lv' := [(2, qi (x2 + (-1))), (0, qr 70), (1, qi x1)]) dX12_seeksItself_30 (by decide) rfl rfl rfl ?_
        refine q_goto (pc' := 8) dX12_seeksItself_33 (by decide) ?_
        exact q_pick [1, 2, 0] rfl (ih x1 (x2 + (-1)) _ _ h hE hR)
      · rw [if_neg (show ¬ (q2844.1 = 0) from g)] at h
        refine q_iload_n dX12_seeksItself_28 rfl rfl ?_
        cases h
        exact q_ireturn dX12_seeksItself_29 rfl (hR _ rfl)
set_option maxRecDepth 20000 in
theorem M_seeksItself_ok {X : qX} (hL : ∀ c, c < 93 → c ∈ qLs X) (d : Nat) (a1 : Int) (S : qSto) (o : (Int × qSto)) (h : M_seeksItself a1 S = some o) (Q : Option qV → qSto → Prop) (hQ : Q (some (qi o.1)) o.2) : qC X (d + 7) yX12_seeksItself cX12_seeksItself 3 (some .int) [qr 70, qi a1] S Q := by
  refine q_entry (lv := [(0, qr 70), (1, qi a1)]) pn_X12 (Nat.le_of_ble_eq_true rfl) rfl ?_
  unfold M_seeksItself at h
  refine q_aload_n dX12_seeksItself_0 rfl rfl ?_
  refine q_iload_n dX12_seeksItself_1 rfl rfl ?_
  refine q_bipush dX12_seeksItself_2 (by decide) rfl ?_
  obtain ⟨q2838, h2839, h⟩ := Option.bind_eq_some_iff.mp h
  refine q_callVi (as := [qi a1, qi 8]) (c := 70) dX12_seeksItself_4 ml_X12_316 rfl rfl (hL 70 (by decide)) sh_70 rfl rfl (Nat.le_of_ble_eq_true rfl) (M_of_ok hL (d + 6) a1 8 _ _ h2839) rfl ?_
  refine q_istore_n (lv' := [(2, qi q2838.1), (0, qr 70), (1, qi a1)]) dX12_seeksItself_7 (by decide) rfl rfl ?_
  obtain ⟨q2847, h2848, h⟩ := Option.bind_eq_some_iff.mp h
  refine q_pick [1, 2, 0] rfl (M_seeksItself_L8_ok hL d qF a1 q2838.1 _ _ h2848 (fun t2849 e3909 => ?_) (fun w e3909 => ?_))
  · subst e3909
    simp only [Sum.elim_inl] at h
    refine q_iconst dX12_seeksItself_36 rfl rfl ?_
    cases h
    exact q_ireturn dX12_seeksItself_37 rfl hQ
  · subst e3909
    simp only [Sum.elim_inr] at h
    cases h
    exact hQ
set_option maxRecDepth 20000 in
theorem M_laysItself_ok {X : qX} (hL : ∀ c, c < 93 → c ∈ qLs X) (d : Nat) (a1 : Int) (S : qSto) (o : (Int × qSto)) (h : M_laysItself a1 S = some o) (Q : Option qV → qSto → Prop) (hQ : Q (some (qi o.1)) o.2) : qC X (d + 8) yX12_laysItself cX12_laysItself 3 (some .boolean) [qr 70, qi a1] S Q := by
  refine q_entry (lv := [(0, qr 70), (1, qi a1)]) pn_X12 (Nat.le_of_ble_eq_true rfl) rfl ?_
  unfold M_laysItself at h
  refine q_aload_n dX12_laysItself_0 rfl rfl ?_
  refine q_iload_n dX12_laysItself_1 rfl rfl ?_
  obtain ⟨q2850, h2851, h⟩ := Option.bind_eq_some_iff.mp h
  refine q_callVi (as := [qi a1]) (c := 70) dX12_laysItself_2 ml_X12_408 rfl rfl (hL 70 (by decide)) sh_70 rfl rfl (Nat.le_of_ble_eq_true rfl) (M_seeksItself_ok hL d a1 _ _ h2851) rfl ?_
  refine q_istore_n (lv' := [(2, qi q2850.1), (0, qr 70), (1, qi a1)]) dX12_laysItself_5 (by decide) rfl rfl ?_
  refine q_iload_n dX12_laysItself_6 rfl rfl ?_
  refine q_iconst dX12_laysItself_7 rfl rfl ?_
  obtain ⟨c2852, h⟩ := qk_some h
  refine q_icmp_ne (tgt := 13) dX12_laysItself_8 (by decide) rfl (qRb_R c2852) ⟨by decide, by decide⟩ (fun g => ?_) (fun g => ?_)
  · rw [if_neg (show ¬ (q2850.1 = (-1)) from g)] at h
    refine q_aload_n dX12_laysItself_13 rfl rfl ?_
    refine q_iload_n dX12_laysItself_14 rfl rfl ?_
    refine q_aload_n dX12_laysItself_15 rfl rfl ?_
    refine q_getI dX12_laysItself_16 fl_X12_393 (hL 70 (by decide)) sh_70 (by decide) rfl rfl ?_
    refine q_aload_n dX12_laysItself_19 rfl rfl ?_
    refine q_getI dX12_laysItself_20 fl_X12_402 (hL 70 (by decide)) sh_70 (by decide) rfl rfl ?_
    refine q_iload_n dX12_laysItself_23 rfl rfl ?_
    obtain ⟨q2853, h2854, h⟩ := Option.bind_eq_some_iff.mp h
    refine q_callVv (as := [qi a1, qi (q2850.2 70 28), qi (q2850.2 70 27), qi q2850.1]) (c := 70) dX12_laysItself_24 ml_X12_383 rfl rfl (hL 70 (by decide)) sh_70 rfl rfl (Nat.le_of_ble_eq_true rfl) (M_lay_ok hL (d + 4) a1 (q2850.2 70 28) (q2850.2 70 27) q2850.1 _ _ h2854) rfl ?_
    refine q_iconst dX12_laysItself_27 rfl rfl ?_
    cases h
    exact q_zreturn dX12_laysItself_28 rfl (by decide) hQ
  · rw [if_pos (show q2850.1 = (-1) from g)] at h
    refine q_iconst dX12_laysItself_11 rfl rfl ?_
    cases h
    exact q_zreturn dX12_laysItself_12 rfl (by decide) hQ
set_option maxRecDepth 20000 in
theorem M_itself_ok {X : qX} (hL : ∀ c, c < 93 → c ∈ qLs X) (d : Nat) (a1 : Int) (S : qSto) (o : (Int × qSto)) (h : M_itself a1 S = some o) (Q : Option qV → qSto → Prop) (hQ : Q (some (qi o.1)) o.2) : qC X (d + 9) yX12_itself cX12_itself 2 (some .int) [qr 70, qi a1] S Q := by
  refine q_entry (lv := [(0, qr 70), (1, qi a1)]) pn_X12 (Nat.le_of_ble_eq_true rfl) rfl ?_
  unfold M_itself at h
  refine q_aload_n dX12_itself_0 rfl rfl ?_
  refine q_iload_n dX12_itself_1 rfl rfl ?_
  obtain ⟨q2830, h2831, h⟩ := Option.bind_eq_some_iff.mp h
  refine q_callVi (as := [qi a1]) (c := 70) dX12_itself_2 ml_X12_297 rfl rfl (hL 70 (by decide)) sh_70 rfl rfl (Nat.le_of_ble_eq_true rfl) (M_isShip_ok hL (d + 7) a1 _ _ h2831) rfl ?_
  obtain ⟨c2832, h⟩ := qk_some h
  refine q_if_eq (tgt := 16) dX12_itself_5 (by decide) rfl (qRb_R c2832)  (fun g => ?_) (fun g => ?_)
  · rw [if_pos (show q2830.1 = 0 from g)] at h
    refine q_iconst dX12_itself_16 rfl rfl ?_
    cases h
    exact q_ireturn dX12_itself_17 rfl hQ
  · rw [if_neg (show ¬ (q2830.1 = 0) from g)] at h
    refine q_aload_n dX12_itself_8 rfl rfl ?_
    refine q_iload_n dX12_itself_9 rfl rfl ?_
    obtain ⟨q2833, h2834, h⟩ := Option.bind_eq_some_iff.mp h
    refine q_callVi (as := [qi a1]) (c := 70) dX12_itself_10 ml_X12_326 rfl rfl (hL 70 (by decide)) sh_70 rfl rfl (Nat.le_of_ble_eq_true rfl) (M_stays_ok hL (d + 8) a1 _ _ h2834) rfl ?_
    obtain ⟨c2835, h⟩ := qk_some h
    refine q_if_eq (tgt := 18) dX12_itself_13 (by decide) rfl (qRb_R c2835)  (fun g => ?_) (fun g => ?_)
    · rw [if_pos (show q2833.1 = 0 from g)] at h
      refine q_aload_n dX12_itself_18 rfl rfl ?_
      refine q_bipush dX12_itself_19 (by decide) rfl ?_
      obtain ⟨q2836, h2837, h⟩ := Option.bind_eq_some_iff.mp h
      refine q_callVv (as := [qi 16]) (c := 70) dX12_itself_21 ml_X12_414 rfl rfl (hL 70 (by decide)) sh_70 rfl rfl (Nat.le_of_ble_eq_true rfl) (M_puts_ok hL (d + 8) 16 _ _ h2837) rfl ?_
      refine q_aload_n dX12_itself_24 rfl rfl ?_
      refine q_iload_n dX12_itself_25 rfl rfl ?_
      obtain ⟨q2855, h2856, h⟩ := Option.bind_eq_some_iff.mp h
      refine q_callVi (as := [qi a1]) (c := 70) dX12_itself_26 ml_X12_420 rfl rfl (hL 70 (by decide)) sh_70 rfl rfl (Nat.le_of_ble_eq_true rfl) (M_laysItself_ok hL d a1 _ _ h2856) rfl ?_
      obtain ⟨c2857, h⟩ := qk_some h
      refine q_if_ne (tgt := 35) dX12_itself_29 (by decide) rfl (qRb_R c2857)  (fun g => ?_) (fun g => ?_)
      · rw [if_neg (show ¬ (q2855.1 = 0) from g)] at h
        refine q_aload_n dX12_itself_35 rfl rfl ?_
        obtain ⟨q2858, h2859, h⟩ := Option.bind_eq_some_iff.mp h
        refine q_callVv (as := []) (c := 70) dX12_itself_36 ml_X12_417 rfl rfl (hL 70 (by decide)) sh_70 rfl rfl (Nat.le_of_ble_eq_true rfl) (M_keeps_ok hL (d + 7) _ _ h2859) rfl ?_
        refine q_aload_n dX12_itself_39 rfl rfl ?_
        refine q_getA dX12_itself_40 fl_X12_39 (hL 70 (by decide)) sh_70 (by decide) rfl rfl ?_
        refine q_iload_n dX12_itself_43 rfl rfl ?_
        obtain ⟨c2860, h⟩ := qk_some h
        refine q_iaload dX12_itself_44 (hL 79 (by decide)) sh_79 (qIx_0 c2860) (qIx_1 c2860) rfl ?_
        cases h
        exact q_ireturn dX12_itself_45 rfl hQ
      · rw [if_pos (show q2855.1 = 0 from g)] at h
        refine q_bipush dX12_itself_32 (by decide) rfl ?_
        cases h
        exact q_ireturn dX12_itself_34 rfl hQ
    · rw [if_neg (show ¬ (q2833.1 = 0) from g)] at h
      refine q_iconst dX12_itself_16 rfl rfl ?_
      cases h
      exact q_ireturn dX12_itself_17 rfl hQ
set_option maxRecDepth 20000 in
theorem M_away_ok {X : qX} (hL : ∀ c, c < 93 → c ∈ qLs X) (d : Nat) (a1 : Int) (S : qSto) (o : (Int × qSto)) (h : M_away a1 S = some o) (Q : Option qV → qSto → Prop) (hQ : Q (some (qi o.1)) o.2) : qC X (d + 4) yX12_away cX12_away 2 (some .boolean) [qr 70, qi a1] S Q := by
  refine q_entry (lv := [(0, qr 70), (1, qi a1)]) pn_X12 (Nat.le_of_ble_eq_true rfl) rfl ?_
  unfold M_away at h
  refine q_aload_n dX12_away_0 rfl rfl ?_
  refine q_iload_n dX12_away_1 rfl rfl ?_
  obtain ⟨q2861, h2862, h⟩ := Option.bind_eq_some_iff.mp h
  refine q_callVi (as := [qi a1]) (c := 70) dX12_away_2 ml_X12_297 rfl rfl (hL 70 (by decide)) sh_70 rfl rfl (Nat.le_of_ble_eq_true rfl) (M_isShip_ok hL (d + 2) a1 _ _ h2862) rfl ?_
  obtain ⟨c2863, h⟩ := qk_some h
  refine q_if_eq (tgt := 16) dX12_away_5 (by decide) rfl (qRb_R c2863)  (fun g => ?_) (fun g => ?_)
  · rw [if_pos (show q2861.1 = 0 from g)] at h
    refine q_iconst dX12_away_16 rfl rfl ?_
    cases h
    exact q_zreturn dX12_away_17 rfl (by decide) hQ
  · rw [if_neg (show ¬ (q2861.1 = 0) from g)] at h
    refine q_aload_n dX12_away_8 rfl rfl ?_
    refine q_iload_n dX12_away_9 rfl rfl ?_
    obtain ⟨q2864, h2865, h⟩ := Option.bind_eq_some_iff.mp h
    refine q_callVi (as := [qi a1]) (c := 70) dX12_away_10 ml_X12_326 rfl rfl (hL 70 (by decide)) sh_70 rfl rfl (Nat.le_of_ble_eq_true rfl) (M_stays_ok hL (d + 3) a1 _ _ h2865) rfl ?_
    obtain ⟨c2866, h⟩ := qk_some h
    refine q_if_ne (tgt := 18) dX12_away_13 (by decide) rfl (qRb_R c2866)  (fun g => ?_) (fun g => ?_)
    · rw [if_neg (show ¬ (q2864.1 = 0) from g)] at h
      refine q_aload_n dX12_away_18 rfl rfl ?_
      refine q_bipush dX12_away_19 (by decide) rfl ?_
      obtain ⟨q2867, h2868, h⟩ := Option.bind_eq_some_iff.mp h
      refine q_callVv (as := [qi 16]) (c := 70) dX12_away_21 ml_X12_414 rfl rfl (hL 70 (by decide)) sh_70 rfl rfl (Nat.le_of_ble_eq_true rfl) (M_puts_ok hL (d + 3) 16 _ _ h2868) rfl ?_
      refine q_aload_n dX12_away_24 rfl rfl ?_
      obtain ⟨q2869, h2870, h⟩ := Option.bind_eq_some_iff.mp h
      refine q_callVv (as := []) (c := 70) dX12_away_25 ml_X12_417 rfl rfl (hL 70 (by decide)) sh_70 rfl rfl (Nat.le_of_ble_eq_true rfl) (M_keeps_ok hL (d + 2) _ _ h2870) rfl ?_
      refine q_aload_n dX12_away_28 rfl rfl ?_
      refine q_iload_n dX12_away_29 rfl rfl ?_
      refine q_iconst dX12_away_30 rfl rfl ?_
      refine q_iconst dX12_away_31 rfl rfl ?_
      refine q_iconst dX12_away_32 rfl rfl ?_
      obtain ⟨q2871, h2872, h⟩ := Option.bind_eq_some_iff.mp h
      refine q_callVv (as := [qi a1, qi 0, qi 0, qi 0]) (c := 70) dX12_away_33 ml_X12_383 rfl rfl (hL 70 (by decide)) sh_70 rfl rfl (Nat.le_of_ble_eq_true rfl) (M_lay_ok hL d a1 0 0 0 _ _ h2872) rfl ?_
      refine q_iconst dX12_away_36 rfl rfl ?_
      cases h
      exact q_zreturn dX12_away_37 rfl (by decide) hQ
    · rw [if_pos (show q2864.1 = 0 from g)] at h
      refine q_iconst dX12_away_16 rfl rfl ?_
      cases h
      exact q_zreturn dX12_away_17 rfl (by decide) hQ
set_option maxRecDepth 20000 in
theorem M_move_ok {X : qX} (hL : ∀ c, c < 93 → c ∈ qLs X) (d : Nat) (a1 : Int) (a2 : Int) (a3 : Int) (S : qSto) (o : (Int × qSto)) (h : M_move a1 a2 a3 S = some o) (Q : Option qV → qSto → Prop) (hQ : Q (some (qi o.1)) o.2) : qC X (d + 7) yX12_move cX12_move 5 (some .int) [qr 70, qi a1, qi a2, qi a3] S Q := by
  refine q_entry (lv := [(0, qr 70), (1, qi a1), (2, qi a2), (3, qi a3)]) pn_X12 (Nat.le_of_ble_eq_true rfl) rfl ?_
  unfold M_move at h
  refine q_aload_n dX12_move_0 rfl rfl ?_
  refine q_iload_n dX12_move_1 rfl rfl ?_
  obtain ⟨q2873, h2874, h⟩ := Option.bind_eq_some_iff.mp h
  refine q_callVi (as := [qi a1]) (c := 70) dX12_move_2 ml_X12_297 rfl rfl (hL 70 (by decide)) sh_70 rfl rfl (Nat.le_of_ble_eq_true rfl) (M_isShip_ok hL (d + 5) a1 _ _ h2874) rfl ?_
  obtain ⟨c2875, h⟩ := qk_some h
  refine q_if_eq (tgt := 24) dX12_move_5 (by decide) rfl (qRb_R c2875)  (fun g => ?_) (fun g => ?_)
  · rw [if_pos (show q2873.1 = 0 from g)] at h
    refine q_iconst dX12_move_24 rfl rfl ?_
    cases h
    exact q_ireturn dX12_move_25 rfl hQ
  · rw [if_neg (show ¬ (q2873.1 = 0) from g)] at h
    refine q_aload_n dX12_move_8 rfl rfl ?_
    refine q_iload_n dX12_move_9 rfl rfl ?_
    obtain ⟨q2876, h2877, h⟩ := Option.bind_eq_some_iff.mp h
    refine q_callVi (as := [qi a1]) (c := 70) dX12_move_10 ml_X12_326 rfl rfl (hL 70 (by decide)) sh_70 rfl rfl (Nat.le_of_ble_eq_true rfl) (M_stays_ok hL (d + 6) a1 _ _ h2877) rfl ?_
    obtain ⟨c2878, h⟩ := qk_some h
    refine q_if_eq (tgt := 24) dX12_move_13 (by decide) rfl (qRb_R c2878)  (fun g => ?_) (fun g => ?_)
    · rw [if_pos (show q2876.1 = 0 from g)] at h
      refine q_iconst dX12_move_24 rfl rfl ?_
      cases h
      exact q_ireturn dX12_move_25 rfl hQ
    · rw [if_neg (show ¬ (q2876.1 = 0) from g)] at h
      refine q_iload_n dX12_move_16 rfl rfl ?_
      obtain ⟨c2879, h⟩ := qk_some h
      refine q_if_ne (tgt := 26) dX12_move_17 (by decide) rfl (qRb_R c2879)  (fun g => ?_) (fun g => ?_)
      · rw [if_neg (show ¬ (a2 = 0) from g)] at h
        refine q_aload_n dX12_move_26 rfl rfl ?_
        refine q_iload_n dX12_move_27 rfl rfl ?_
        refine q_aload_n dX12_move_28 rfl rfl ?_
        refine q_getA dX12_move_29 fl_X12_36 (hL 70 (by decide)) sh_70 (by decide) rfl rfl ?_
        refine q_iload_n dX12_move_32 rfl rfl ?_
        obtain ⟨c2880, h⟩ := qk_some h
        refine q_iaload dX12_move_33 (hL 78 (by decide)) sh_78 (qIx_0 c2880) (qIx_1 c2880) rfl ?_
        obtain ⟨c2881, h⟩ := qk_some h
        refine q_i2l dX12_move_34 (qRb_R c2881) rfl ?_
        refine q_iload_n dX12_move_35 rfl rfl ?_
        obtain ⟨c2882, h⟩ := qk_some h
        refine q_i2l dX12_move_36 (qRb_R c2882) rfl ?_
        refine q_ladd dX12_move_37 rfl ?_
        refine q_aload_n dX12_move_38 rfl rfl ?_
        refine q_getA dX12_move_39 fl_X12_39 (hL 70 (by decide)) sh_70 (by decide) rfl rfl ?_
        refine q_iload_n dX12_move_42 rfl rfl ?_
        obtain ⟨c2883, h⟩ := qk_some h
        refine q_iaload dX12_move_43 (hL 79 (by decide)) sh_79 (qIx_0 c2883) (qIx_1 c2883) rfl ?_
        obtain ⟨c2884, h⟩ := qk_some h
        refine q_i2l dX12_move_44 (qRb_R c2884) rfl ?_
        refine q_iload_n dX12_move_45 rfl rfl ?_
        obtain ⟨c2885, h⟩ := qk_some h
        refine q_i2l dX12_move_46 (qRb_R c2885) rfl ?_
        refine q_ladd dX12_move_47 rfl ?_
        refine q_aload_n dX12_move_48 rfl rfl ?_
        refine q_getA dX12_move_49 fl_X12_42 (hL 70 (by decide)) sh_70 (by decide) rfl rfl ?_
        refine q_iload_n dX12_move_52 rfl rfl ?_
        obtain ⟨c2886, h⟩ := qk_some h
        refine q_iaload dX12_move_53 (hL 80 (by decide)) sh_80 (qIx_0 c2886) (qIx_1 c2886) rfl ?_
        obtain ⟨q2887, h2888, h⟩ := Option.bind_eq_some_iff.mp h
        refine q_callVi (as := [qi a1, ql ((q2876.2 78 (Int.toNat a1)) + a2), ql ((q2876.2 79 (Int.toNat a1)) + a3), qi (q2876.2 80 (Int.toNat a1))]) (c := 70) dX12_move_54 ml_X12_390 rfl rfl (hL 70 (by decide)) sh_70 rfl rfl (Nat.le_of_ble_eq_true rfl) (M_lawOf_ok hL d a1 ((q2876.2 78 (Int.toNat a1)) + a2) ((q2876.2 79 (Int.toNat a1)) + a3) (q2876.2 80 (Int.toNat a1)) _ _ h2888) rfl ?_
        refine q_istore (lv' := [(4, qi q2887.1), (0, qr 70), (1, qi a1), (2, qi a2), (3, qi a3)]) dX12_move_57 (by decide) rfl rfl ?_
        refine q_iload dX12_move_59 rfl rfl ?_
        obtain ⟨c2889, h⟩ := qk_some h
        refine q_if_le (tgt := 69) dX12_move_61 (by decide) rfl (qRb_R c2889)  (fun g => ?_) (fun g => ?_)
        · rw [if_pos (show q2887.1 ≤ 0 from g)] at h
          refine q_aload_n dX12_move_69 rfl rfl ?_
          refine q_bipush dX12_move_70 (by decide) rfl ?_
          obtain ⟨q2890, h2891, h⟩ := Option.bind_eq_some_iff.mp h
          refine q_callVv (as := [qi 16]) (c := 70) dX12_move_72 ml_X12_414 rfl rfl (hL 70 (by decide)) sh_70 rfl rfl (Nat.le_of_ble_eq_true rfl) (M_puts_ok hL (d + 6) 16 _ _ h2891) rfl ?_
          refine q_aload_n dX12_move_75 rfl rfl ?_
          obtain ⟨q2892, h2893, h⟩ := Option.bind_eq_some_iff.mp h
          refine q_callVv (as := []) (c := 70) dX12_move_76 ml_X12_417 rfl rfl (hL 70 (by decide)) sh_70 rfl rfl (Nat.le_of_ble_eq_true rfl) (M_keeps_ok hL (d + 5) _ _ h2893) rfl ?_
          refine q_aload_n dX12_move_79 rfl rfl ?_
          refine q_iload_n dX12_move_80 rfl rfl ?_
          refine q_aload_n dX12_move_81 rfl rfl ?_
          refine q_getA dX12_move_82 fl_X12_36 (hL 70 (by decide)) sh_70 (by decide) rfl rfl ?_
          refine q_iload_n dX12_move_85 rfl rfl ?_
          obtain ⟨c2894, h⟩ := qk_some h
          refine q_iaload dX12_move_86 (hL 78 (by decide)) sh_78 (qIx_0 c2894) (qIx_1 c2894) rfl ?_
          refine q_iload_n dX12_move_87 rfl rfl ?_
          refine q_iadd dX12_move_88 rfl ?_
          refine q_aload_n dX12_move_89 rfl rfl ?_
          refine q_getA dX12_move_90 fl_X12_39 (hL 70 (by decide)) sh_70 (by decide) rfl rfl ?_
          refine q_iload_n dX12_move_93 rfl rfl ?_
          obtain ⟨c2895, h⟩ := qk_some h
          refine q_iaload dX12_move_94 (hL 79 (by decide)) sh_79 (qIx_0 c2895) (qIx_1 c2895) rfl ?_
          refine q_iload_n dX12_move_95 rfl rfl ?_
          refine q_iadd dX12_move_96 rfl ?_
          refine q_aload_n dX12_move_97 rfl rfl ?_
          refine q_getA dX12_move_98 fl_X12_42 (hL 70 (by decide)) sh_70 (by decide) rfl rfl ?_
          refine q_iload_n dX12_move_101 rfl rfl ?_
          obtain ⟨c2896, h⟩ := qk_some h
          refine q_iaload dX12_move_102 (hL 80 (by decide)) sh_80 (qIx_0 c2896) (qIx_1 c2896) rfl ?_
          obtain ⟨q2897, h2898, h⟩ := Option.bind_eq_some_iff.mp h
          refine q_callVv (as := [qi a1, qi ((q2892 78 (Int.toNat a1)) + a2), qi ((q2892 79 (Int.toNat a1)) + a3), qi (q2892 80 (Int.toNat a1))]) (c := 70) dX12_move_103 ml_X12_383 rfl rfl (hL 70 (by decide)) sh_70 rfl rfl (Nat.le_of_ble_eq_true rfl) (M_lay_ok hL (d + 3) a1 ((q2892 78 (Int.toNat a1)) + a2) ((q2892 79 (Int.toNat a1)) + a3) (q2892 80 (Int.toNat a1)) _ _ h2898) rfl ?_
          refine q_aload_n dX12_move_106 rfl rfl ?_
          refine q_getA dX12_move_107 fl_X12_48 (hL 70 (by decide)) sh_70 (by decide) rfl rfl ?_
          refine q_iload_n dX12_move_110 rfl rfl ?_
          obtain ⟨c2899, h⟩ := qk_some h
          refine q_iaload dX12_move_111 (hL 82 (by decide)) sh_82 (qIx_0 c2899) (qIx_1 c2899) rfl ?_
          cases h
          exact q_ireturn dX12_move_112 rfl hQ
        · rw [if_neg (show ¬ (q2887.1 ≤ 0) from g)] at h
          refine q_iconst dX12_move_64 rfl rfl ?_
          refine q_iload dX12_move_65 rfl rfl ?_
          refine q_isub dX12_move_67 rfl ?_
          cases h
          exact q_ireturn dX12_move_68 rfl hQ
      · rw [if_pos (show a2 = 0 from g)] at h
        refine q_iload_n dX12_move_20 rfl rfl ?_
        obtain ⟨c2900, h⟩ := qk_some h
        refine q_if_ne (tgt := 26) dX12_move_21 (by decide) rfl (qRb_R c2900)  (fun g => ?_) (fun g => ?_)
        · rw [if_neg (show ¬ (a3 = 0) from g)] at h
          refine q_aload_n dX12_move_26 rfl rfl ?_
          refine q_iload_n dX12_move_27 rfl rfl ?_
          refine q_aload_n dX12_move_28 rfl rfl ?_
          refine q_getA dX12_move_29 fl_X12_36 (hL 70 (by decide)) sh_70 (by decide) rfl rfl ?_
          refine q_iload_n dX12_move_32 rfl rfl ?_
          obtain ⟨c2901, h⟩ := qk_some h
          refine q_iaload dX12_move_33 (hL 78 (by decide)) sh_78 (qIx_0 c2901) (qIx_1 c2901) rfl ?_
          obtain ⟨c2902, h⟩ := qk_some h
          refine q_i2l dX12_move_34 (qRb_R c2902) rfl ?_
          refine q_iload_n dX12_move_35 rfl rfl ?_
          obtain ⟨c2903, h⟩ := qk_some h
          refine q_i2l dX12_move_36 (qRb_R c2903) rfl ?_
          refine q_ladd dX12_move_37 rfl ?_
          refine q_aload_n dX12_move_38 rfl rfl ?_
          refine q_getA dX12_move_39 fl_X12_39 (hL 70 (by decide)) sh_70 (by decide) rfl rfl ?_
          refine q_iload_n dX12_move_42 rfl rfl ?_
          obtain ⟨c2904, h⟩ := qk_some h
          refine q_iaload dX12_move_43 (hL 79 (by decide)) sh_79 (qIx_0 c2904) (qIx_1 c2904) rfl ?_
          obtain ⟨c2905, h⟩ := qk_some h
          refine q_i2l dX12_move_44 (qRb_R c2905) rfl ?_
          refine q_iload_n dX12_move_45 rfl rfl ?_
          obtain ⟨c2906, h⟩ := qk_some h
          refine q_i2l dX12_move_46 (qRb_R c2906) rfl ?_
          refine q_ladd dX12_move_47 rfl ?_
          refine q_aload_n dX12_move_48 rfl rfl ?_
          refine q_getA dX12_move_49 fl_X12_42 (hL 70 (by decide)) sh_70 (by decide) rfl rfl ?_
          refine q_iload_n dX12_move_52 rfl rfl ?_
          obtain ⟨c2907, h⟩ := qk_some h
          refine q_iaload dX12_move_53 (hL 80 (by decide)) sh_80 (qIx_0 c2907) (qIx_1 c2907) rfl ?_
          obtain ⟨q2908, h2909, h⟩ := Option.bind_eq_some_iff.mp h
          refine q_callVi (as := [qi a1, ql ((q2876.2 78 (Int.toNat a1)) + a2), ql ((q2876.2 79 (Int.toNat a1)) + a3), qi (q2876.2 80 (Int.toNat a1))]) (c := 70) dX12_move_54 ml_X12_390 rfl rfl (hL 70 (by decide)) sh_70 rfl rfl (Nat.le_of_ble_eq_true rfl) (M_lawOf_ok hL d a1 ((q2876.2 78 (Int.toNat a1)) + a2) ((q2876.2 79 (Int.toNat a1)) + a3) (q2876.2 80 (Int.toNat a1)) _ _ h2909) rfl ?_
          refine q_istore (lv' := [(4, qi q2908.1), (0, qr 70), (1, qi a1), (2, qi a2), (3, qi a3)]) dX12_move_57 (by decide) rfl rfl ?_
          refine q_iload dX12_move_59 rfl rfl ?_
          obtain ⟨c2910, h⟩ := qk_some h
          refine q_if_le (tgt := 69) dX12_move_61 (by decide) rfl (qRb_R c2910)  (fun g => ?_) (fun g => ?_)
          · rw [if_pos (show q2908.1 ≤ 0 from g)] at h
            refine q_aload_n dX12_move_69 rfl rfl ?_
            refine q_bipush dX12_move_70 (by decide) rfl ?_
            obtain ⟨q2911, h2912, h⟩ := Option.bind_eq_some_iff.mp h
            refine q_callVv (as := [qi 16]) (c := 70) dX12_move_72 ml_X12_414 rfl rfl (hL 70 (by decide)) sh_70 rfl rfl (Nat.le_of_ble_eq_true rfl) (M_puts_ok hL (d + 6) 16 _ _ h2912) rfl ?_
            refine q_aload_n dX12_move_75 rfl rfl ?_
            obtain ⟨q2913, h2914, h⟩ := Option.bind_eq_some_iff.mp h
            refine q_callVv (as := []) (c := 70) dX12_move_76 ml_X12_417 rfl rfl (hL 70 (by decide)) sh_70 rfl rfl (Nat.le_of_ble_eq_true rfl) (M_keeps_ok hL (d + 5) _ _ h2914) rfl ?_
            refine q_aload_n dX12_move_79 rfl rfl ?_
            refine q_iload_n dX12_move_80 rfl rfl ?_
            refine q_aload_n dX12_move_81 rfl rfl ?_
            refine q_getA dX12_move_82 fl_X12_36 (hL 70 (by decide)) sh_70 (by decide) rfl rfl ?_
            refine q_iload_n dX12_move_85 rfl rfl ?_
            obtain ⟨c2915, h⟩ := qk_some h
            refine q_iaload dX12_move_86 (hL 78 (by decide)) sh_78 (qIx_0 c2915) (qIx_1 c2915) rfl ?_
            refine q_iload_n dX12_move_87 rfl rfl ?_
            refine q_iadd dX12_move_88 rfl ?_
            refine q_aload_n dX12_move_89 rfl rfl ?_
            refine q_getA dX12_move_90 fl_X12_39 (hL 70 (by decide)) sh_70 (by decide) rfl rfl ?_
            refine q_iload_n dX12_move_93 rfl rfl ?_
            obtain ⟨c2916, h⟩ := qk_some h
            refine q_iaload dX12_move_94 (hL 79 (by decide)) sh_79 (qIx_0 c2916) (qIx_1 c2916) rfl ?_
            refine q_iload_n dX12_move_95 rfl rfl ?_
            refine q_iadd dX12_move_96 rfl ?_
            refine q_aload_n dX12_move_97 rfl rfl ?_
            refine q_getA dX12_move_98 fl_X12_42 (hL 70 (by decide)) sh_70 (by decide) rfl rfl ?_
            refine q_iload_n dX12_move_101 rfl rfl ?_
            obtain ⟨c2917, h⟩ := qk_some h
            refine q_iaload dX12_move_102 (hL 80 (by decide)) sh_80 (qIx_0 c2917) (qIx_1 c2917) rfl ?_
            obtain ⟨q2918, h2919, h⟩ := Option.bind_eq_some_iff.mp h
            refine q_callVv (as := [qi a1, qi ((q2913 78 (Int.toNat a1)) + a2), qi ((q2913 79 (Int.toNat a1)) + a3), qi (q2913 80 (Int.toNat a1))]) (c := 70) dX12_move_103 ml_X12_383 rfl rfl (hL 70 (by decide)) sh_70 rfl rfl (Nat.le_of_ble_eq_true rfl) (M_lay_ok hL (d + 3) a1 ((q2913 78 (Int.toNat a1)) + a2) ((q2913 79 (Int.toNat a1)) + a3) (q2913 80 (Int.toNat a1)) _ _ h2919) rfl ?_
            refine q_aload_n dX12_move_106 rfl rfl ?_
            refine q_getA dX12_move_107 fl_X12_48 (hL 70 (by decide)) sh_70 (by decide) rfl rfl ?_
            refine q_iload_n dX12_move_110 rfl rfl ?_
            obtain ⟨c2920, h⟩ := qk_some h
            refine q_iaload dX12_move_111 (hL 82 (by decide)) sh_82 (qIx_0 c2920) (qIx_1 c2920) rfl ?_
            cases h
            exact q_ireturn dX12_move_112 rfl hQ
          · rw [if_neg (show ¬ (q2908.1 ≤ 0) from g)] at h
            refine q_iconst dX12_move_64 rfl rfl ?_
            refine q_iload dX12_move_65 rfl rfl ?_
            refine q_isub dX12_move_67 rfl ?_
            cases h
            exact q_ireturn dX12_move_68 rfl hQ
        · rw [if_pos (show a3 = 0 from g)] at h
          refine q_iconst dX12_move_24 rfl rfl ?_
          cases h
          exact q_ireturn dX12_move_25 rfl hQ
set_option maxRecDepth 20000 in
theorem M_lawOfSwap_ok {X : qX} (hL : ∀ c, c < 93 → c ∈ qLs X) (d : Nat) (a1 : Int) (a2 : Int) (S : qSto) (o : (Int × qSto)) (h : M_lawOfSwap a1 a2 S = some o) (Q : Option qV → qSto → Prop) (hQ : Q (some (qi o.1)) o.2) : qC X (d + 7) yX12_lawOfSwap cX12_lawOfSwap 10 (some .int) [qr 70, qi a1, qi a2] S Q := by
  refine q_entry (lv := [(0, qr 70), (1, qi a1), (2, qi a2)]) pn_X12 (Nat.le_of_ble_eq_true rfl) rfl ?_
  unfold M_lawOfSwap at h
  refine q_aload_n dX12_lawOfSwap_0 rfl rfl ?_
  refine q_getA dX12_lawOfSwap_1 fl_X12_36 (hL 70 (by decide)) sh_70 (by decide) rfl rfl ?_
  refine q_iload_n dX12_lawOfSwap_4 rfl rfl ?_
  obtain ⟨c2937, h⟩ := qk_some h
  refine q_iaload dX12_lawOfSwap_5 (hL 78 (by decide)) sh_78 (qIx_0 c2937) (qIx_1 c2937) rfl ?_
  refine q_istore_n (lv' := [(3, qi (S 78 (Int.toNat a1))), (0, qr 70), (1, qi a1), (2, qi a2)]) dX12_lawOfSwap_6 (by decide) rfl rfl ?_
  refine q_aload_n dX12_lawOfSwap_7 rfl rfl ?_
  refine q_getA dX12_lawOfSwap_8 fl_X12_39 (hL 70 (by decide)) sh_70 (by decide) rfl rfl ?_
  refine q_iload_n dX12_lawOfSwap_11 rfl rfl ?_
  obtain ⟨c2938, h⟩ := qk_some h
  refine q_iaload dX12_lawOfSwap_12 (hL 79 (by decide)) sh_79 (qIx_0 c2938) (qIx_1 c2938) rfl ?_
  refine q_istore (lv' := [(4, qi (S 79 (Int.toNat a1))), (3, qi (S 78 (Int.toNat a1))), (0, qr 70), (1, qi a1), (2, qi a2)]) dX12_lawOfSwap_13 (by decide) rfl rfl ?_
  refine q_aload_n dX12_lawOfSwap_15 rfl rfl ?_
  refine q_getA dX12_lawOfSwap_16 fl_X12_42 (hL 70 (by decide)) sh_70 (by decide) rfl rfl ?_
  refine q_iload_n dX12_lawOfSwap_19 rfl rfl ?_
  obtain ⟨c2939, h⟩ := qk_some h
  refine q_iaload dX12_lawOfSwap_20 (hL 80 (by decide)) sh_80 (qIx_0 c2939) (qIx_1 c2939) rfl ?_
  refine q_istore (lv' := [(5, qi (S 80 (Int.toNat a1))), (4, qi (S 79 (Int.toNat a1))), (3, qi (S 78 (Int.toNat a1))), (0, qr 70), (1, qi a1), (2, qi a2)]) dX12_lawOfSwap_21 (by decide) rfl rfl ?_
  refine q_aload_n dX12_lawOfSwap_23 rfl rfl ?_
  refine q_getA dX12_lawOfSwap_24 fl_X12_36 (hL 70 (by decide)) sh_70 (by decide) rfl rfl ?_
  refine q_iload_n dX12_lawOfSwap_27 rfl rfl ?_
  obtain ⟨c2940, h⟩ := qk_some h
  refine q_iaload dX12_lawOfSwap_28 (hL 78 (by decide)) sh_78 (qIx_0 c2940) (qIx_1 c2940) rfl ?_
  refine q_istore (lv' := [(6, qi (S 78 (Int.toNat a2))), (5, qi (S 80 (Int.toNat a1))), (4, qi (S 79 (Int.toNat a1))), (3, qi (S 78 (Int.toNat a1))), (0, qr 70), (1, qi a1), (2, qi a2)]) dX12_lawOfSwap_29 (by decide) rfl rfl ?_
  refine q_aload_n dX12_lawOfSwap_31 rfl rfl ?_
  refine q_getA dX12_lawOfSwap_32 fl_X12_39 (hL 70 (by decide)) sh_70 (by decide) rfl rfl ?_
  refine q_iload_n dX12_lawOfSwap_35 rfl rfl ?_
  obtain ⟨c2941, h⟩ := qk_some h
  refine q_iaload dX12_lawOfSwap_36 (hL 79 (by decide)) sh_79 (qIx_0 c2941) (qIx_1 c2941) rfl ?_
  refine q_istore (lv' := [(7, qi (S 79 (Int.toNat a2))), (6, qi (S 78 (Int.toNat a2))), (5, qi (S 80 (Int.toNat a1))), (4, qi (S 79 (Int.toNat a1))), (3, qi (S 78 (Int.toNat a1))), (0, qr 70), (1, qi a1), (2, qi a2)]) dX12_lawOfSwap_37 (by decide) rfl rfl ?_
  refine q_aload_n dX12_lawOfSwap_39 rfl rfl ?_
  refine q_getA dX12_lawOfSwap_40 fl_X12_42 (hL 70 (by decide)) sh_70 (by decide) rfl rfl ?_
  refine q_iload_n dX12_lawOfSwap_43 rfl rfl ?_
  obtain ⟨c2942, h⟩ := qk_some h
  refine q_iaload dX12_lawOfSwap_44 (hL 80 (by decide)) sh_80 (qIx_0 c2942) (qIx_1 c2942) rfl ?_
  refine q_istore (lv' := [(8, qi (S 80 (Int.toNat a2))), (7, qi (S 79 (Int.toNat a2))), (6, qi (S 78 (Int.toNat a2))), (5, qi (S 80 (Int.toNat a1))), (4, qi (S 79 (Int.toNat a1))), (3, qi (S 78 (Int.toNat a1))), (0, qr 70), (1, qi a1), (2, qi a2)]) dX12_lawOfSwap_45 (by decide) rfl rfl ?_
  refine q_aload_n dX12_lawOfSwap_47 rfl rfl ?_
  refine q_iload_n dX12_lawOfSwap_48 rfl rfl ?_
  refine q_iconst dX12_lawOfSwap_49 rfl rfl ?_
  refine q_iconst dX12_lawOfSwap_50 rfl rfl ?_
  refine q_iconst dX12_lawOfSwap_51 rfl rfl ?_
  obtain ⟨q2943, h2944, h⟩ := Option.bind_eq_some_iff.mp h
  refine q_callVv (as := [qi a1, qi 0, qi 0, qi 0]) (c := 70) dX12_lawOfSwap_52 ml_X12_383 rfl rfl (hL 70 (by decide)) sh_70 rfl rfl (Nat.le_of_ble_eq_true rfl) (M_lay_ok hL (d + 3) a1 0 0 0 _ _ h2944) rfl ?_
  refine q_aload_n dX12_lawOfSwap_55 rfl rfl ?_
  refine q_iload_n dX12_lawOfSwap_56 rfl rfl ?_
  refine q_iconst dX12_lawOfSwap_57 rfl rfl ?_
  refine q_iconst dX12_lawOfSwap_58 rfl rfl ?_
  refine q_iconst dX12_lawOfSwap_59 rfl rfl ?_
  obtain ⟨q2945, h2946, h⟩ := Option.bind_eq_some_iff.mp h
  refine q_callVv (as := [qi a2, qi 0, qi 0, qi 0]) (c := 70) dX12_lawOfSwap_60 ml_X12_383 rfl rfl (hL 70 (by decide)) sh_70 rfl rfl (Nat.le_of_ble_eq_true rfl) (M_lay_ok hL (d + 3) a2 0 0 0 _ _ h2946) rfl ?_
  refine q_aload_n dX12_lawOfSwap_63 rfl rfl ?_
  refine q_iload_n dX12_lawOfSwap_64 rfl rfl ?_
  refine q_iload dX12_lawOfSwap_65 rfl rfl ?_
  obtain ⟨c2947, h⟩ := qk_some h
  refine q_i2l dX12_lawOfSwap_67 (qRb_R c2947) rfl ?_
  refine q_iload dX12_lawOfSwap_68 rfl rfl ?_
  obtain ⟨c2948, h⟩ := qk_some h
  refine q_i2l dX12_lawOfSwap_70 (qRb_R c2948) rfl ?_
  refine q_iload dX12_lawOfSwap_71 rfl rfl ?_
  obtain ⟨q2949, h2950, h⟩ := Option.bind_eq_some_iff.mp h
  refine q_callVi (as := [qi a1, ql (S 78 (Int.toNat a2)), ql (S 79 (Int.toNat a2)), qi (S 80 (Int.toNat a1))]) (c := 70) dX12_lawOfSwap_73 ml_X12_390 rfl rfl (hL 70 (by decide)) sh_70 rfl rfl (Nat.le_of_ble_eq_true rfl) (M_lawOf_ok hL d a1 (S 78 (Int.toNat a2)) (S 79 (Int.toNat a2)) (S 80 (Int.toNat a1)) _ _ h2950) rfl ?_
  refine q_istore (lv' := [(9, qi q2949.1), (8, qi (S 80 (Int.toNat a2))), (7, qi (S 79 (Int.toNat a2))), (6, qi (S 78 (Int.toNat a2))), (5, qi (S 80 (Int.toNat a1))), (4, qi (S 79 (Int.toNat a1))), (3, qi (S 78 (Int.toNat a1))), (0, qr 70), (1, qi a1), (2, qi a2)]) dX12_lawOfSwap_76 (by decide) rfl rfl ?_
  refine q_iload dX12_lawOfSwap_78 rfl rfl ?_
  obtain ⟨c2951, h⟩ := qk_some h
  refine q_if_le (tgt := 86) dX12_lawOfSwap_80 (by decide) rfl (qRb_R c2951)  (fun g => ?_) (fun g => ?_)
  · rw [if_pos (show q2949.1 ≤ 0 from g)] at h
    refine q_aload_n dX12_lawOfSwap_86 rfl rfl ?_
    refine q_iload_n dX12_lawOfSwap_87 rfl rfl ?_
    refine q_iload dX12_lawOfSwap_88 rfl rfl ?_
    refine q_iload dX12_lawOfSwap_90 rfl rfl ?_
    refine q_iload dX12_lawOfSwap_92 rfl rfl ?_
    obtain ⟨q2952, h2953, h⟩ := Option.bind_eq_some_iff.mp h
    refine q_callVv (as := [qi a1, qi (S 78 (Int.toNat a2)), qi (S 79 (Int.toNat a2)), qi (S 80 (Int.toNat a1))]) (c := 70) dX12_lawOfSwap_94 ml_X12_383 rfl rfl (hL 70 (by decide)) sh_70 rfl rfl (Nat.le_of_ble_eq_true rfl) (M_lay_ok hL (d + 3) a1 (S 78 (Int.toNat a2)) (S 79 (Int.toNat a2)) (S 80 (Int.toNat a1)) _ _ h2953) rfl ?_
    refine q_aload_n dX12_lawOfSwap_97 rfl rfl ?_
    refine q_iload_n dX12_lawOfSwap_98 rfl rfl ?_
    refine q_iload_n dX12_lawOfSwap_99 rfl rfl ?_
    obtain ⟨c2954, h⟩ := qk_some h
    refine q_i2l dX12_lawOfSwap_100 (qRb_R c2954) rfl ?_
    refine q_iload dX12_lawOfSwap_101 rfl rfl ?_
    obtain ⟨c2955, h⟩ := qk_some h
    refine q_i2l dX12_lawOfSwap_103 (qRb_R c2955) rfl ?_
    refine q_iload dX12_lawOfSwap_104 rfl rfl ?_
    obtain ⟨q2956, h2957, h⟩ := Option.bind_eq_some_iff.mp h
    refine q_callVi (as := [qi a2, ql (S 78 (Int.toNat a1)), ql (S 79 (Int.toNat a1)), qi (S 80 (Int.toNat a2))]) (c := 70) dX12_lawOfSwap_106 ml_X12_390 rfl rfl (hL 70 (by decide)) sh_70 rfl rfl (Nat.le_of_ble_eq_true rfl) (M_lawOf_ok hL d a2 (S 78 (Int.toNat a1)) (S 79 (Int.toNat a1)) (S 80 (Int.toNat a2)) _ _ h2957) rfl ?_
    refine q_istore (lv' := [(9, qi q2956.1), (8, qi (S 80 (Int.toNat a2))), (7, qi (S 79 (Int.toNat a2))), (6, qi (S 78 (Int.toNat a2))), (5, qi (S 80 (Int.toNat a1))), (4, qi (S 79 (Int.toNat a1))), (3, qi (S 78 (Int.toNat a1))), (0, qr 70), (1, qi a1), (2, qi a2)]) dX12_lawOfSwap_109 (by decide) rfl rfl ?_
    refine q_iload dX12_lawOfSwap_111 rfl rfl ?_
    obtain ⟨c2958, h⟩ := qk_some h
    refine q_if_le (tgt := 119) dX12_lawOfSwap_113 (by decide) rfl (qRb_R c2958)  (fun g => ?_) (fun g => ?_)
    · rw [if_pos (show q2956.1 ≤ 0 from g)] at h
      refine q_aload_n dX12_lawOfSwap_119 rfl rfl ?_
      refine q_iload_n dX12_lawOfSwap_120 rfl rfl ?_
      refine q_iload_n dX12_lawOfSwap_121 rfl rfl ?_
      refine q_iload dX12_lawOfSwap_122 rfl rfl ?_
      refine q_iload dX12_lawOfSwap_124 rfl rfl ?_
      obtain ⟨q2959, h2960, h⟩ := Option.bind_eq_some_iff.mp h
      refine q_callVv (as := [qi a2, qi (S 78 (Int.toNat a1)), qi (S 79 (Int.toNat a1)), qi (S 80 (Int.toNat a2))]) (c := 70) dX12_lawOfSwap_126 ml_X12_383 rfl rfl (hL 70 (by decide)) sh_70 rfl rfl (Nat.le_of_ble_eq_true rfl) (M_lay_ok hL (d + 3) a2 (S 78 (Int.toNat a1)) (S 79 (Int.toNat a1)) (S 80 (Int.toNat a2)) _ _ h2960) rfl ?_
      refine q_iconst dX12_lawOfSwap_129 rfl rfl ?_
      cases h
      exact q_ireturn dX12_lawOfSwap_130 rfl hQ
    · rw [if_neg (show ¬ (q2956.1 ≤ 0) from g)] at h
      refine q_iload dX12_lawOfSwap_116 rfl rfl ?_
      cases h
      exact q_ireturn dX12_lawOfSwap_118 rfl hQ
  · rw [if_neg (show ¬ (q2949.1 ≤ 0) from g)] at h
    refine q_iload dX12_lawOfSwap_83 rfl rfl ?_
    cases h
    exact q_ireturn dX12_lawOfSwap_85 rfl hQ
set_option maxRecDepth 20000 in
theorem M_takes_L7_ok {X : qX} (hL : ∀ c, c < 93 → c ∈ qLs X) (d : Nat) {Q : Option qV → qSto → Prop} : ∀ (n : Nat) (x2 : Int) (x3 : Int) (S : qSto) (o : qSto), M_takes_L7 n x2 x3 S = some o → (qW X (d + 4) yX12_takes cX12_takes 4 none 63 [] [] o Q) → qW X (d + 4) yX12_takes cX12_takes 4 none 7 [(0, qr 70), (2, qi x2), (3, qi x3)] [] S Q := by
  intro n
  induction n with
  | zero =>
    intro x2 x3 S o h
    simp [M_takes_L7] at h
  | succ n ih =>
    intro x2 x3 S o h hE
    rw [M_takes_L7] at h
    refine q_iload_n dX12_takes_7 rfl rfl ?_
    refine q_aload_n dX12_takes_8 rfl rfl ?_
    refine q_getA dX12_takes_9 fl_X12_13 (hL 70 (by decide)) sh_70 (by decide) rfl rfl ?_
    refine q_bipush dX12_takes_12 (by decide) rfl ?_
    refine q_iaload dX12_takes_14 (hL 72 (by decide)) sh_72 (by decide) (by decide) rfl ?_
    obtain ⟨c2967, h⟩ := qk_some h
    obtain ⟨c2968, h⟩ := qk_some h
    refine q_icmp_ge (tgt := 63) dX12_takes_15 (by decide) rfl (qRb_R c2967) (qRb_R c2968) (fun g => ?_) (fun g => ?_)
    · rw [if_pos (show (S 72 9) ≤ x3 from g)] at h
      cases h
      exact q_pick [] rfl (hE)
    · rw [if_neg (show ¬ ((S 72 9) ≤ x3) from g)] at h
      refine q_aload_n dX12_takes_18 rfl rfl ?_
      refine q_iload_n dX12_takes_19 rfl rfl ?_
      refine q_aload_n dX12_takes_20 rfl rfl ?_
      refine q_getA dX12_takes_21 fl_X12_57 (hL 70 (by decide)) sh_70 (by decide) rfl rfl ?_
      refine q_iload_n dX12_takes_24 rfl rfl ?_
      refine q_iconst dX12_takes_25 rfl rfl ?_
      refine q_iload_n dX12_takes_26 rfl rfl ?_
      refine q_imul dX12_takes_27 rfl ?_
      refine q_iadd dX12_takes_28 rfl ?_
      obtain ⟨c2969, h⟩ := qk_some h
      refine q_iaload dX12_takes_29 (hL 85 (by decide)) sh_85 (qIx_0 c2969) (qIx_1 c2969) rfl ?_
      refine q_aload_n dX12_takes_30 rfl rfl ?_
      refine q_getA dX12_takes_31 fl_X12_57 (hL 70 (by decide)) sh_70 (by decide) rfl rfl ?_
      refine q_iload_n dX12_takes_34 rfl rfl ?_
      refine q_iconst dX12_takes_35 rfl rfl ?_
      refine q_iload_n dX12_takes_36 rfl rfl ?_
      refine q_imul dX12_takes_37 rfl ?_
      refine q_iadd dX12_takes_38 rfl ?_
      refine q_iconst dX12_takes_39 rfl rfl ?_
      refine q_iadd dX12_takes_40 rfl ?_
      obtain ⟨c2970, h⟩ := qk_some h
      refine q_iaload dX12_takes_41 (hL 85 (by decide)) sh_85 (qIx_0 c2970) (qIx_1 c2970) rfl ?_
      refine q_aload_n dX12_takes_42 rfl rfl ?_
      refine q_getA dX12_takes_43 fl_X12_57 (hL 70 (by decide)) sh_70 (by decide) rfl rfl ?_
      refine q_iload_n dX12_takes_46 rfl rfl ?_
      refine q_iconst dX12_takes_47 rfl rfl ?_
      refine q_iload_n dX12_takes_48 rfl rfl ?_
      refine q_imul dX12_takes_49 rfl ?_
      refine q_iadd dX12_takes_50 rfl ?_
      refine q_iconst dX12_takes_51 rfl rfl ?_
      refine q_iadd dX12_takes_52 rfl ?_
      obtain ⟨c2971, h⟩ := qk_some h
      refine q_iaload dX12_takes_53 (hL 85 (by decide)) sh_85 (qIx_0 c2971) (qIx_1 c2971) rfl ?_
      obtain ⟨q2972, h2973, h⟩ := Option.bind_eq_some_iff.mp h
      refine q_callVv (as := [qi x3, qi (S 85 (Int.toNat (x2 + (3 * x3)))), qi (S 85 (Int.toNat ((x2 + (3 * x3)) + 1))), qi (S 85 (Int.toNat ((x2 + (3 * x3)) + 2)))]) (c := 70) dX12_takes_54 ml_X12_383 rfl rfl (hL 70 (by decide)) sh_70 rfl rfl (Nat.le_of_ble_eq_true rfl) (M_lay_ok hL d x3 (S 85 (Int.toNat (x2 + (3 * x3)))) (S 85 (Int.toNat ((x2 + (3 * x3)) + 1))) (S 85 (Int.toNat ((x2 + (3 * x3)) + 2))) _ _ h2973) rfl ?_
      refine q_iinc (lv' := [(3, qi (x3 + 1)), (0, qr 70), (2, qi x2)]) dX12_takes_57 (by decide) rfl rfl rfl ?_
      refine q_goto (pc' := 7) dX12_takes_60 (by decide) ?_
      exact q_pick [1, 2, 0] rfl (ih x2 (x3 + 1) _ _ h hE)
set_option maxRecDepth 20000 in
theorem M_takes_ok {X : qX} (hL : ∀ c, c < 93 → c ∈ qLs X) (d : Nat) (a1 : Int) (S : qSto) (o : qSto) (h : M_takes a1 S = some o) (Q : Option qV → qSto → Prop) (hQ : Q none o) : qC X (d + 4) yX12_takes cX12_takes 4 none [qr 70, qi a1] S Q := by
  refine q_entry (lv := [(0, qr 70), (1, qi a1)]) pn_X12 (Nat.le_of_ble_eq_true rfl) rfl ?_
  unfold M_takes at h
  refine q_bipush dX12_takes_0 (by decide) rfl ?_
  refine q_iload_n dX12_takes_2 rfl rfl ?_
  refine q_imul dX12_takes_3 rfl ?_
  refine q_istore_n (lv' := [(2, qi (42 * a1)), (0, qr 70), (1, qi a1)]) dX12_takes_4 (by decide) rfl rfl ?_
  refine q_iconst dX12_takes_5 rfl rfl ?_
  refine q_istore_n (lv' := [(3, qi 0), (2, qi (42 * a1)), (0, qr 70), (1, qi a1)]) dX12_takes_6 (by decide) rfl rfl ?_
  obtain ⟨q2974, h2975, h⟩ := Option.bind_eq_some_iff.mp h
  refine q_pick [2, 1, 0] rfl (M_takes_L7_ok hL d qF (42 * a1) 0 _ _ h2975 ?_)
  cases h
  exact q_return dX12_takes_63 rfl hQ
set_option maxRecDepth 20000 in
theorem M_swap_ok {X : qX} (hL : ∀ c, c < 93 → c ∈ qLs X) (d : Nat) (a1 : Int) (a2 : Int) (S : qSto) (o : (Int × qSto)) (h : M_swap a1 a2 S = some o) (Q : Option qV → qSto → Prop) (hQ : Q (some (qi o.1)) o.2) : qC X (d + 8) yX12_swap cX12_swap 4 (some .int) [qr 70, qi a1, qi a2] S Q := by
  refine q_entry (lv := [(0, qr 70), (1, qi a1), (2, qi a2)]) pn_X12 (Nat.le_of_ble_eq_true rfl) rfl ?_
  unfold M_swap at h
  refine q_aload_n dX12_swap_0 rfl rfl ?_
  refine q_iload_n dX12_swap_1 rfl rfl ?_
  obtain ⟨q2921, h2922, h⟩ := Option.bind_eq_some_iff.mp h
  refine q_callVi (as := [qi a1]) (c := 70) dX12_swap_2 ml_X12_297 rfl rfl (hL 70 (by decide)) sh_70 rfl rfl (Nat.le_of_ble_eq_true rfl) (M_isShip_ok hL (d + 6) a1 _ _ h2922) rfl ?_
  obtain ⟨c2923, h⟩ := qk_some h
  refine q_if_eq (tgt := 21) dX12_swap_5 (by decide) rfl (qRb_R c2923)  (fun g => ?_) (fun g => ?_)
  · rw [if_pos (show q2921.1 = 0 from g)] at h
    refine q_iconst dX12_swap_21 rfl rfl ?_
    cases h
    exact q_ireturn dX12_swap_22 rfl hQ
  · rw [if_neg (show ¬ (q2921.1 = 0) from g)] at h
    refine q_aload_n dX12_swap_8 rfl rfl ?_
    refine q_iload_n dX12_swap_9 rfl rfl ?_
    obtain ⟨q2924, h2925, h⟩ := Option.bind_eq_some_iff.mp h
    refine q_callVi (as := [qi a2]) (c := 70) dX12_swap_10 ml_X12_297 rfl rfl (hL 70 (by decide)) sh_70 rfl rfl (Nat.le_of_ble_eq_true rfl) (M_isShip_ok hL (d + 6) a2 _ _ h2925) rfl ?_
    obtain ⟨c2926, h⟩ := qk_some h
    refine q_if_eq (tgt := 21) dX12_swap_13 (by decide) rfl (qRb_R c2926)  (fun g => ?_) (fun g => ?_)
    · rw [if_pos (show q2924.1 = 0 from g)] at h
      refine q_iconst dX12_swap_21 rfl rfl ?_
      cases h
      exact q_ireturn dX12_swap_22 rfl hQ
    · rw [if_neg (show ¬ (q2924.1 = 0) from g)] at h
      refine q_iload_n dX12_swap_16 rfl rfl ?_
      refine q_iload_n dX12_swap_17 rfl rfl ?_
      obtain ⟨c2927, h⟩ := qk_some h
      obtain ⟨c2928, h⟩ := qk_some h
      refine q_icmp_ne (tgt := 23) dX12_swap_18 (by decide) rfl (qRb_R c2927) (qRb_R c2928) (fun g => ?_) (fun g => ?_)
      · rw [if_neg (show ¬ (a1 = a2) from g)] at h
        refine q_aload_n dX12_swap_23 rfl rfl ?_
        refine q_iload_n dX12_swap_24 rfl rfl ?_
        obtain ⟨q2929, h2930, h⟩ := Option.bind_eq_some_iff.mp h
        refine q_callVi (as := [qi a1]) (c := 70) dX12_swap_25 ml_X12_326 rfl rfl (hL 70 (by decide)) sh_70 rfl rfl (Nat.le_of_ble_eq_true rfl) (M_stays_ok hL (d + 7) a1 _ _ h2930) rfl ?_
        obtain ⟨c2931, h⟩ := qk_some h
        refine q_if_eq (tgt := 39) dX12_swap_28 (by decide) rfl (qRb_R c2931)  (fun g => ?_) (fun g => ?_)
        · rw [if_pos (show q2929.1 = 0 from g)] at h
          refine q_iconst dX12_swap_39 rfl rfl ?_
          cases h
          exact q_ireturn dX12_swap_40 rfl hQ
        · rw [if_neg (show ¬ (q2929.1 = 0) from g)] at h
          refine q_aload_n dX12_swap_31 rfl rfl ?_
          refine q_iload_n dX12_swap_32 rfl rfl ?_
          obtain ⟨q2932, h2933, h⟩ := Option.bind_eq_some_iff.mp h
          refine q_callVi (as := [qi a2]) (c := 70) dX12_swap_33 ml_X12_326 rfl rfl (hL 70 (by decide)) sh_70 rfl rfl (Nat.le_of_ble_eq_true rfl) (M_stays_ok hL (d + 7) a2 _ _ h2933) rfl ?_
          obtain ⟨c2934, h⟩ := qk_some h
          refine q_if_ne (tgt := 41) dX12_swap_36 (by decide) rfl (qRb_R c2934)  (fun g => ?_) (fun g => ?_)
          · rw [if_neg (show ¬ (q2932.1 = 0) from g)] at h
            refine q_aload_n dX12_swap_41 rfl rfl ?_
            refine q_bipush dX12_swap_42 (by decide) rfl ?_
            obtain ⟨q2935, h2936, h⟩ := Option.bind_eq_some_iff.mp h
            refine q_callVv (as := [qi 16]) (c := 70) dX12_swap_44 ml_X12_414 rfl rfl (hL 70 (by decide)) sh_70 rfl rfl (Nat.le_of_ble_eq_true rfl) (M_puts_ok hL (d + 7) 16 _ _ h2936) rfl ?_
            refine q_aload_n dX12_swap_47 rfl rfl ?_
            refine q_iload_n dX12_swap_48 rfl rfl ?_
            refine q_iload_n dX12_swap_49 rfl rfl ?_
            obtain ⟨q2961, h2962, h⟩ := Option.bind_eq_some_iff.mp h
            refine q_callVi (as := [qi a1, qi a2]) (c := 70) dX12_swap_50 ml_X12_423 rfl rfl (hL 70 (by decide)) sh_70 rfl rfl (Nat.le_of_ble_eq_true rfl) (M_lawOfSwap_ok hL d a1 a2 _ _ h2962) rfl ?_
            refine q_istore_n (lv' := [(3, qi q2961.1), (0, qr 70), (1, qi a1), (2, qi a2)]) dX12_swap_53 (by decide) rfl rfl ?_
            refine q_iload_n dX12_swap_54 rfl rfl ?_
            obtain ⟨c2963, h⟩ := qk_some h
            refine q_if_le (tgt := 68) dX12_swap_55 (by decide) rfl (qRb_R c2963)  (fun g => ?_) (fun g => ?_)
            · rw [if_pos (show q2961.1 ≤ 0 from g)] at h
              refine q_aload_n dX12_swap_68 rfl rfl ?_
              obtain ⟨q2964, h2965, h⟩ := Option.bind_eq_some_iff.mp h
              refine q_callVv (as := []) (c := 70) dX12_swap_69 ml_X12_417 rfl rfl (hL 70 (by decide)) sh_70 rfl rfl (Nat.le_of_ble_eq_true rfl) (M_keeps_ok hL (d + 6) _ _ h2965) rfl ?_
              refine q_aload_n dX12_swap_72 rfl rfl ?_
              refine q_getA dX12_swap_73 fl_X12_48 (hL 70 (by decide)) sh_70 (by decide) rfl rfl ?_
              refine q_iload_n dX12_swap_76 rfl rfl ?_
              obtain ⟨c2966, h⟩ := qk_some h
              refine q_iaload dX12_swap_77 (hL 82 (by decide)) sh_82 (qIx_0 c2966) (qIx_1 c2966) rfl ?_
              cases h
              exact q_ireturn dX12_swap_78 rfl hQ
            · rw [if_neg (show ¬ (q2961.1 ≤ 0) from g)] at h
              refine q_aload_n dX12_swap_58 rfl rfl ?_
              refine q_bipush dX12_swap_59 (by decide) rfl ?_
              obtain ⟨q2976, h2977, h⟩ := Option.bind_eq_some_iff.mp h
              refine q_callVv (as := [qi 16]) (c := 70) dX12_swap_61 ml_X12_426 rfl rfl (hL 70 (by decide)) sh_70 rfl rfl (Nat.le_of_ble_eq_true rfl) (M_takes_ok hL (d + 3) 16 _ _ h2977) rfl ?_
              refine q_iconst dX12_swap_64 rfl rfl ?_
              refine q_iload_n dX12_swap_65 rfl rfl ?_
              refine q_isub dX12_swap_66 rfl ?_
              cases h
              exact q_ireturn dX12_swap_67 rfl hQ
          · rw [if_pos (show q2932.1 = 0 from g)] at h
            refine q_iconst dX12_swap_39 rfl rfl ?_
            cases h
            exact q_ireturn dX12_swap_40 rfl hQ
      · rw [if_pos (show a1 = a2 from g)] at h
        refine q_iconst dX12_swap_21 rfl rfl ?_
        cases h
        exact q_ireturn dX12_swap_22 rfl hQ
