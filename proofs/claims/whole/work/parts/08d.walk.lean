set_option maxRecDepth 20000 in
theorem Stays_lay_ok {X : qX} (hL : ∀ c, c < 93 → c ∈ qLs X) (d : Nat) (a1 : Int) (a2 : Int) (a3 : Int) (a4 : Int) (S : qSto) (o : qSto) (h : Stays_lay a1 a2 a3 a4 S = some o) (Q : Option qV → qSto → Prop) (hQ : Q none o) : qC X (d + 3) yX7_lay cX7_lay 5 none [qr 6, qi a1, qi a2, qi a3, qi a4] S Q := by
  refine q_entry (lv := [(0, qr 6), (1, qi a1), (2, qi a2), (3, qi a3), (4, qi a4)]) pn_X7 (Nat.le_of_ble_eq_true rfl) rfl ?_
  unfold Stays_lay at h
  refine q_aload_n dX7_lay_0 rfl rfl ?_
  refine q_iload_n dX7_lay_1 rfl rfl ?_
  refine q_iload_n dX7_lay_2 rfl rfl ?_
  refine q_iload_n dX7_lay_3 rfl rfl ?_
  refine q_iload dX7_lay_4 rfl rfl ?_
  refine q_aload_n dX7_lay_6 rfl rfl ?_
  refine q_getA dX7_lay_7 fl_X7_36 (hL 6 (by decide)) sh_6 (by decide) rfl rfl ?_
  refine q_iload_n dX7_lay_10 rfl rfl ?_
  refine q_iload dX7_lay_11 rfl rfl ?_
  obtain ⟨q889, h890, h⟩ := Option.bind_eq_some_iff.mp h
  refine q_callVi (as := [qi a1, qi a4]) (c := 2) dX7_lay_13 ml_X7_58 rfl rfl (hL 2 (by decide)) sh_2 rfl rfl (Nat.le_of_ble_eq_true rfl) (Told_workWith_ok hL d a1 a4 _ _ h890) rfl ?_
  obtain ⟨q891, h892, h⟩ := Option.bind_eq_some_iff.mp h
  refine q_callVv (as := [qi a1, qi a2, qi a3, qi a4, qi q889.1]) (c := 6) dX7_lay_16 ml_X7_61 rfl rfl (hL 6 (by decide)) sh_6 rfl rfl (Nat.le_of_ble_eq_true rfl) (Stays_propose_ok hL (d + 1) a1 a2 a3 a4 q889.1 _ _ h892) rfl ?_
  refine q_aload_n dX7_lay_19 rfl rfl ?_
  refine q_getA dX7_lay_20 fl_X7_27 (hL 6 (by decide)) sh_6 (by decide) rfl rfl ?_
  refine q_iload_n dX7_lay_23 rfl rfl ?_
  refine q_aload_n dX7_lay_24 rfl rfl ?_
  refine q_getA dX7_lay_25 fl_X7_40 (hL 6 (by decide)) sh_6 (by decide) rfl rfl ?_
  refine q_aload_n dX7_lay_28 rfl rfl ?_
  refine q_getA dX7_lay_29 fl_X7_36 (hL 6 (by decide)) sh_6 (by decide) rfl rfl ?_
  refine q_iload_n dX7_lay_32 rfl rfl ?_
  refine q_iconst dX7_lay_33 rfl rfl ?_
  obtain ⟨q893, h894, h⟩ := Option.bind_eq_some_iff.mp h
  refine q_callVi (as := [qi a1, qi 2]) (c := 2) dX7_lay_34 ml_X7_54 rfl rfl (hL 2 (by decide)) sh_2 rfl rfl (Nat.le_of_ble_eq_true rfl) (Told_contractOf_ok hL (d + 2) a1 2 _ _ h894) rfl ?_
  refine q_iload_n dX7_lay_37 rfl rfl ?_
  refine q_aload_n dX7_lay_38 rfl rfl ?_
  refine q_getA dX7_lay_39 fl_X7_24 (hL 6 (by decide)) sh_6 (by decide) rfl rfl ?_
  refine q_iload_n dX7_lay_42 rfl rfl ?_
  obtain ⟨c895, h⟩ := qk_some h
  refine q_iaload dX7_lay_43 (hL 41 (by decide)) sh_41 (qIx_0 c895) (qIx_1 c895) rfl ?_
  refine q_iadd dX7_lay_44 rfl ?_
  obtain ⟨q896, h897, h⟩ := Option.bind_eq_some_iff.mp h
  refine q_callVi (as := [qi q893.1, qi (a3 + (q893.2 41 (Int.toNat a1)))]) (c := 5) dX7_lay_45 ml_X7_65 rfl rfl (hL 5 (by decide)) sh_5 rfl rfl (Nat.le_of_ble_eq_true rfl) (Waters_firstOpen_ok hL (d + 1) q893.1 (a3 + (q893.2 41 (Int.toNat a1))) _ _ h897) rfl ?_
  obtain ⟨c898, h⟩ := qk_some h
  refine q_iastore dX7_lay_48 (hL 42 (by decide)) sh_42 (qIx_0 c898) (qIx_1 c898) rfl ?_
  refine q_aload_n dX7_lay_49 rfl rfl ?_
  refine q_iload_n dX7_lay_50 rfl rfl ?_
  refine q_iload dX7_lay_51 rfl rfl ?_
  obtain ⟨q899, h900, h⟩ := Option.bind_eq_some_iff.mp h
  refine q_callVv (as := [qi a1, qi a4]) (c := 6) dX7_lay_53 ml_X7_70 rfl rfl (hL 6 (by decide)) sh_6 rfl rfl (Nat.le_of_ble_eq_true rfl) (Stays_addBusy_ok hL (d + 1) a1 a4 _ _ h900) rfl ?_
  cases h
  exact q_return dX7_lay_56 rfl hQ
set_option maxRecDepth 20000 in
theorem Stays_layBack_ok {X : qX} (hL : ∀ c, c < 93 → c ∈ qLs X) (d : Nat) (a1 : Int) (S : qSto) (o : qSto) (h : Stays_layBack a1 S = some o) (Q : Option qV → qSto → Prop) (hQ : Q none o) : qC X (d + 4) yX7_layBack cX7_layBack 2 none [qr 6, qi a1] S Q := by
  refine q_entry (lv := [(0, qr 6), (1, qi a1)]) pn_X7 (Nat.le_of_ble_eq_true rfl) rfl ?_
  unfold Stays_layBack at h
  refine q_aload_n dX7_layBack_0 rfl rfl ?_
  refine q_getI dX7_layBack_1 fl_X7_85 (hL 6 (by decide)) sh_6 (by decide) rfl rfl ?_
  obtain ⟨c888, h⟩ := qk_some h
  refine q_if_le (tgt := 24) dX7_layBack_4 (by decide) rfl (qRb_R c888)  (fun g => ?_) (fun g => ?_)
  · rw [if_pos (show (S 6 13) ≤ 0 from g)] at h
    cases h
    exact q_return dX7_layBack_24 rfl hQ
  · rw [if_neg (show ¬ ((S 6 13) ≤ 0) from g)] at h
    refine q_aload_n dX7_layBack_7 rfl rfl ?_
    refine q_iload_n dX7_layBack_8 rfl rfl ?_
    refine q_aload_n dX7_layBack_9 rfl rfl ?_
    refine q_getI dX7_layBack_10 fl_X7_79 (hL 6 (by decide)) sh_6 (by decide) rfl rfl ?_
    refine q_aload_n dX7_layBack_13 rfl rfl ?_
    refine q_getI dX7_layBack_14 fl_X7_82 (hL 6 (by decide)) sh_6 (by decide) rfl rfl ?_
    refine q_aload_n dX7_layBack_17 rfl rfl ?_
    refine q_getI dX7_layBack_18 fl_X7_85 (hL 6 (by decide)) sh_6 (by decide) rfl rfl ?_
    obtain ⟨q901, h902, h⟩ := Option.bind_eq_some_iff.mp h
    refine q_callVv (as := [qi a1, qi (S 6 11), qi (S 6 12), qi (S 6 13)]) (c := 6) dX7_layBack_21 ml_X7_92 rfl rfl (hL 6 (by decide)) sh_6 rfl rfl (Nat.le_of_ble_eq_true rfl) (Stays_lay_ok hL d a1 (S 6 11) (S 6 12) (S 6 13) _ _ h902) rfl ?_
    cases h
    exact q_return dX7_layBack_24 rfl hQ
set_option maxRecDepth 20000 in
theorem C_breaks_ok {X : qX} (hL : ∀ c, c < 93 → c ∈ qLs X) (d : Nat) (a1 : Int) (a2 : Int) (a3 : Int) (a4 : Int) (S : qSto) (o : (Int × qSto)) (h : C_breaks a1 a2 a3 a4 S = some o) (Q : Option qV → qSto → Prop) (hQ : Q (some (qi o.1)) o.2) : qC X (d + 5) yX11_breaks cX11_breaks 6 (some .int) [qr 0, qi a1, qi a2, qi a3, qi a4] S Q := by
  refine q_entry (lv := [(0, qr 0), (1, qi a1), (2, qi a2), (3, qi a3), (4, qi a4)]) pn_X11 (Nat.le_of_ble_eq_true rfl) rfl ?_
  unfold C_breaks at h
  refine q_aload_n dX11_breaks_0 rfl rfl ?_
  refine q_iload_n dX11_breaks_1 rfl rfl ?_
  obtain ⟨q648, h649, h⟩ := Option.bind_eq_some_iff.mp h
  refine q_callVi (as := [qi a1]) (c := 0) dX11_breaks_2 ml_X11_216 rfl rfl (hL 0 (by decide)) sh_0 rfl rfl (Nat.le_of_ble_eq_true rfl) (C_isShip_ok hL (d + 4) a1 _ _ h649) rfl ?_
  obtain ⟨c650, h⟩ := qk_some h
  refine q_if_ne (tgt := 10) dX11_breaks_5 (by decide) rfl (qRb_R c650)  (fun g => ?_) (fun g => ?_)
  · rw [if_neg (show ¬ (q648.1 = 0) from g)] at h
    refine q_aload_n dX11_breaks_10 rfl rfl ?_
    refine q_getA dX11_breaks_11 fl_X11_49 (hL 0 (by decide)) sh_0 (by decide) rfl rfl ?_
    refine q_iload_n dX11_breaks_14 rfl rfl ?_
    obtain ⟨q672, h673, h⟩ := Option.bind_eq_some_iff.mp h
    refine q_callVv (as := [qi a1]) (c := 6) dX11_breaks_15 ml_X11_260 rfl rfl (hL 6 (by decide)) sh_6 rfl rfl (Nat.le_of_ble_eq_true rfl) (Stays_takeUp_ok hL (d + 1) a1 _ _ h673) rfl ?_
    refine q_aload_n dX11_breaks_18 rfl rfl ?_
    refine q_getA dX11_breaks_19 fl_X11_67 (hL 0 (by decide)) sh_0 (by decide) rfl rfl ?_
    refine q_iload_n dX11_breaks_22 rfl rfl ?_
    refine q_iload_n dX11_breaks_23 rfl rfl ?_
    refine q_iload_n dX11_breaks_24 rfl rfl ?_
    refine q_iload dX11_breaks_25 rfl rfl ?_
    obtain ⟨q886, h887, h⟩ := Option.bind_eq_some_iff.mp h
    refine q_callVi (as := [qi a1, qi a2, qi a3, qi a4]) (c := 8) dX11_breaks_27 ml_X11_263 rfl rfl (hL 8 (by decide)) sh_8 rfl rfl (Nat.le_of_ble_eq_true rfl) (Laws_firstBroken_ok hL d a1 a2 a3 a4 _ _ h887) rfl ?_
    refine q_istore (lv' := [(5, qi q886.1), (0, qr 0), (1, qi a1), (2, qi a2), (3, qi a3), (4, qi a4)]) dX11_breaks_30 (by decide) rfl rfl ?_
    refine q_aload_n dX11_breaks_32 rfl rfl ?_
    refine q_getA dX11_breaks_33 fl_X11_49 (hL 0 (by decide)) sh_0 (by decide) rfl rfl ?_
    refine q_iload_n dX11_breaks_36 rfl rfl ?_
    obtain ⟨q903, h904, h⟩ := Option.bind_eq_some_iff.mp h
    refine q_callVv (as := [qi a1]) (c := 6) dX11_breaks_37 ml_X11_267 rfl rfl (hL 6 (by decide)) sh_6 rfl rfl (Nat.le_of_ble_eq_true rfl) (Stays_layBack_ok hL d a1 _ _ h904) rfl ?_
    refine q_iload dX11_breaks_40 rfl rfl ?_
    cases h
    exact q_ireturn dX11_breaks_42 rfl hQ
  · rw [if_pos (show q648.1 = 0 from g)] at h
    refine q_iconst dX11_breaks_8 rfl rfl ?_
    cases h
    exact q_ireturn dX11_breaks_9 rfl hQ
set_option maxRecDepth 20000 in
theorem C_inWay_L44_ok {X : qX} (hL : ∀ c, c < 93 → c ∈ qLs X) (d : Nat) {Q : Option qV → qSto → Prop} : ∀ (n : Nat) (x1 : Int) (x2 : Int) (x3 : Int) (x5 : Int) (x6 : Int) (S : qSto) (o : (Int × qSto)), C_inWay_L44 n x1 x2 x3 x5 x6 S = some o → (qW X (d + 4) yX11_inWay cX11_inWay 7 (some .int) 86 [(5, qi o.1)] [] o.2 Q) → qW X (d + 4) yX11_inWay cX11_inWay 7 (some .int) 44 [(0, qr 0), (1, qi x1), (2, qi x2), (3, qi x3), (5, qi x5), (6, qi x6)] [] S Q := by
  intro n
  induction n with
  | zero =>
    intro x1 x2 x3 x5 x6 S o h
    simp [C_inWay_L44] at h
  | succ n ih =>
    intro x1 x2 x3 x5 x6 S o h hE
    rw [C_inWay_L44] at h
    refine q_iload dX11_inWay_44 rfl rfl ?_
    refine q_aload_n dX11_inWay_46 rfl rfl ?_
    refine q_getA dX11_inWay_47 fl_X11_16 (hL 0 (by decide)) sh_0 (by decide) rfl rfl ?_
    refine q_getI dX11_inWay_50 fl_X11_158 (hL 2 (by decide)) sh_2 (by decide) rfl rfl ?_
    obtain ⟨c914, h⟩ := qk_some h
    obtain ⟨c915, h⟩ := qk_some h
    refine q_icmp_ge (tgt := 86) dX11_inWay_53 (by decide) rfl (qRb_R c914) (qRb_R c915) (fun g => ?_) (fun g => ?_)
    · rw [if_pos (show (S 2 12) ≤ x6 from g)] at h
      cases h
      exact q_pick [4] rfl (hE)
    · rw [if_neg (show ¬ ((S 2 12) ≤ x6) from g)] at h
      refine q_aload_n dX11_inWay_56 rfl rfl ?_
      refine q_getA dX11_inWay_57 fl_X11_67 (hL 0 (by decide)) sh_0 (by decide) rfl rfl ?_
      refine q_iload dX11_inWay_60 rfl rfl ?_
      refine q_iload_n dX11_inWay_62 rfl rfl ?_
      refine q_iload_n dX11_inWay_63 rfl rfl ?_
      refine q_iload_n dX11_inWay_64 rfl rfl ?_
      obtain ⟨q916, h917, h⟩ := Option.bind_eq_some_iff.mp h
      refine q_callVi (as := [qi x6, qi x1, qi x2, qi x3]) (c := 8) dX11_inWay_65 ml_X11_277 rfl rfl (hL 8 (by decide)) sh_8 rfl rfl (Nat.le_of_ble_eq_true rfl) (Laws_crowds_ok hL (d + 2) x6 x1 x2 x3 _ _ h917) rfl ?_
      refine q_jn (G := fun (t919 : Int) => qW X (d + 4) yX11_inWay cX11_inWay 7 (some .int) 80 [(0, qr 0), (1, qi x1), (2, qi x2), (3, qi x3), (5, qi t919), (6, qi x6)] [] q916.2 Q) h (fun t919 h => ?_) (fun t919 h hk4112 => ?_)
      · try dsimp only at h
        refine q_iinc (lv' := [(6, qi (x6 + 1)), (0, qr 0), (1, qi x1), (2, qi x2), (3, qi x3), (5, qi t919)]) dX11_inWay_80 (by decide) rfl rfl rfl ?_
        refine q_goto (pc' := 44) dX11_inWay_83 (by decide) ?_
        exact q_pick [1, 2, 3, 4, 5, 0] rfl (ih x1 x2 x3 t919 (x6 + 1) _ _ h hE)
      · skip
        obtain ⟨c918, h⟩ := qk_some h
        refine q_if_eq (tgt := 80) dX11_inWay_68 (by decide) rfl (qRb_R c918)  (fun g => ?_) (fun g => ?_)
        · rw [if_pos (show q916.1 = 0 from g)] at h
          cases h
          exact q_pick [0, 1, 2, 3, 4, 5] rfl hk4112
        · rw [if_neg (show ¬ (q916.1 = 0) from g)] at h
          refine q_iload dX11_inWay_71 rfl rfl ?_
          refine q_iconst dX11_inWay_73 rfl rfl ?_
          refine q_iload dX11_inWay_74 rfl rfl ?_
          refine q_ishl dX11_inWay_76 rfl ?_
          refine q_ior dX11_inWay_77 rfl ?_
          refine q_istore (lv' := [(5, qi (qb_ior x5 (qb_ishl 1 x6))), (0, qr 0), (1, qi x1), (2, qi x2), (3, qi x3), (6, qi x6)]) dX11_inWay_78 (by decide) rfl rfl ?_
          cases h
          exact q_pick [1, 2, 3, 4, 0, 5] rfl hk4112
set_option maxRecDepth 20000 in
theorem C_inWay_ok {X : qX} (hL : ∀ c, c < 93 → c ∈ qLs X) (d : Nat) (a1 : Int) (a2 : Int) (a3 : Int) (a4 : Int) (S : qSto) (o : (Int × qSto)) (h : C_inWay a1 a2 a3 a4 S = some o) (Q : Option qV → qSto → Prop) (hQ : Q (some (qi o.1)) o.2) : qC X (d + 4) yX11_inWay cX11_inWay 7 (some .int) [qr 0, qi a1, qi a2, qi a3, qi a4] S Q := by
  refine q_entry (lv := [(0, qr 0), (1, qi a1), (2, qi a2), (3, qi a3), (4, qi a4)]) pn_X11 (Nat.le_of_ble_eq_true rfl) rfl ?_
  unfold C_inWay at h
  refine q_aload_n dX11_inWay_0 rfl rfl ?_
  refine q_iload_n dX11_inWay_1 rfl rfl ?_
  obtain ⟨q905, h906, h⟩ := Option.bind_eq_some_iff.mp h
  refine q_callVi (as := [qi a1]) (c := 0) dX11_inWay_2 ml_X11_216 rfl rfl (hL 0 (by decide)) sh_0 rfl rfl (Nat.le_of_ble_eq_true rfl) (C_isShip_ok hL (d + 3) a1 _ _ h906) rfl ?_
  obtain ⟨c907, h⟩ := qk_some h
  refine q_if_ne (tgt := 10) dX11_inWay_5 (by decide) rfl (qRb_R c907)  (fun g => ?_) (fun g => ?_)
  · rw [if_neg (show ¬ (q905.1 = 0) from g)] at h
    refine q_aload_n dX11_inWay_10 rfl rfl ?_
    refine q_getA dX11_inWay_11 fl_X11_67 (hL 0 (by decide)) sh_0 (by decide) rfl rfl ?_
    refine q_iload_n dX11_inWay_14 rfl rfl ?_
    refine q_iload_n dX11_inWay_15 rfl rfl ?_
    obtain ⟨q908, h909, h⟩ := Option.bind_eq_some_iff.mp h
    refine q_callVi (as := [qi a1, qi a2]) (c := 8) dX11_inWay_16 ml_X11_270 rfl rfl (hL 8 (by decide)) sh_8 rfl rfl (Nat.le_of_ble_eq_true rfl) (Laws_fits_ok hL (d + 2) a1 a2 _ _ h909) rfl ?_
    obtain ⟨c910, h⟩ := qk_some h
    refine q_if_eq (tgt := 36) dX11_inWay_19 (by decide) rfl (qRb_R c910)  (fun g => ?_) (fun g => ?_)
    · rw [if_pos (show q908.1 = 0 from g)] at h
      refine q_iconst dX11_inWay_36 rfl rfl ?_
      cases h
      exact q_ireturn dX11_inWay_37 rfl hQ
    · rw [if_neg (show ¬ (q908.1 = 0) from g)] at h
      refine q_aload_n dX11_inWay_22 rfl rfl ?_
      refine q_getA dX11_inWay_23 fl_X11_67 (hL 0 (by decide)) sh_0 (by decide) rfl rfl ?_
      refine q_iload_n dX11_inWay_26 rfl rfl ?_
      refine q_iload_n dX11_inWay_27 rfl rfl ?_
      refine q_iload dX11_inWay_28 rfl rfl ?_
      obtain ⟨q911, h912, h⟩ := Option.bind_eq_some_iff.mp h
      refine q_callVi (as := [qi a1, qi a3, qi a4]) (c := 8) dX11_inWay_30 ml_X11_273 rfl rfl (hL 8 (by decide)) sh_8 rfl rfl (Nat.le_of_ble_eq_true rfl) (Laws_ofTime_ok hL d a1 a3 a4 _ _ h912) rfl ?_
      obtain ⟨c913, h⟩ := qk_some h
      refine q_if_eq (tgt := 38) dX11_inWay_33 (by decide) rfl (qRb_R c913)  (fun g => ?_) (fun g => ?_)
      · rw [if_pos (show q911.1 = 0 from g)] at h
        refine q_iconst dX11_inWay_38 rfl rfl ?_
        refine q_istore (lv' := [(5, qi 0), (0, qr 0), (1, qi a1), (2, qi a2), (3, qi a3), (4, qi a4)]) dX11_inWay_39 (by decide) rfl rfl ?_
        refine q_iconst dX11_inWay_41 rfl rfl ?_
        refine q_istore (lv' := [(6, qi 0), (5, qi 0), (0, qr 0), (1, qi a1), (2, qi a2), (3, qi a3), (4, qi a4)]) dX11_inWay_42 (by decide) rfl rfl ?_
        obtain ⟨q920, h921, h⟩ := Option.bind_eq_some_iff.mp h
        refine q_pick [2, 3, 4, 5, 1, 0] rfl (C_inWay_L44_ok hL d qF a1 a2 a3 0 0 _ _ h921 ?_)
        refine q_iload dX11_inWay_86 rfl rfl ?_
        cases h
        exact q_ireturn dX11_inWay_88 rfl hQ
      · rw [if_neg (show ¬ (q911.1 = 0) from g)] at h
        refine q_iconst dX11_inWay_36 rfl rfl ?_
        cases h
        exact q_ireturn dX11_inWay_37 rfl hQ
  · rw [if_pos (show q905.1 = 0 from g)] at h
    refine q_iconst dX11_inWay_8 rfl rfl ?_
    cases h
    exact q_ireturn dX11_inWay_9 rfl hQ
set_option maxRecDepth 20000 in
theorem Dealer_reaching_L5_ok {X : qX} (hL : ∀ c, c < 93 → c ∈ qLs X) (d : Nat) {Q : Option qV → qSto → Prop} : ∀ (n : Nat) (x1 : Int) (x2 : Int) (x3 : Int) (x4 : Int) (S : qSto) (o : (Int × qSto)), Dealer_reaching_L5 n x1 x2 x3 x4 S = some o → (qW X (d + 1) yX0_reaching cX0_reaching 5 (some .int) 42 [(3, qi o.1)] [] o.2 Q) → qW X (d + 1) yX0_reaching cX0_reaching 5 (some .int) 5 [(0, qr 7), (1, qi x1), (2, qi x2), (3, qi x3), (4, qi x4)] [] S Q := by
  intro n
  induction n with
  | zero =>
    intro x1 x2 x3 x4 S o h
    simp [Dealer_reaching_L5] at h
  | succ n ih =>
    intro x1 x2 x3 x4 S o h hE
    rw [Dealer_reaching_L5] at h
    refine q_iload dX0_reaching_5 rfl rfl ?_
    refine q_aload_n dX0_reaching_7 rfl rfl ?_
    refine q_getA dX0_reaching_8 fl_X0_15 (hL 7 (by decide)) sh_7 (by decide) rfl rfl ?_
    refine q_getI dX0_reaching_11 fl_X0_47 (hL 2 (by decide)) sh_2 (by decide) rfl rfl ?_
    obtain ⟨c940, h⟩ := qk_some h
    obtain ⟨c941, h⟩ := qk_some h
    refine q_icmp_ge (tgt := 42) dX0_reaching_14 (by decide) rfl (qRb_R c940) (qRb_R c941) (fun g => ?_) (fun g => ?_)
    · rw [if_pos (show (S 2 5) ≤ x4 from g)] at h
      cases h
      exact q_pick [3] rfl (hE)
    · rw [if_neg (show ¬ ((S 2 5) ≤ x4) from g)] at h
      refine q_iload_n dX0_reaching_17 rfl rfl ?_
      refine q_aload_n dX0_reaching_18 rfl rfl ?_
      refine q_iload dX0_reaching_19 rfl rfl ?_
      refine q_iload_n dX0_reaching_21 rfl rfl ?_
      refine q_iload_n dX0_reaching_22 rfl rfl ?_
      obtain ⟨q942, h943, h⟩ := Option.bind_eq_some_iff.mp h
      refine q_callVi (as := [qi x4, qi x1, qi x2]) (c := 7) dX0_reaching_23 ml_X0_57 rfl rfl (hL 7 (by decide)) sh_7 rfl rfl (Nat.le_of_ble_eq_true rfl) (Dealer_reaches_ok hL d x4 x1 x2 _ _ h943) rfl ?_
      refine q_jn (G := fun (t945 : Int) => qW X (d + 1) yX0_reaching cX0_reaching 5 (some .int) 34 [(0, qr 7), (1, qi x1), (2, qi x2), (4, qi x4)] [qi t945, qi x3] q942.2 Q) h (fun t945 h => ?_) (fun t945 h hk4113 => ?_)
      · try dsimp only at h
        refine q_iadd dX0_reaching_34 rfl ?_
        refine q_istore_n (lv' := [(3, qi (x3 + t945)), (0, qr 7), (1, qi x1), (2, qi x2), (4, qi x4)]) dX0_reaching_35 (by decide) rfl rfl ?_
        refine q_iinc (lv' := [(4, qi (x4 + 1)), (3, qi (x3 + t945)), (0, qr 7), (1, qi x1), (2, qi x2)]) dX0_reaching_36 (by decide) rfl rfl rfl ?_
        refine q_goto (pc' := 5) dX0_reaching_39 (by decide) ?_
        exact q_pick [2, 3, 4, 1, 0] rfl (ih x1 x2 (x3 + t945) (x4 + 1) _ _ h hE)
      · skip
        obtain ⟨c944, h⟩ := qk_some h
        refine q_if_eq (tgt := 33) dX0_reaching_26 (by decide) rfl (qRb_R c944)  (fun g => ?_) (fun g => ?_)
        · rw [if_pos (show q942.1 = 0 from g)] at h
          refine q_iconst dX0_reaching_33 rfl rfl ?_
          cases h
          exact q_pick [0, 1, 2, 4] rfl hk4113
        · rw [if_neg (show ¬ (q942.1 = 0) from g)] at h
          refine q_iconst dX0_reaching_29 rfl rfl ?_
          refine q_goto (pc' := 34) dX0_reaching_30 (by decide) ?_
          cases h
          exact q_pick [0, 1, 2, 4] rfl hk4113
set_option maxRecDepth 20000 in
theorem Dealer_reaching_ok {X : qX} (hL : ∀ c, c < 93 → c ∈ qLs X) (d : Nat) (a1 : Int) (a2 : Int) (S : qSto) (o : (Int × qSto)) (h : Dealer_reaching a1 a2 S = some o) (Q : Option qV → qSto → Prop) (hQ : Q (some (qi o.1)) o.2) : qC X (d + 1) yX0_reaching cX0_reaching 5 (some .int) [qr 7, qi a1, qi a2] S Q := by
  refine q_entry (lv := [(0, qr 7), (1, qi a1), (2, qi a2)]) pn_X0 (Nat.le_of_ble_eq_true rfl) rfl ?_
  unfold Dealer_reaching at h
  refine q_iconst dX0_reaching_0 rfl rfl ?_
  refine q_istore_n (lv' := [(3, qi 0), (0, qr 7), (1, qi a1), (2, qi a2)]) dX0_reaching_1 (by decide) rfl rfl ?_
  refine q_iconst dX0_reaching_2 rfl rfl ?_
  refine q_istore (lv' := [(4, qi 0), (3, qi 0), (0, qr 7), (1, qi a1), (2, qi a2)]) dX0_reaching_3 (by decide) rfl rfl ?_
  obtain ⟨q946, h947, h⟩ := Option.bind_eq_some_iff.mp h
  refine q_pick [2, 3, 4, 1, 0] rfl (Dealer_reaching_L5_ok hL d qF a1 a2 0 0 _ _ h947 ?_)
  refine q_iload_n dX0_reaching_42 rfl rfl ?_
  cases h
  exact q_ireturn dX0_reaching_43 rfl hQ
set_option maxRecDepth 20000 in
theorem Search_survey_L16_ok {X : qX} (hL : ∀ c, c < 93 → c ∈ qLs X) (d : Nat) {Q : Option qV → qSto → Prop} : ∀ (n : Nat) (x1 : Int) (x2 : Int) (x3 : Int) (x4 : Int) (x5 : Int) (S : qSto) (o : (Int × qSto)), Search_survey_L16 n x1 x2 x3 x4 x5 S = some o → (qW X (d + 2) yX6_survey cX6_survey 8 (some .boolean) 123 [(4, qi o.1)] [] o.2 Q) → qW X (d + 2) yX6_survey cX6_survey 8 (some .boolean) 16 [(0, qr 9), (1, qi x1), (2, qi x2), (3, qi x3), (4, qi x4), (5, qi x5)] [] S Q := by
  intro n
  induction n with
  | zero =>
    intro x1 x2 x3 x4 x5 S o h
    simp [Search_survey_L16] at h
  | succ n ih =>
    intro x1 x2 x3 x4 x5 S o h hE
    rw [Search_survey_L16] at h
    refine q_iload dX6_survey_16 rfl rfl ?_
    refine q_bipush dX6_survey_18 (by decide) rfl ?_
    obtain ⟨c936, h⟩ := qk_some h
    refine q_icmp_ge (tgt := 123) dX6_survey_20 (by decide) rfl (qRb_R c936) ⟨by decide, by decide⟩ (fun g => ?_) (fun g => ?_)
    · rw [if_pos (show 100 ≤ x5 from g)] at h
      cases h
      exact q_pick [4] rfl (hE)
    · rw [if_neg (show ¬ (100 ≤ x5) from g)] at h
      refine q_iload dX6_survey_23 rfl rfl ?_
      refine q_bipush dX6_survey_25 (by decide) rfl ?_
      refine q_imul dX6_survey_27 rfl ?_
      refine q_istore (lv' := [(6, qi (x5 * 10)), (0, qr 9), (1, qi x1), (2, qi x2), (3, qi x3), (4, qi x4), (5, qi x5)]) dX6_survey_28 (by decide) rfl rfl ?_
      refine q_aload_n dX6_survey_30 rfl rfl ?_
      refine q_getA dX6_survey_31 fl_X6_23 (hL 9 (by decide)) sh_9 (by decide) rfl rfl ?_
      refine q_iload_n dX6_survey_34 rfl rfl ?_
      refine q_iload dX6_survey_35 rfl rfl ?_
      obtain ⟨q937, h938, h⟩ := Option.bind_eq_some_iff.mp h
      refine q_callVi (as := [qi x1, qi (x5 * 10)]) (c := 8) dX6_survey_37 ml_X6_67 rfl rfl (hL 8 (by decide)) sh_8 rfl rfl (Nat.le_of_ble_eq_true rfl) (Laws_fits_ok hL d x1 (x5 * 10) _ _ h938) rfl ?_
      refine q_jn (G := fun (t952 : (Int × qSto)) => qW X (d + 2) yX6_survey cX6_survey 8 (some .boolean) 67 [(0, qr 9), (1, qi x1), (2, qi x2), (3, qi x3), (4, qi x4), (5, qi x5), (6, qi (x5 * 10))] [qi t952.1] t952.2 Q) h (fun t952 h => ?_) (fun t952 h hk4114 => ?_)
      · try dsimp only at h
        refine q_istore (lv' := [(7, qi t952.1), (0, qr 9), (1, qi x1), (2, qi x2), (3, qi x3), (4, qi x4), (5, qi x5), (6, qi (x5 * 10))]) dX6_survey_67 (by decide) rfl rfl ?_
        refine q_aload_n dX6_survey_69 rfl rfl ?_
        refine q_getA dX6_survey_70 fl_X6_9 (hL 9 (by decide)) sh_9 (by decide) rfl rfl ?_
        refine q_iload dX6_survey_73 rfl rfl ?_
        refine q_iload dX6_survey_75 rfl rfl ?_
        refine q_jn (G := fun (t956 : (Int × qSto)) => qW X (d + 2) yX6_survey cX6_survey 8 (some .boolean) 99 [(0, qr 9), (1, qi x1), (2, qi x2), (3, qi x3), (4, qi x4), (5, qi x5), (7, qi t952.1)] [qi t956.1, qi x5, qr 46] t956.2 Q) h (fun t956 h => ?_) (fun t956 h hk4115 => ?_)
        · try dsimp only at h
          obtain ⟨c957, h⟩ := qk_some h
          refine q_iastore dX6_survey_99 (hL 46 (by decide)) sh_46 (qIx_0 c957) (qIx_1 c957) rfl ?_
          refine q_iload dX6_survey_100 rfl rfl ?_
          refine q_jn (G := fun (t960 : Int) => qW X (d + 2) yX6_survey cX6_survey 8 (some .boolean) 115 [(0, qr 9), (1, qi x1), (2, qi x2), (3, qi x3), (5, qi x5)] [qi t960] (qup t956.2 46 (Int.toNat x5) t956.1) Q) h (fun t960 h => ?_) (fun t960 h hk4116 => ?_)
          · try dsimp only at h
            refine q_istore (lv' := [(4, qi t960), (0, qr 9), (1, qi x1), (2, qi x2), (3, qi x3), (5, qi x5)]) dX6_survey_115 (by decide) rfl rfl ?_
            refine q_iinc (lv' := [(5, qi (x5 + 1)), (4, qi t960), (0, qr 9), (1, qi x1), (2, qi x2), (3, qi x3)]) dX6_survey_117 (by decide) rfl rfl rfl ?_
            refine q_goto (pc' := 16) dX6_survey_120 (by decide) ?_
            exact q_pick [2, 3, 4, 5, 1, 0] rfl (ih x1 x2 x3 t960 (x5 + 1) _ _ h hE)
          · skip
            obtain ⟨c958, h⟩ := qk_some h
            refine q_if_ne (tgt := 110) dX6_survey_102 (by decide) rfl (qRb_R c958)  (fun g => ?_) (fun g => ?_)
            · rw [if_neg (show ¬ (x4 = 0) from g)] at h
              refine q_iconst dX6_survey_110 rfl rfl ?_
              refine q_goto (pc' := 115) dX6_survey_111 (by decide) ?_
              cases h
              exact q_pick [0, 1, 2, 3, 5] rfl hk4116
            · rw [if_pos (show x4 = 0 from g)] at h
              refine q_iload dX6_survey_105 rfl rfl ?_
              obtain ⟨c959, h⟩ := qk_some h
              refine q_if_eq (tgt := 114) dX6_survey_107 (by decide) rfl (qRb_R c959)  (fun g => ?_) (fun g => ?_)
              · rw [if_pos (show t952.1 = 0 from g)] at h
                refine q_iconst dX6_survey_114 rfl rfl ?_
                cases h
                exact q_pick [0, 1, 2, 3, 5] rfl hk4116
              · rw [if_neg (show ¬ (t952.1 = 0) from g)] at h
                refine q_iconst dX6_survey_110 rfl rfl ?_
                refine q_goto (pc' := 115) dX6_survey_111 (by decide) ?_
                cases h
                exact q_pick [0, 1, 2, 3, 5] rfl hk4116
        · skip
          obtain ⟨c953, h⟩ := qk_some h
          refine q_if_eq (tgt := 98) dX6_survey_77 (by decide) rfl (qRb_R c953)  (fun g => ?_) (fun g => ?_)
          · rw [if_pos (show t952.1 = 0 from g)] at h
            refine q_iconst dX6_survey_98 rfl rfl ?_
            cases h
            exact q_pick [1, 2, 3, 4, 5, 6, 0] rfl hk4115
          · rw [if_neg (show ¬ (t952.1 = 0) from g)] at h
            refine q_aload_n dX6_survey_80 rfl rfl ?_
            refine q_getA dX6_survey_81 fl_X6_15 (hL 9 (by decide)) sh_9 (by decide) rfl rfl ?_
            refine q_iload dX6_survey_84 rfl rfl ?_
            refine q_iload dX6_survey_86 rfl rfl ?_
            refine q_iload_n dX6_survey_88 rfl rfl ?_
            refine q_iadd dX6_survey_89 rfl ?_
            refine q_iconst dX6_survey_90 rfl rfl ?_
            refine q_isub dX6_survey_91 rfl ?_
            obtain ⟨q954, h955, h⟩ := Option.bind_eq_some_iff.mp h
            refine q_callVi (as := [qi (x5 * 10), qi (((x5 * 10) + x3) - 1)]) (c := 2) dX6_survey_92 ml_X6_75 rfl rfl (hL 2 (by decide)) sh_2 rfl rfl (Nat.le_of_ble_eq_true rfl) (Told_shallowest_ok hL d (x5 * 10) (((x5 * 10) + x3) - 1) _ _ h955) rfl ?_
            refine q_goto (pc' := 99) dX6_survey_95 (by decide) ?_
            cases h
            exact q_pick [1, 2, 3, 4, 5, 6, 0] rfl hk4115
      · skip
        obtain ⟨c939, h⟩ := qk_some h
        refine q_if_eq (tgt := 66) dX6_survey_40 (by decide) rfl (qRb_R c939)  (fun g => ?_) (fun g => ?_)
        · rw [if_pos (show q937.1 = 0 from g)] at h
          refine q_iconst dX6_survey_66 rfl rfl ?_
          cases h
          exact q_pick [1, 2, 3, 4, 5, 6, 0] rfl hk4114
        · rw [if_neg (show ¬ (q937.1 = 0) from g)] at h
          refine q_aload_n dX6_survey_43 rfl rfl ?_
          refine q_getA dX6_survey_44 fl_X6_27 (hL 9 (by decide)) sh_9 (by decide) rfl rfl ?_
          refine q_iload dX6_survey_47 rfl rfl ?_
          refine q_iload dX6_survey_49 rfl rfl ?_
          refine q_iload_n dX6_survey_51 rfl rfl ?_
          refine q_iadd dX6_survey_52 rfl ?_
          refine q_iconst dX6_survey_53 rfl rfl ?_
          refine q_isub dX6_survey_54 rfl ?_
          obtain ⟨q948, h949, h⟩ := Option.bind_eq_some_iff.mp h
          refine q_callVi (as := [qi (x5 * 10), qi (((x5 * 10) + x3) - 1)]) (c := 7) dX6_survey_55 ml_X6_70 rfl rfl (hL 7 (by decide)) sh_7 rfl rfl (Nat.le_of_ble_eq_true rfl) (Dealer_reaching_ok hL d (x5 * 10) (((x5 * 10) + x3) - 1) _ _ h949) rfl ?_
          refine q_iload_n dX6_survey_58 rfl rfl ?_
          obtain ⟨c950, h⟩ := qk_some h
          obtain ⟨c951, h⟩ := qk_some h
          refine q_icmp_lt (tgt := 66) dX6_survey_59 (by decide) rfl (qRb_R c950) (qRb_R c951) (fun g => ?_) (fun g => ?_)
          · rw [if_pos (show q948.1 < x2 from g)] at h
            refine q_iconst dX6_survey_66 rfl rfl ?_
            cases h
            exact q_pick [1, 2, 3, 4, 5, 6, 0] rfl hk4114
          · rw [if_neg (show ¬ (q948.1 < x2) from g)] at h
            refine q_iconst dX6_survey_62 rfl rfl ?_
            refine q_goto (pc' := 67) dX6_survey_63 (by decide) ?_
            cases h
            exact q_pick [1, 2, 3, 4, 5, 6, 0] rfl hk4114
set_option maxRecDepth 20000 in
theorem Search_survey_ok {X : qX} (hL : ∀ c, c < 93 → c ∈ qLs X) (d : Nat) (a1 : Int) (a2 : Int) (S : qSto) (o : (Int × qSto)) (h : Search_survey a1 a2 S = some o) (Q : Option qV → qSto → Prop) (hQ : Q (some (qi o.1)) o.2) : qC X (d + 2) yX6_survey cX6_survey 8 (some .boolean) [qr 9, qi a1, qi a2] S Q := by
  refine q_entry (lv := [(0, qr 9), (1, qi a1), (2, qi a2)]) pn_X6 (Nat.le_of_ble_eq_true rfl) rfl ?_
  unfold Search_survey at h
  refine q_aload_n dX6_survey_0 rfl rfl ?_
  refine q_getA dX6_survey_1 fl_X6_15 (hL 9 (by decide)) sh_9 (by decide) rfl rfl ?_
  refine q_iload_n dX6_survey_4 rfl rfl ?_
  refine q_iconst dX6_survey_5 rfl rfl ?_
  obtain ⟨q934, h935, h⟩ := Option.bind_eq_some_iff.mp h
  refine q_callVi (as := [qi a1, qi 0]) (c := 2) dX6_survey_6 ml_X6_35 rfl rfl (hL 2 (by decide)) sh_2 rfl rfl (Nat.le_of_ble_eq_true rfl) (Told_contractOf_ok hL (d + 1) a1 0 _ _ h935) rfl ?_
  refine q_istore_n (lv' := [(3, qi q934.1), (0, qr 9), (1, qi a1), (2, qi a2)]) dX6_survey_9 (by decide) rfl rfl ?_
  refine q_iconst dX6_survey_10 rfl rfl ?_
  refine q_istore (lv' := [(4, qi 0), (3, qi q934.1), (0, qr 9), (1, qi a1), (2, qi a2)]) dX6_survey_11 (by decide) rfl rfl ?_
  refine q_iconst dX6_survey_13 rfl rfl ?_
  refine q_istore (lv' := [(5, qi 0), (4, qi 0), (3, qi q934.1), (0, qr 9), (1, qi a1), (2, qi a2)]) dX6_survey_14 (by decide) rfl rfl ?_
  obtain ⟨q961, h962, h⟩ := Option.bind_eq_some_iff.mp h
  refine q_pick [3, 4, 5, 2, 1, 0] rfl (Search_survey_L16_ok hL d qF a1 a2 q934.1 0 0 _ _ h962 ?_)
  refine q_iload dX6_survey_123 rfl rfl ?_
  obtain ⟨c963, h⟩ := qk_some h
  cases h
  exact q_zreturn dX6_survey_125 rfl (qZb_Z c963) hQ
set_option maxRecDepth 20000 in
theorem Search_firstMetre_L30_ok {X : qX} (hL : ∀ c, c < 93 → c ∈ qLs X) (d : Nat) {Q : Option qV → qSto → Prop} : ∀ (n : Nat) (x1 : Int) (x2 : Int) (x3 : Int) (x4 : Int) (x5 : Int) (x6 : Int) (S : qSto) (o : (qSto ⊕ (Int × qSto))), Search_firstMetre_L30 n x1 x2 x3 x4 x5 x6 S = some o → (∀ t, o = Sum.inl t → qW X (d + 3) yX6_firstMetre cX6_firstMetre 9 (some .int) 136 [] [] t Q) → (∀ w, o = Sum.inr w → Q (some (qi w.1)) w.2) → qW X (d + 3) yX6_firstMetre cX6_firstMetre 9 (some .int) 30 [(0, qr 9), (1, qi x1), (2, qi x2), (3, qi x3), (4, qi x4), (5, qi x5), (6, qi x6)] [] S Q := by
  intro n
  induction n with
  | zero =>
    intro x1 x2 x3 x4 x5 x6 S o h
    simp [Search_firstMetre_L30] at h
  | succ n ih =>
    intro x1 x2 x3 x4 x5 x6 S o h hE hR
    rw [Search_firstMetre_L30] at h
    refine q_iload dX6_firstMetre_30 rfl rfl ?_
    refine q_bipush dX6_firstMetre_32 (by decide) rfl ?_
    obtain ⟨c980, h⟩ := qk_some h
    refine q_icmp_ge (tgt := 136) dX6_firstMetre_34 (by decide) rfl (qRb_R c980) ⟨by decide, by decide⟩ (fun g => ?_) (fun g => ?_)
    · rw [if_pos (show 100 ≤ x6 from g)] at h
      cases h
      exact q_pick [] rfl (hE _ rfl)
    · rw [if_neg (show ¬ (100 ≤ x6) from g)] at h
      refine q_aload_n dX6_firstMetre_37 rfl rfl ?_
      refine q_getA dX6_firstMetre_38 fl_X6_9 (hL 9 (by decide)) sh_9 (by decide) rfl rfl ?_
      refine q_iload dX6_firstMetre_41 rfl rfl ?_
      obtain ⟨c981, h⟩ := qk_some h
      refine q_iaload dX6_firstMetre_43 (hL 46 (by decide)) sh_46 (qIx_0 c981) (qIx_1 c981) rfl ?_
      refine q_iconst dX6_firstMetre_44 rfl rfl ?_
      obtain ⟨c982, h⟩ := qk_some h
      refine q_icmp_eq (tgt := 130) dX6_firstMetre_45 (by decide) rfl (qRb_R c982) ⟨by decide, by decide⟩ (fun g => ?_) (fun g => ?_)
      · rw [if_pos (show (S 46 (Int.toNat x6)) = (-1) from g)] at h
        refine q_iinc (lv' := [(6, qi (x6 + 1)), (0, qr 9), (1, qi x1), (2, qi x2), (3, qi x3), (4, qi x4), (5, qi x5)]) dX6_firstMetre_130 (by decide) rfl rfl rfl ?_
        refine q_goto (pc' := 30) dX6_firstMetre_133 (by decide) ?_
        exact q_pick [1, 2, 3, 4, 5, 6, 0] rfl (ih x1 x2 x3 x4 x5 (x6 + 1) _ _ h hE hR)
      · rw [if_neg (show ¬ ((S 46 (Int.toNat x6)) = (-1)) from g)] at h
        refine q_aload_n dX6_firstMetre_48 rfl rfl ?_
        refine q_getA dX6_firstMetre_49 fl_X6_9 (hL 9 (by decide)) sh_9 (by decide) rfl rfl ?_
        refine q_iload dX6_firstMetre_52 rfl rfl ?_
        obtain ⟨c983, h⟩ := qk_some h
        refine q_iaload dX6_firstMetre_54 (hL 46 (by decide)) sh_46 (qIx_0 c983) (qIx_1 c983) rfl ?_
        refine q_iload dX6_firstMetre_55 rfl rfl ?_
        refine q_iadd dX6_firstMetre_57 rfl ?_
        refine q_iload dX6_firstMetre_58 rfl rfl ?_
        obtain ⟨c984, h⟩ := qk_some h
        obtain ⟨c985, h⟩ := qk_some h
        refine q_icmp_ge (tgt := 66) dX6_firstMetre_60 (by decide) rfl (qRb_R c984) (qRb_R c985) (fun g => ?_) (fun g => ?_)
        · rw [if_pos (show x5 ≤ ((S 46 (Int.toNat x6)) + x4) from g)] at h
          refine q_iload dX6_firstMetre_66 rfl rfl ?_
          refine q_bipush dX6_firstMetre_68 (by decide) rfl ?_
          refine q_imul dX6_firstMetre_70 rfl ?_
          refine q_istore (lv' := [(7, qi (x6 * 10)), (0, qr 9), (1, qi x1), (2, qi x2), (3, qi x3), (4, qi x4), (5, qi x5), (6, qi x6)]) dX6_firstMetre_71 (by decide) rfl rfl ?_
          refine q_aload_n dX6_firstMetre_73 rfl rfl ?_
          refine q_getA dX6_firstMetre_74 fl_X6_23 (hL 9 (by decide)) sh_9 (by decide) rfl rfl ?_
          refine q_iload_n dX6_firstMetre_77 rfl rfl ?_
          refine q_iload dX6_firstMetre_78 rfl rfl ?_
          refine q_iload_n dX6_firstMetre_80 rfl rfl ?_
          obtain ⟨q986, h987, h⟩ := Option.bind_eq_some_iff.mp h
          refine q_callVi (as := [qi x1, qi (x6 * 10), qi x2]) (c := 8) dX6_firstMetre_81 ml_X6_87 rfl rfl (hL 8 (by decide)) sh_8 rfl rfl (Nat.le_of_ble_eq_true rfl) (Laws_pastObstacle_ok hL d x1 (x6 * 10) x2 _ _ h987) rfl ?_
          refine q_istore (lv' := [(8, qi q986.1), (7, qi (x6 * 10)), (0, qr 9), (1, qi x1), (2, qi x2), (3, qi x3), (4, qi x4), (5, qi x5), (6, qi x6)]) dX6_firstMetre_84 (by decide) rfl rfl ?_
          refine q_iload dX6_firstMetre_86 rfl rfl ?_
          refine q_iload dX6_firstMetre_88 rfl rfl ?_
          obtain ⟨c988, h⟩ := qk_some h
          obtain ⟨c989, h⟩ := qk_some h
          refine q_icmp_le (tgt := 105) dX6_firstMetre_90 (by decide) rfl (qRb_R c988) (qRb_R c989) (fun g => ?_) (fun g => ?_)
          · rw [if_pos (show q986.1 ≤ (x6 * 10) from g)] at h
            refine q_aload_n dX6_firstMetre_105 rfl rfl ?_
            refine q_getA dX6_firstMetre_106 fl_X6_27 (hL 9 (by decide)) sh_9 (by decide) rfl rfl ?_
            refine q_iload_n dX6_firstMetre_109 rfl rfl ?_
            refine q_iload dX6_firstMetre_110 rfl rfl ?_
            refine q_iload_n dX6_firstMetre_112 rfl rfl ?_
            refine q_iload_n dX6_firstMetre_113 rfl rfl ?_
            refine q_aload_n dX6_firstMetre_114 rfl rfl ?_
            refine q_getA dX6_firstMetre_115 fl_X6_23 (hL 9 (by decide)) sh_9 (by decide) rfl rfl ?_
            refine q_getI dX6_firstMetre_118 fl_X6_90 (hL 8 (by decide)) sh_8 (by decide) rfl rfl ?_
            obtain ⟨q990, h991, h⟩ := Option.bind_eq_some_iff.mp h
            refine q_callVi (as := [qi x1, qi (x6 * 10), qi x2, qi x3, qi (q986.2 8 4)]) (c := 7) dX6_firstMetre_121 ml_X6_93 rfl rfl (hL 7 (by decide)) sh_7 rfl rfl (Nat.le_of_ble_eq_true rfl) (Dealer_suffices_ok hL d x1 (x6 * 10) x2 x3 (q986.2 8 4) _ _ h991) rfl ?_
            obtain ⟨c992, h⟩ := qk_some h
            refine q_if_eq (tgt := 130) dX6_firstMetre_124 (by decide) rfl (qRb_R c992)  (fun g => ?_) (fun g => ?_)
            · rw [if_pos (show q990.1 = 0 from g)] at h
              refine q_iinc (lv' := [(6, qi (x6 + 1)), (8, qi q986.1), (7, qi (x6 * 10)), (0, qr 9), (1, qi x1), (2, qi x2), (3, qi x3), (4, qi x4), (5, qi x5)]) dX6_firstMetre_130 (by decide) rfl rfl rfl ?_
              refine q_goto (pc' := 30) dX6_firstMetre_133 (by decide) ?_
              exact q_pick [3, 4, 5, 6, 7, 8, 0] rfl (ih x1 x2 x3 x4 x5 (x6 + 1) _ _ h hE hR)
            · rw [if_neg (show ¬ (q990.1 = 0) from g)] at h
              refine q_iload dX6_firstMetre_127 rfl rfl ?_
              cases h
              exact q_ireturn dX6_firstMetre_129 rfl (hR _ rfl)
          · rw [if_neg (show ¬ (q986.1 ≤ (x6 * 10)) from g)] at h
            refine q_iload dX6_firstMetre_93 rfl rfl ?_
            refine q_iconst dX6_firstMetre_95 rfl rfl ?_
            refine q_isub dX6_firstMetre_96 rfl ?_
            refine q_bipush dX6_firstMetre_97 (by decide) rfl ?_
            obtain ⟨c993, h⟩ := qk_some h
            refine q_idiv dX6_firstMetre_99 (qRb_R c993) ⟨by decide, by decide⟩ (by decide) rfl ?_
            refine q_istore (lv' := [(6, qi (Int.tdiv (q986.1 - 1) 10)), (8, qi q986.1), (7, qi (x6 * 10)), (0, qr 9), (1, qi x1), (2, qi x2), (3, qi x3), (4, qi x4), (5, qi x5)]) dX6_firstMetre_100 (by decide) rfl rfl ?_
            refine q_goto (pc' := 130) dX6_firstMetre_102 (by decide) ?_
            refine q_iinc (lv' := [(6, qi ((Int.tdiv (q986.1 - 1) 10) + 1)), (8, qi q986.1), (7, qi (x6 * 10)), (0, qr 9), (1, qi x1), (2, qi x2), (3, qi x3), (4, qi x4), (5, qi x5)]) dX6_firstMetre_130 (by decide) rfl rfl rfl ?_
            refine q_goto (pc' := 30) dX6_firstMetre_133 (by decide) ?_
            exact q_pick [3, 4, 5, 6, 7, 8, 0] rfl (ih x1 x2 x3 x4 x5 ((Int.tdiv (q986.1 - 1) 10) + 1) _ _ h hE hR)
        · rw [if_neg (show ¬ (x5 ≤ ((S 46 (Int.toNat x6)) + x4)) from g)] at h
          refine q_goto (pc' := 130) dX6_firstMetre_63 (by decide) ?_
          refine q_iinc (lv' := [(6, qi (x6 + 1)), (0, qr 9), (1, qi x1), (2, qi x2), (3, qi x3), (4, qi x4), (5, qi x5)]) dX6_firstMetre_130 (by decide) rfl rfl rfl ?_
          refine q_goto (pc' := 30) dX6_firstMetre_133 (by decide) ?_
          exact q_pick [1, 2, 3, 4, 5, 6, 0] rfl (ih x1 x2 x3 x4 x5 (x6 + 1) _ _ h hE hR)
set_option maxRecDepth 20000 in
theorem Search_firstMetre_ok {X : qX} (hL : ∀ c, c < 93 → c ∈ qLs X) (d : Nat) (a1 : Int) (a2 : Int) (a3 : Int) (S : qSto) (o : (Int × qSto)) (h : Search_firstMetre a1 a2 a3 S = some o) (Q : Option qV → qSto → Prop) (hQ : Q (some (qi o.1)) o.2) : qC X (d + 3) yX6_firstMetre cX6_firstMetre 9 (some .int) [qr 9, qi a1, qi a2, qi a3] S Q := by
  refine q_entry (lv := [(0, qr 9), (1, qi a1), (2, qi a2), (3, qi a3)]) pn_X6 (Nat.le_of_ble_eq_true rfl) rfl ?_
  unfold Search_firstMetre at h
  refine q_aload_n dX6_firstMetre_0 rfl rfl ?_
  refine q_getA dX6_firstMetre_1 fl_X6_19 (hL 9 (by decide)) sh_9 (by decide) rfl rfl ?_
  refine q_iload_n dX6_firstMetre_4 rfl rfl ?_
  refine q_aload_n dX6_firstMetre_5 rfl rfl ?_
  refine q_getA dX6_firstMetre_6 fl_X6_23 (hL 9 (by decide)) sh_9 (by decide) rfl rfl ?_
  refine q_getI dX6_firstMetre_9 fl_X6_63 (hL 8 (by decide)) sh_8 (by decide) rfl rfl ?_
  obtain ⟨q976, h977, h⟩ := Option.bind_eq_some_iff.mp h
  refine q_callVi (as := [qi a2, qi (S 8 5)]) (c := 5) dX6_firstMetre_12 ml_X6_78 rfl rfl (hL 5 (by decide)) sh_5 rfl rfl (Nat.le_of_ble_eq_true rfl) (Waters_lowest_ok hL (d + 1) a2 (S 8 5) _ _ h977) rfl ?_
  refine q_istore (lv' := [(4, qi q976.1), (0, qr 9), (1, qi a1), (2, qi a2), (3, qi a3)]) dX6_firstMetre_15 (by decide) rfl rfl ?_
  refine q_aload_n dX6_firstMetre_17 rfl rfl ?_
  refine q_getA dX6_firstMetre_18 fl_X6_15 (hL 9 (by decide)) sh_9 (by decide) rfl rfl ?_
  refine q_iload_n dX6_firstMetre_21 rfl rfl ?_
  obtain ⟨q978, h979, h⟩ := Option.bind_eq_some_iff.mp h
  refine q_callVi (as := [qi a1]) (c := 2) dX6_firstMetre_22 ml_X6_83 rfl rfl (hL 2 (by decide)) sh_2 rfl rfl (Nat.le_of_ble_eq_true rfl) (Told_waterNeededBy_ok hL (d + 1) a1 _ _ h979) rfl ?_
  refine q_istore (lv' := [(5, qi q978.1), (4, qi q976.1), (0, qr 9), (1, qi a1), (2, qi a2), (3, qi a3)]) dX6_firstMetre_25 (by decide) rfl rfl ?_
  refine q_iconst dX6_firstMetre_27 rfl rfl ?_
  refine q_istore (lv' := [(6, qi 0), (5, qi q978.1), (4, qi q976.1), (0, qr 9), (1, qi a1), (2, qi a2), (3, qi a3)]) dX6_firstMetre_28 (by decide) rfl rfl ?_
  obtain ⟨q994, h995, h⟩ := Option.bind_eq_some_iff.mp h
  refine q_pick [3, 4, 5, 6, 2, 1, 0] rfl (Search_firstMetre_L30_ok hL d qF a1 a2 a3 q976.1 q978.1 0 _ _ h995 (fun t996 e4117 => ?_) (fun w e4117 => ?_))
  · subst e4117
    simp only [Sum.elim_inl] at h
    refine q_iconst dX6_firstMetre_136 rfl rfl ?_
    cases h
    exact q_ireturn dX6_firstMetre_137 rfl hQ
  · subst e4117
    simp only [Sum.elim_inr] at h
    cases h
    exact hQ
set_option maxRecDepth 20000 in
theorem Search_find_L33_ok {X : qX} (hL : ∀ c, c < 93 → c ∈ qLs X) (d : Nat) {Q : Option qV → qSto → Prop} : ∀ (n : Nat) (x1 : Int) (x3 : Int) (x4 : Int) (x5 : Int) (S : qSto) (o : (qSto ⊕ (Int × qSto))), Search_find_L33 n x1 x4 x5 S = some o → (∀ t, o = Sum.inl t → qW X (d + 4) yX6_find cX6_find 8 (some .boolean) 139 [(0, qr 9), (1, qi x1), (3, qi x3), (4, qi x4)] [] t Q) → (∀ w, o = Sum.inr w → Q (some (qi w.1)) w.2) → qW X (d + 4) yX6_find cX6_find 8 (some .boolean) 33 [(0, qr 9), (1, qi x1), (3, qi x3), (4, qi x4), (5, qi x5)] [] S Q := by
  intro n
  induction n with
  | zero =>
    intro x1 x3 x4 x5 S o h
    simp [Search_find_L33] at h
  | succ n ih =>
    intro x1 x3 x4 x5 S o h hE hR
    rw [Search_find_L33] at h
    refine q_iload dX6_find_33 rfl rfl ?_
    refine q_sipush dX6_find_35 (by decide) rfl ?_
    obtain ⟨c969, h⟩ := qk_some h
    refine q_icmp_ge (tgt := 139) dX6_find_38 (by decide) rfl (qRb_R c969) ⟨by decide, by decide⟩ (fun g => ?_) (fun g => ?_)
    · rw [if_pos (show 336 ≤ x5 from g)] at h
      cases h
      exact q_pick [0, 1, 2, 3] rfl (hE _ rfl)
    · rw [if_neg (show ¬ (336 ≤ x5) from g)] at h
      refine q_aload_n dX6_find_41 rfl rfl ?_
      refine q_getA dX6_find_42 fl_X6_23 (hL 9 (by decide)) sh_9 (by decide) rfl rfl ?_
      refine q_iload_n dX6_find_45 rfl rfl ?_
      refine q_iload dX6_find_46 rfl rfl ?_
      refine q_iload dX6_find_48 rfl rfl ?_
      obtain ⟨q970, h971, h⟩ := Option.bind_eq_some_iff.mp h
      refine q_callVi (as := [qi x1, qi x5, qi x4]) (c := 8) dX6_find_50 ml_X6_41 rfl rfl (hL 8 (by decide)) sh_8 rfl rfl (Nat.le_of_ble_eq_true rfl) (Laws_ofTime_ok hL d x1 x5 x4 _ _ h971) rfl ?_
      obtain ⟨c972, h⟩ := qk_some h
      refine q_if_eq (tgt := 59) dX6_find_53 (by decide) rfl (qRb_R c972)  (fun g => ?_) (fun g => ?_)
      · rw [if_pos (show q970.1 = 0 from g)] at h
        refine q_aload_n dX6_find_59 rfl rfl ?_
        refine q_getA dX6_find_60 fl_X6_23 (hL 9 (by decide)) sh_9 (by decide) rfl rfl ?_
        refine q_iload dX6_find_63 rfl rfl ?_
        refine q_iload dX6_find_65 rfl rfl ?_
        obtain ⟨q973, h974, h⟩ := Option.bind_eq_some_iff.mp h
        refine q_callVi (as := [qi x5, qi x4]) (c := 8) dX6_find_67 ml_X6_47 rfl rfl (hL 8 (by decide)) sh_8 rfl rfl (Nat.le_of_ble_eq_true rfl) (Laws_firstShort_ok hL (d + 2) x5 x4 _ _ h974) rfl ?_
        refine q_istore (lv' := [(6, qi q973.1), (0, qr 9), (1, qi x1), (3, qi x3), (4, qi x4), (5, qi x5)]) dX6_find_70 (by decide) rfl rfl ?_
        refine q_iload dX6_find_72 rfl rfl ?_
        refine q_iconst dX6_find_74 rfl rfl ?_
        obtain ⟨c975, h⟩ := qk_some h
        refine q_icmp_eq (tgt := 85) dX6_find_75 (by decide) rfl (qRb_R c975) ⟨by decide, by decide⟩ (fun g => ?_) (fun g => ?_)
        · rw [if_pos (show q973.1 = (-1) from g)] at h
          refine q_aload_n dX6_find_85 rfl rfl ?_
          refine q_iload_n dX6_find_86 rfl rfl ?_
          refine q_iload dX6_find_87 rfl rfl ?_
          refine q_iload dX6_find_89 rfl rfl ?_
          obtain ⟨q997, h998, h⟩ := Option.bind_eq_some_iff.mp h
          refine q_callVi (as := [qi x1, qi x5, qi x4]) (c := 9) dX6_find_91 ml_X6_50 rfl rfl (hL 9 (by decide)) sh_9 rfl rfl (Nat.le_of_ble_eq_true rfl) (Search_firstMetre_ok hL d x1 x5 x4 _ _ h998) rfl ?_
          refine q_istore (lv' := [(7, qi q997.1), (6, qi q973.1), (0, qr 9), (1, qi x1), (3, qi x3), (4, qi x4), (5, qi x5)]) dX6_find_94 (by decide) rfl rfl ?_
          refine q_iload dX6_find_96 rfl rfl ?_
          refine q_iconst dX6_find_98 rfl rfl ?_
          obtain ⟨c999, h⟩ := qk_some h
          refine q_icmp_eq (tgt := 133) dX6_find_99 (by decide) rfl (qRb_R c999) ⟨by decide, by decide⟩ (fun g => ?_) (fun g => ?_)
          · rw [if_pos (show q997.1 = (-1) from g)] at h
            refine q_iinc (lv' := [(5, qi (x5 + 1)), (7, qi q997.1), (6, qi q973.1), (0, qr 9), (1, qi x1), (3, qi x3), (4, qi x4)]) dX6_find_133 (by decide) rfl rfl rfl ?_
            refine q_goto (pc' := 33) dX6_find_136 (by decide) ?_
            exact q_pick [3, 4, 5, 6, 0] rfl (ih x1 x3 x4 (x5 + 1) _ _ h hE hR)
          · rw [if_neg (show ¬ (q997.1 = (-1)) from g)] at h
            refine q_aload_n dX6_find_102 rfl rfl ?_
            refine q_iload dX6_find_103 rfl rfl ?_
            refine q_putI dX6_find_105 fl_X6_53 (hL 9 (by decide)) sh_9 (by decide) pf_6_5 pt_6_5 rfl rfl ?_
            refine q_aload_n dX6_find_108 rfl rfl ?_
            refine q_iload dX6_find_109 rfl rfl ?_
            refine q_putI dX6_find_111 fl_X6_57 (hL 9 (by decide)) sh_9 (by decide) pf_6_6 pt_6_6 rfl rfl ?_
            refine q_aload_n dX6_find_114 rfl rfl ?_
            refine q_iload dX6_find_115 rfl rfl ?_
            refine q_putI dX6_find_117 fl_X6_60 (hL 9 (by decide)) sh_9 (by decide) pf_6_7 pt_6_7 rfl rfl ?_
            refine q_aload_n dX6_find_120 rfl rfl ?_
            refine q_aload_n dX6_find_121 rfl rfl ?_
            refine q_getA dX6_find_122 fl_X6_23 (hL 9 (by decide)) sh_9 (by decide) rfl rfl ?_
            refine q_getI dX6_find_125 fl_X6_63 (hL 8 (by decide)) sh_8 (by decide) rfl rfl ?_
            refine q_putI dX6_find_128 fl_X6_66 (hL 9 (by decide)) sh_9 (by decide) pf_6_8 pt_6_8 rfl rfl ?_
            refine q_iconst dX6_find_131 rfl rfl ?_
            cases h
            exact q_zreturn dX6_find_132 rfl (by decide) (hR _ rfl)
        · rw [if_neg (show ¬ (q973.1 = (-1)) from g)] at h
          refine q_iload dX6_find_78 rfl rfl ?_
          refine q_istore (lv' := [(5, qi q973.1), (6, qi q973.1), (0, qr 9), (1, qi x1), (3, qi x3), (4, qi x4)]) dX6_find_80 (by decide) rfl rfl ?_
          refine q_goto (pc' := 133) dX6_find_82 (by decide) ?_
          refine q_iinc (lv' := [(5, qi (q973.1 + 1)), (6, qi q973.1), (0, qr 9), (1, qi x1), (3, qi x3), (4, qi x4)]) dX6_find_133 (by decide) rfl rfl rfl ?_
          refine q_goto (pc' := 33) dX6_find_136 (by decide) ?_
          exact q_pick [2, 3, 4, 5, 0] rfl (ih x1 x3 x4 (q973.1 + 1) _ _ h hE hR)
      · rw [if_neg (show ¬ (q970.1 = 0) from g)] at h
        refine q_goto (pc' := 133) dX6_find_56 (by decide) ?_
        refine q_iinc (lv' := [(5, qi (x5 + 1)), (0, qr 9), (1, qi x1), (3, qi x3), (4, qi x4)]) dX6_find_133 (by decide) rfl rfl rfl ?_
        refine q_goto (pc' := 33) dX6_find_136 (by decide) ?_
        exact q_pick [1, 2, 3, 4, 0] rfl (ih x1 x3 x4 (x5 + 1) _ _ h hE hR)
set_option maxRecDepth 20000 in
theorem Search_find_L3_ok {X : qX} (hL : ∀ c, c < 93 → c ∈ qLs X) (d : Nat) {Q : Option qV → qSto → Prop} : ∀ (n : Nat) (x1 : Int) (x3 : Int) (x4 : Int) (S : qSto) (o : (qSto ⊕ (Int × qSto))), Search_find_L3 n x1 x3 x4 S = some o → (∀ t, o = Sum.inl t → qW X (d + 4) yX6_find cX6_find 8 (some .boolean) 145 [] [] t Q) → (∀ w, o = Sum.inr w → Q (some (qi w.1)) w.2) → qW X (d + 4) yX6_find cX6_find 8 (some .boolean) 3 [(0, qr 9), (1, qi x1), (3, qi x3), (4, qi x4)] [] S Q := by
  intro n
  induction n with
  | zero =>
    intro x1 x3 x4 S o h
    simp [Search_find_L3] at h
  | succ n ih =>
    intro x1 x3 x4 S o h hE hR
    rw [Search_find_L3] at h
    refine q_iload dX6_find_3 rfl rfl ?_
    refine q_iload_n dX6_find_5 rfl rfl ?_
    obtain ⟨c932, h⟩ := qk_some h
    obtain ⟨c933, h⟩ := qk_some h
    refine q_icmp_lt (tgt := 145) dX6_find_6 (by decide) rfl (qRb_R c932) (qRb_R c933) (fun g => ?_) (fun g => ?_)
    · rw [if_pos (show x4 < x3 from g)] at h
      cases h
      exact q_pick [] rfl (hE _ rfl)
    · rw [if_neg (show ¬ (x4 < x3) from g)] at h
      refine q_aload_n dX6_find_9 rfl rfl ?_
      refine q_iload_n dX6_find_10 rfl rfl ?_
      refine q_iload dX6_find_11 rfl rfl ?_
      obtain ⟨q964, h965, h⟩ := Option.bind_eq_some_iff.mp h
      refine q_callVi (as := [qi x1, qi x4]) (c := 9) dX6_find_13 ml_X6_31 rfl rfl (hL 9 (by decide)) sh_9 rfl rfl (Nat.le_of_ble_eq_true rfl) (Search_survey_ok hL (d + 1) x1 x4 _ _ h965) rfl ?_
      obtain ⟨c966, h⟩ := qk_some h
      refine q_if_ne (tgt := 22) dX6_find_16 (by decide) rfl (qRb_R c966)  (fun g => ?_) (fun g => ?_)
      · rw [if_neg (show ¬ (q964.1 = 0) from g)] at h
        refine q_aload_n dX6_find_22 rfl rfl ?_
        refine q_getA dX6_find_23 fl_X6_15 (hL 9 (by decide)) sh_9 (by decide) rfl rfl ?_
        refine q_iload_n dX6_find_26 rfl rfl ?_
        refine q_iconst dX6_find_27 rfl rfl ?_
        obtain ⟨q967, h968, h⟩ := Option.bind_eq_some_iff.mp h
        refine q_callVi (as := [qi x1, qi 4]) (c := 2) dX6_find_28 ml_X6_35 rfl rfl (hL 2 (by decide)) sh_2 rfl rfl (Nat.le_of_ble_eq_true rfl) (Told_contractOf_ok hL (d + 3) x1 4 _ _ h968) rfl ?_
        refine q_istore (lv' := [(5, qi q967.1), (0, qr 9), (1, qi x1), (3, qi x3), (4, qi x4)]) dX6_find_31 (by decide) rfl rfl ?_
        obtain ⟨q1000, h1001, h⟩ := Option.bind_eq_some_iff.mp h
        refine q_pick [1, 2, 3, 4, 0] rfl (Search_find_L33_ok hL d qF x1 x3 x4 q967.1 _ _ h1001 (fun t1002 e4118 => ?_) (fun w e4118 => ?_))
        · subst e4118
          simp only [Sum.elim_inl] at h
          refine q_iinc (lv' := [(4, qi (x4 + (-1))), (0, qr 9), (1, qi x1), (3, qi x3)]) dX6_find_139 (by decide) rfl rfl rfl ?_
          refine q_goto (pc' := 3) dX6_find_142 (by decide) ?_
          exact q_pick [1, 2, 3, 0] rfl (ih x1 x3 (x4 + (-1)) _ _ h hE hR)
        · subst e4118
          simp only [Sum.elim_inr] at h
          cases h
          exact hR _ rfl
      · rw [if_pos (show q964.1 = 0 from g)] at h
        refine q_goto (pc' := 139) dX6_find_19 (by decide) ?_
        refine q_iinc (lv' := [(4, qi (x4 + (-1))), (0, qr 9), (1, qi x1), (3, qi x3)]) dX6_find_139 (by decide) rfl rfl rfl ?_
        refine q_goto (pc' := 3) dX6_find_142 (by decide) ?_
        exact q_pick [1, 2, 3, 0] rfl (ih x1 x3 (x4 + (-1)) _ _ h hE hR)
set_option maxRecDepth 20000 in
theorem Search_find_ok {X : qX} (hL : ∀ c, c < 93 → c ∈ qLs X) (d : Nat) (a1 : Int) (a2 : Int) (a3 : Int) (S : qSto) (o : (Int × qSto)) (h : Search_find a1 a2 a3 S = some o) (Q : Option qV → qSto → Prop) (hQ : Q (some (qi o.1)) o.2) : qC X (d + 4) yX6_find cX6_find 8 (some .boolean) [qr 9, qi a1, qi a2, qi a3] S Q := by
  refine q_entry (lv := [(0, qr 9), (1, qi a1), (2, qi a2), (3, qi a3)]) pn_X6 (Nat.le_of_ble_eq_true rfl) rfl ?_
  unfold Search_find at h
  refine q_iload_n dX6_find_0 rfl rfl ?_
  refine q_istore (lv' := [(4, qi a2), (0, qr 9), (1, qi a1), (2, qi a2), (3, qi a3)]) dX6_find_1 (by decide) rfl rfl ?_
  obtain ⟨q1003, h1004, h⟩ := Option.bind_eq_some_iff.mp h
  refine q_pick [1, 2, 4, 0] rfl (Search_find_L3_ok hL d qF a1 a3 a2 _ _ h1004 (fun t1005 e4119 => ?_) (fun w e4119 => ?_))
  · subst e4119
    simp only [Sum.elim_inl] at h
    refine q_iconst dX6_find_145 rfl rfl ?_
    cases h
    exact q_zreturn dX6_find_146 rfl (by decide) hQ
  · subst e4119
    simp only [Sum.elim_inr] at h
    cases h
    exact hQ
set_option maxRecDepth 20000 in
theorem C_earliest_ok {X : qX} (hL : ∀ c, c < 93 → c ∈ qLs X) (d : Nat) (a1 : Int) (a2 : Int) (a3 : Int) (S : qSto) (o : (Int × qSto)) (h : C_earliest a1 a2 a3 S = some o) (Q : Option qV → qSto → Prop) (hQ : Q (some (qi o.1)) o.2) : qC X (d + 5) yX11_earliest cX11_earliest 5 (some .int) [qr 0, qi a1, qi a2, qi a3] S Q := by
  refine q_entry (lv := [(0, qr 0), (1, qi a1), (2, qi a2), (3, qi a3)]) pn_X11 (Nat.le_of_ble_eq_true rfl) rfl ?_
  unfold C_earliest at h
  refine q_aload_n dX11_earliest_0 rfl rfl ?_
  refine q_iload_n dX11_earliest_1 rfl rfl ?_
  obtain ⟨q922, h923, h⟩ := Option.bind_eq_some_iff.mp h
  refine q_callVi (as := [qi a1]) (c := 0) dX11_earliest_2 ml_X11_216 rfl rfl (hL 0 (by decide)) sh_0 rfl rfl (Nat.le_of_ble_eq_true rfl) (C_isShip_ok hL (d + 4) a1 _ _ h923) rfl ?_
  obtain ⟨c924, h⟩ := qk_some h
  refine q_if_eq (tgt := 24) dX11_earliest_5 (by decide) rfl (qRb_R c924)  (fun g => ?_) (fun g => ?_)
  · rw [if_pos (show q922.1 = 0 from g)] at h
    refine q_iconst dX11_earliest_24 rfl rfl ?_
    cases h
    exact q_ireturn dX11_earliest_25 rfl hQ
  · rw [if_neg (show ¬ (q922.1 = 0) from g)] at h
    refine q_iload_n dX11_earliest_8 rfl rfl ?_
    obtain ⟨q925, h926, h⟩ := Option.bind_eq_some_iff.mp h
    refine q_callSi (as := [qi a2]) dX11_earliest_9 ml_X11_245 rfl rfl (Nat.le_of_ble_eq_true rfl) (C_isCraneNumber_ok hL (d + 4) a2 _ _ h926) rfl ?_
    obtain ⟨c927, h⟩ := qk_some h
    refine q_if_eq (tgt := 24) dX11_earliest_12 (by decide) rfl (qRb_R c927)  (fun g => ?_) (fun g => ?_)
    · rw [if_pos (show q925.1 = 0 from g)] at h
      refine q_iconst dX11_earliest_24 rfl rfl ?_
      cases h
      exact q_ireturn dX11_earliest_25 rfl hQ
    · rw [if_neg (show ¬ (q925.1 = 0) from g)] at h
      refine q_iload_n dX11_earliest_15 rfl rfl ?_
      obtain ⟨c928, h⟩ := qk_some h
      refine q_if_lt (tgt := 24) dX11_earliest_16 (by decide) rfl (qRb_R c928)  (fun g => ?_) (fun g => ?_)
      · rw [if_pos (show a3 < 0 from g)] at h
        refine q_iconst dX11_earliest_24 rfl rfl ?_
        cases h
        exact q_ireturn dX11_earliest_25 rfl hQ
      · rw [if_neg (show ¬ (a3 < 0) from g)] at h
        refine q_iload_n dX11_earliest_19 rfl rfl ?_
        refine q_iconst dX11_earliest_20 rfl rfl ?_
        obtain ⟨c929, h⟩ := qk_some h
        refine q_icmp_le (tgt := 26) dX11_earliest_21 (by decide) rfl (qRb_R c929) ⟨by decide, by decide⟩ (fun g => ?_) (fun g => ?_)
        · rw [if_pos (show a3 ≤ 2 from g)] at h
          refine q_aload_n dX11_earliest_26 rfl rfl ?_
          refine q_getA dX11_earliest_27 fl_X11_49 (hL 0 (by decide)) sh_0 (by decide) rfl rfl ?_
          refine q_iload_n dX11_earliest_30 rfl rfl ?_
          obtain ⟨q930, h931, h⟩ := Option.bind_eq_some_iff.mp h
          refine q_callVv (as := [qi a1]) (c := 6) dX11_earliest_31 ml_X11_260 rfl rfl (hL 6 (by decide)) sh_6 rfl rfl (Nat.le_of_ble_eq_true rfl) (Stays_takeUp_ok hL (d + 1) a1 _ _ h931) rfl ?_
          refine q_aload_n dX11_earliest_34 rfl rfl ?_
          refine q_getA dX11_earliest_35 fl_X11_76 (hL 0 (by decide)) sh_0 (by decide) rfl rfl ?_
          refine q_iload_n dX11_earliest_38 rfl rfl ?_
          refine q_iload_n dX11_earliest_39 rfl rfl ?_
          refine q_iload_n dX11_earliest_40 rfl rfl ?_
          obtain ⟨q1006, h1007, h⟩ := Option.bind_eq_some_iff.mp h
          refine q_callVi (as := [qi a1, qi a2, qi a2]) (c := 9) dX11_earliest_41 ml_X11_281 rfl rfl (hL 9 (by decide)) sh_9 rfl rfl (Nat.le_of_ble_eq_true rfl) (Search_find_ok hL d a1 a2 a2 _ _ h1007) rfl ?_
          refine q_istore (lv' := [(4, qi q1006.1), (0, qr 0), (1, qi a1), (2, qi a2), (3, qi a3)]) dX11_earliest_44 (by decide) rfl rfl ?_
          refine q_aload_n dX11_earliest_46 rfl rfl ?_
          refine q_getA dX11_earliest_47 fl_X11_49 (hL 0 (by decide)) sh_0 (by decide) rfl rfl ?_
          refine q_iload_n dX11_earliest_50 rfl rfl ?_
          obtain ⟨q1008, h1009, h⟩ := Option.bind_eq_some_iff.mp h
          refine q_callVv (as := [qi a1]) (c := 6) dX11_earliest_51 ml_X11_267 rfl rfl (hL 6 (by decide)) sh_6 rfl rfl (Nat.le_of_ble_eq_true rfl) (Stays_layBack_ok hL d a1 _ _ h1009) rfl ?_
          refine q_iload dX11_earliest_54 rfl rfl ?_
          obtain ⟨c1010, h⟩ := qk_some h
          refine q_if_ne (tgt := 62) dX11_earliest_56 (by decide) rfl (qRb_R c1010)  (fun g => ?_) (fun g => ?_)
          · rw [if_neg (show ¬ (q1006.1 = 0) from g)] at h
            refine q_iload_n dX11_earliest_62 rfl rfl ?_
            obtain ⟨c1011, h⟩ := qk_some h
            by_cases e4120 : a3 = 0
            · rw [if_pos e4120] at h
              refine q_lsw (tgt := 88) (off := 25) dX11_earliest_63 (by decide) (qRb_R c1011) (by rw [e4120]; rfl) (by decide) ?_
              refine q_aload_n dX11_earliest_88 rfl rfl ?_
              refine q_getA dX11_earliest_89 fl_X11_76 (hL 0 (by decide)) sh_0 (by decide) rfl rfl ?_
              refine q_getI dX11_earliest_92 fl_X11_285 (hL 9 (by decide)) sh_9 (by decide) rfl rfl ?_
              cases h
              exact q_ireturn dX11_earliest_95 rfl hQ
            · rw [if_neg e4120] at h
              by_cases e4121 : a3 = 1
              · rw [if_pos e4121] at h
                refine q_lsw (tgt := 96) (off := 33) dX11_earliest_63 (by decide) (qRb_R c1011) (by rw [e4121]; rfl) (by decide) ?_
                refine q_aload_n dX11_earliest_96 rfl rfl ?_
                refine q_getA dX11_earliest_97 fl_X11_76 (hL 0 (by decide)) sh_0 (by decide) rfl rfl ?_
                refine q_getI dX11_earliest_100 fl_X11_288 (hL 9 (by decide)) sh_9 (by decide) rfl rfl ?_
                cases h
                exact q_ireturn dX11_earliest_103 rfl hQ
              · rw [if_neg e4121] at h
                refine q_lsw (tgt := 104) (off := 41) dX11_earliest_63 (by decide) (qRb_R c1011) (by simp [Op.lookupswitch.offset, show ¬ (0 = a3) from fun z => e4120 z.symm, show ¬ (1 = a3) from fun z => e4121 z.symm]) (by decide) ?_
                refine q_aload_n dX11_earliest_104 rfl rfl ?_
                refine q_getA dX11_earliest_105 fl_X11_76 (hL 0 (by decide)) sh_0 (by decide) rfl rfl ?_
                refine q_getI dX11_earliest_108 fl_X11_290 (hL 9 (by decide)) sh_9 (by decide) rfl rfl ?_
                cases h
                exact q_ireturn dX11_earliest_111 rfl hQ
          · rw [if_pos (show q1006.1 = 0 from g)] at h
            refine q_bipush dX11_earliest_59 (by decide) rfl ?_
            cases h
            exact q_ireturn dX11_earliest_61 rfl hQ
        · rw [if_neg (show ¬ (a3 ≤ 2) from g)] at h
          refine q_iconst dX11_earliest_24 rfl rfl ?_
          cases h
          exact q_ireturn dX11_earliest_25 rfl hQ
set_option maxRecDepth 20000 in
theorem Stays_save_14_L2_ok {X : qX} (hL : ∀ c, c < 93 → c ∈ qLs X) (d : Nat) {Q : Option qV → qSto → Prop} : ∀ (n : Nat) (x2 : Int) (S : qSto) (o : qSto), Stays_save_14_L2 n x2 S = some o → (qW X d yX7_save cX7_save 3 none 51 [] [] o Q) → qW X d yX7_save cX7_save 3 none 2 [(0, qr 6), (1, qr 14), (2, qi x2)] [] S Q := by
  intro n
  induction n with
  | zero =>
    intro x2 S o h
    simp [Stays_save_14_L2] at h
  | succ n ih =>
    intro x2 S o h hE
    rw [Stays_save_14_L2] at h
    refine q_iload_n dX7_save_2 rfl rfl ?_
    refine q_bipush dX7_save_3 (by decide) rfl ?_
    obtain ⟨c1021, h⟩ := qk_some h
    refine q_icmp_ge (tgt := 51) dX7_save_5 (by decide) rfl (qRb_R c1021) ⟨by decide, by decide⟩ (fun g => ?_) (fun g => ?_)
    · rw [if_pos (show 14 ≤ x2 from g)] at h
      cases h
      exact q_pick [] rfl (hE)
    · rw [if_neg (show ¬ (14 ≤ x2) from g)] at h
      refine q_aload_n dX7_save_8 rfl rfl ?_
      refine q_iload_n dX7_save_9 rfl rfl ?_
      refine q_iconst dX7_save_10 rfl rfl ?_
      refine q_imul dX7_save_11 rfl ?_
      refine q_aload_n dX7_save_12 rfl rfl ?_
      refine q_getA dX7_save_13 fl_X7_9 (hL 6 (by decide)) sh_6 (by decide) rfl rfl ?_
      refine q_iload_n dX7_save_16 rfl rfl ?_
      obtain ⟨c1022, h⟩ := qk_some h
      refine q_iaload dX7_save_17 (hL 37 (by decide)) sh_37 (qIx_0 c1022) (qIx_1 c1022) rfl ?_
      obtain ⟨c1023, h⟩ := qk_some h
      refine q_iastore dX7_save_18 (hL 14 (by decide)) sh_14 (qIx_0 c1023) (qIx_1 c1023) rfl ?_
      refine q_aload_n dX7_save_19 rfl rfl ?_
      refine q_iload_n dX7_save_20 rfl rfl ?_
      refine q_iconst dX7_save_21 rfl rfl ?_
      refine q_imul dX7_save_22 rfl ?_
      refine q_iconst dX7_save_23 rfl rfl ?_
      refine q_iadd dX7_save_24 rfl ?_
      refine q_aload_n dX7_save_25 rfl rfl ?_
      refine q_getA dX7_save_26 fl_X7_18 (hL 6 (by decide)) sh_6 (by decide) rfl rfl ?_
      refine q_iload_n dX7_save_29 rfl rfl ?_
      obtain ⟨c1024, h⟩ := qk_some h
      refine q_iaload dX7_save_30 (hL 39 (by decide)) sh_39 (qIx_0 c1024) (qIx_1 c1024) rfl ?_
      obtain ⟨c1025, h⟩ := qk_some h
      refine q_iastore dX7_save_31 (hL 14 (by decide)) sh_14 (qIx_0 c1025) (qIx_1 c1025) rfl ?_
      refine q_aload_n dX7_save_32 rfl rfl ?_
      refine q_iload_n dX7_save_33 rfl rfl ?_
      refine q_iconst dX7_save_34 rfl rfl ?_
      refine q_imul dX7_save_35 rfl ?_
      refine q_iconst dX7_save_36 rfl rfl ?_
      refine q_iadd dX7_save_37 rfl ?_
      refine q_aload_n dX7_save_38 rfl rfl ?_
      refine q_getA dX7_save_39 fl_X7_21 (hL 6 (by decide)) sh_6 (by decide) rfl rfl ?_
      refine q_iload_n dX7_save_42 rfl rfl ?_
      obtain ⟨c1026, h⟩ := qk_some h
      refine q_iaload dX7_save_43 (hL 40 (by decide)) sh_40 (qIx_0 c1026) (qIx_1 c1026) rfl ?_
      obtain ⟨c1027, h⟩ := qk_some h
      refine q_iastore dX7_save_44 (hL 14 (by decide)) sh_14 (qIx_0 c1027) (qIx_1 c1027) rfl ?_
      refine q_iinc (lv' := [(2, qi (x2 + 1)), (0, qr 6), (1, qr 14)]) dX7_save_45 (by decide) rfl rfl rfl ?_
      refine q_goto (pc' := 2) dX7_save_48 (by decide) ?_
      exact q_pick [1, 2, 0] rfl (ih (x2 + 1) _ _ h hE)
set_option maxRecDepth 20000 in
theorem Stays_save_14_ok {X : qX} (hL : ∀ c, c < 93 → c ∈ qLs X) (d : Nat) (S : qSto) (o : qSto) (h : Stays_save_14 S = some o) (Q : Option qV → qSto → Prop) (hQ : Q none o) : qC X d yX7_save cX7_save 3 none [qr 6, qr 14] S Q := by
  refine q_entry (lv := [(0, qr 6), (1, qr 14)]) pn_X7 (Nat.le_of_ble_eq_true rfl) rfl ?_
  unfold Stays_save_14 at h
  refine q_iconst dX7_save_0 rfl rfl ?_
  refine q_istore_n (lv' := [(2, qi 0), (0, qr 6), (1, qr 14)]) dX7_save_1 (by decide) rfl rfl ?_
  obtain ⟨q1028, h1029, h⟩ := Option.bind_eq_some_iff.mp h
  refine q_pick [1, 2, 0] rfl (Stays_save_14_L2_ok hL d qF 0 _ _ h1029 ?_)
  cases h
  exact q_return dX7_save_51 rfl hQ
set_option maxRecDepth 20000 in
theorem History_keep_14_ok {X : qX} (hL : ∀ c, c < 93 → c ∈ qLs X) (d : Nat) (S : qSto) (o : qSto) (h : History_keep_14 S = some o) (Q : Option qV → qSto → Prop) (hQ : Q none o) : qC X d yX2_keep cX2_keep 3 none [qr 12, qr 14] S Q := by
  refine q_entry (lv := [(0, qr 12), (1, qr 14)]) pn_X2 (Nat.le_of_ble_eq_true rfl) rfl ?_
  unfold History_keep_14 at h
  refine q_aload_n dX2_keep_0 rfl rfl ?_
  refine q_getI dX2_keep_1 fl_X2_26 (hL 12 (by decide)) sh_12 (by decide) rfl rfl ?_
  refine q_aload_n dX2_keep_4 rfl rfl ?_
  refine q_getI dX2_keep_5 fl_X2_19 (hL 12 (by decide)) sh_12 (by decide) rfl rfl ?_
  refine q_iadd dX2_keep_8 rfl ?_
  refine q_bipush dX2_keep_9 (by decide) rfl ?_
  obtain ⟨c1034, h⟩ := qk_some h
  refine q_irem dX2_keep_11 (qRb_R c1034) ⟨by decide, by decide⟩ (by decide) rfl ?_
  refine q_istore_n (lv' := [(2, qi (Int.tmod ((S 12 1) + (S 12 2)) 12)), (0, qr 12), (1, qr 14)]) dX2_keep_12 (by decide) rfl rfl ?_
  refine q_aload_n dX2_keep_13 rfl rfl ?_
  refine q_iconst dX2_keep_14 rfl rfl ?_
  refine q_aload_n dX2_keep_15 rfl rfl ?_
  refine q_getA dX2_keep_16 fl_X2_11 (hL 12 (by decide)) sh_12 (by decide) rfl rfl ?_
  refine q_iload_n dX2_keep_19 rfl rfl ?_
  obtain ⟨c1035, h⟩ := qk_some h
  refine q_aaload dX2_keep_20 (hL 51 (by decide)) sh_51 (qIx_0 c1035) (qIx_1 c1035) rfl ?_
  refine q_iconst dX2_keep_21 rfl rfl ?_
  refine q_bipush dX2_keep_22 (by decide) rfl ?_
  obtain ⟨c1036, h⟩ := qk_some h
  refine q_copy dX2_keep_24 cw_X2_29 (hL 14 (by decide)) (hL _ (qAr_L c1036)) sh_14 (qAr_S c1036) (by decide) (by decide) (by decide) (by decide) (by decide) (Nat.le_of_ble_eq_true rfl) rfl ?_
  refine q_aload_n dX2_keep_27 rfl rfl ?_
  refine q_getI dX2_keep_28 fl_X2_19 (hL 12 (by decide)) sh_12 (by decide) rfl rfl ?_
  refine q_bipush dX2_keep_31 (by decide) rfl ?_
  obtain ⟨c1037, h⟩ := qk_some h
  refine q_icmp_ne (tgt := 52) dX2_keep_33 (by decide) rfl (qRb_R c1037) ⟨by decide, by decide⟩ (fun g => ?_) (fun g => ?_)
  · rw [if_neg (show ¬ (((qua S (qrf 51 (Int.toNat (Int.tmod ((S 12 1) + (S 12 2)) 12))) (qcpy S 14 (qrf 51 (Int.toNat (Int.tmod ((S 12 1) + (S 12 2)) 12))) 0 0 42)) 12 2) = 12) from g)] at h
    refine q_aload_n dX2_keep_52 rfl rfl ?_
    refine q_dupA dX2_keep_53 rfl ?_
    refine q_getI dX2_keep_54 fl_X2_19 (hL 12 (by decide)) sh_12 (by decide) rfl rfl ?_
    refine q_iconst dX2_keep_57 rfl rfl ?_
    refine q_iadd dX2_keep_58 rfl ?_
    refine q_putI dX2_keep_59 fl_X2_19 (hL 12 (by decide)) sh_12 (by decide) pf_2_2 pt_2_2 rfl rfl ?_
    cases h
    exact q_return dX2_keep_62 rfl hQ
  · rw [if_pos (show ((qua S (qrf 51 (Int.toNat (Int.tmod ((S 12 1) + (S 12 2)) 12))) (qcpy S 14 (qrf 51 (Int.toNat (Int.tmod ((S 12 1) + (S 12 2)) 12))) 0 0 42)) 12 2) = 12 from g)] at h
    refine q_aload_n dX2_keep_36 rfl rfl ?_
    refine q_aload_n dX2_keep_37 rfl rfl ?_
    refine q_getI dX2_keep_38 fl_X2_26 (hL 12 (by decide)) sh_12 (by decide) rfl rfl ?_
    refine q_iconst dX2_keep_41 rfl rfl ?_
    refine q_iadd dX2_keep_42 rfl ?_
    refine q_bipush dX2_keep_43 (by decide) rfl ?_
    obtain ⟨c1038, h⟩ := qk_some h
    refine q_irem dX2_keep_45 (qRb_R c1038) ⟨by decide, by decide⟩ (by decide) rfl ?_
    refine q_putI dX2_keep_46 fl_X2_26 (hL 12 (by decide)) sh_12 (by decide) pf_2_1 pt_2_1 rfl rfl ?_
    refine q_goto (pc' := 62) dX2_keep_49 (by decide) ?_
    cases h
    exact q_return dX2_keep_62 rfl hQ
set_option maxRecDepth 20000 in
theorem C_keepAct_ok {X : qX} (hL : ∀ c, c < 93 → c ∈ qLs X) (d : Nat) (S : qSto) (o : qSto) (h : C_keepAct S = some o) (Q : Option qV → qSto → Prop) (hQ : Q none o) : qC X (d + 1) yX11_keepAct cX11_keepAct 1 none [qr 0] S Q := by
  refine q_entry (lv := [(0, qr 0)]) pn_X11 (Nat.le_of_ble_eq_true rfl) rfl ?_
  unfold C_keepAct at h
  refine q_aload_n dX11_keepAct_0 rfl rfl ?_
  refine q_getA dX11_keepAct_1 fl_X11_99 (hL 0 (by decide)) sh_0 (by decide) rfl rfl ?_
  refine q_aload_n dX11_keepAct_4 rfl rfl ?_
  refine q_getA dX11_keepAct_5 fl_X11_110 (hL 0 (by decide)) sh_0 (by decide) rfl rfl ?_
  obtain ⟨q1039, h1040, h⟩ := Option.bind_eq_some_iff.mp h
  refine q_callVv (as := [qr 14]) (c := 12) dX11_keepAct_8 ml_X11_306 rfl rfl (hL 12 (by decide)) sh_12 rfl rfl (Nat.le_of_ble_eq_true rfl) (History_keep_14_ok hL d _ _ h1040) rfl ?_
  refine q_aload_n dX11_keepAct_11 rfl rfl ?_
  refine q_getA dX11_keepAct_12 fl_X11_92 (hL 0 (by decide)) sh_0 (by decide) rfl rfl ?_
  refine q_iconst dX11_keepAct_15 rfl rfl ?_
  refine q_putZ dX11_keepAct_16 fl_X11_136 (hL 11 (by decide)) sh_11 (by decide) pf_1_3 pt_1_3 rfl (by decide) rfl ?_
  cases h
  exact q_return dX11_keepAct_19 rfl hQ
set_option maxRecDepth 20000 in
theorem C_refusal_ok {X : qX} (hL : ∀ c, c < 93 → c ∈ qLs X) (d : Nat) (a0 : Int) (S : qSto) (o : (Int × qSto)) (h : C_refusal a0 S = some o) (Q : Option qV → qSto → Prop) (hQ : Q (some (qi o.1)) o.2) : qC X d yX11_refusal cX11_refusal 1 (some .int) [qi a0] S Q := by
  refine q_entry (lv := [(0, qi a0)]) pn_X11 (Nat.le_of_ble_eq_true rfl) rfl ?_
  unfold C_refusal at h
  refine q_iconst dX11_refusal_0 rfl rfl ?_
  refine q_iload_n dX11_refusal_1 rfl rfl ?_
  refine q_isub dX11_refusal_2 rfl ?_
  cases h
  exact q_ireturn dX11_refusal_3 rfl hQ
set_option maxRecDepth 20000 in
theorem C_put_ok {X : qX} (hL : ∀ c, c < 93 → c ∈ qLs X) (d : Nat) (a1 : Int) (a2 : Int) (a3 : Int) (a4 : Int) (S : qSto) (o : (Int × qSto)) (h : C_put a1 a2 a3 a4 S = some o) (Q : Option qV → qSto → Prop) (hQ : Q (some (qi o.1)) o.2) : qC X (d + 5) yX11_put cX11_put 6 (some .int) [qr 0, qi a1, qi a2, qi a3, qi a4] S Q := by
  refine q_entry (lv := [(0, qr 0), (1, qi a1), (2, qi a2), (3, qi a3), (4, qi a4)]) pn_X11 (Nat.le_of_ble_eq_true rfl) rfl ?_
  unfold C_put at h
  refine q_aload_n dX11_put_0 rfl rfl ?_
  refine q_iload_n dX11_put_1 rfl rfl ?_
  obtain ⟨q1012, h1013, h⟩ := Option.bind_eq_some_iff.mp h
  refine q_callVi (as := [qi a1]) (c := 0) dX11_put_2 ml_X11_216 rfl rfl (hL 0 (by decide)) sh_0 rfl rfl (Nat.le_of_ble_eq_true rfl) (C_isShip_ok hL (d + 4) a1 _ _ h1013) rfl ?_
  obtain ⟨c1014, h⟩ := qk_some h
  refine q_if_eq (tgt := 19) dX11_put_5 (by decide) rfl (qRb_R c1014)  (fun g => ?_) (fun g => ?_)
  · rw [if_pos (show q1012.1 = 0 from g)] at h
    refine q_iconst dX11_put_19 rfl rfl ?_
    cases h
    exact q_ireturn dX11_put_20 rfl hQ
  · rw [if_neg (show ¬ (q1012.1 = 0) from g)] at h
    refine q_aload_n dX11_put_8 rfl rfl ?_
    refine q_getA dX11_put_9 fl_X11_49 (hL 0 (by decide)) sh_0 (by decide) rfl rfl ?_
    refine q_iload_n dX11_put_12 rfl rfl ?_
    obtain ⟨q1015, h1016, h⟩ := Option.bind_eq_some_iff.mp h
    refine q_callVi (as := [qi a1]) (c := 6) dX11_put_13 ml_X11_178 rfl rfl (hL 6 (by decide)) sh_6 rfl rfl (Nat.le_of_ble_eq_true rfl) (Stays_has_ok hL (d + 4) a1 _ _ h1016) rfl ?_
    obtain ⟨c1017, h⟩ := qk_some h
    refine q_if_eq (tgt := 21) dX11_put_16 (by decide) rfl (qRb_R c1017)  (fun g => ?_) (fun g => ?_)
    · rw [if_pos (show q1015.1 = 0 from g)] at h
      refine q_aload_n dX11_put_21 rfl rfl ?_
      refine q_getA dX11_put_22 fl_X11_67 (hL 0 (by decide)) sh_0 (by decide) rfl rfl ?_
      refine q_iload_n dX11_put_25 rfl rfl ?_
      refine q_iload_n dX11_put_26 rfl rfl ?_
      refine q_iload_n dX11_put_27 rfl rfl ?_
      refine q_iload dX11_put_28 rfl rfl ?_
      obtain ⟨q1018, h1019, h⟩ := Option.bind_eq_some_iff.mp h
      refine q_callVi (as := [qi a1, qi a2, qi a3, qi a4]) (c := 8) dX11_put_30 ml_X11_263 rfl rfl (hL 8 (by decide)) sh_8 rfl rfl (Nat.le_of_ble_eq_true rfl) (Laws_firstBroken_ok hL d a1 a2 a3 a4 _ _ h1019) rfl ?_
      refine q_istore (lv' := [(5, qi q1018.1), (0, qr 0), (1, qi a1), (2, qi a2), (3, qi a3), (4, qi a4)]) dX11_put_33 (by decide) rfl rfl ?_
      refine q_iload dX11_put_35 rfl rfl ?_
      obtain ⟨c1020, h⟩ := qk_some h
      refine q_if_eq (tgt := 46) dX11_put_37 (by decide) rfl (qRb_R c1020)  (fun g => ?_) (fun g => ?_)
      · rw [if_pos (show q1018.1 = 0 from g)] at h
        refine q_aload_n dX11_put_46 rfl rfl ?_
        refine q_getA dX11_put_47 fl_X11_49 (hL 0 (by decide)) sh_0 (by decide) rfl rfl ?_
        refine q_aload_n dX11_put_50 rfl rfl ?_
        refine q_getA dX11_put_51 fl_X11_110 (hL 0 (by decide)) sh_0 (by decide) rfl rfl ?_
        obtain ⟨q1030, h1031, h⟩ := Option.bind_eq_some_iff.mp h
        refine q_callVv (as := [qr 14]) (c := 6) dX11_put_54 ml_X11_295 rfl rfl (hL 6 (by decide)) sh_6 rfl rfl (Nat.le_of_ble_eq_true rfl) (Stays_save_14_ok hL (d + 4) _ _ h1031) rfl ?_
        refine q_aload_n dX11_put_57 rfl rfl ?_
        refine q_getA dX11_put_58 fl_X11_49 (hL 0 (by decide)) sh_0 (by decide) rfl rfl ?_
        refine q_iload_n dX11_put_61 rfl rfl ?_
        refine q_iload_n dX11_put_62 rfl rfl ?_
        refine q_iload_n dX11_put_63 rfl rfl ?_
        refine q_iload dX11_put_64 rfl rfl ?_
        obtain ⟨q1032, h1033, h⟩ := Option.bind_eq_some_iff.mp h
        refine q_callVv (as := [qi a1, qi a2, qi a3, qi a4]) (c := 6) dX11_put_66 ml_X11_299 rfl rfl (hL 6 (by decide)) sh_6 rfl rfl (Nat.le_of_ble_eq_true rfl) (Stays_lay_ok hL (d + 1) a1 a2 a3 a4 _ _ h1033) rfl ?_
        refine q_aload_n dX11_put_69 rfl rfl ?_
        obtain ⟨q1041, h1042, h⟩ := Option.bind_eq_some_iff.mp h
        refine q_callVv (as := []) (c := 0) dX11_put_70 ml_X11_303 rfl rfl (hL 0 (by decide)) sh_0 rfl rfl (Nat.le_of_ble_eq_true rfl) (C_keepAct_ok hL (d + 3) _ _ h1042) rfl ?_
        refine q_aload_n dX11_put_73 rfl rfl ?_
        refine q_getA dX11_put_74 fl_X11_49 (hL 0 (by decide)) sh_0 (by decide) rfl rfl ?_
        refine q_getA dX11_put_77 fl_X11_236 (hL 6 (by decide)) sh_6 (by decide) rfl rfl ?_
        refine q_iload_n dX11_put_80 rfl rfl ?_
        obtain ⟨c1043, h⟩ := qk_some h
        refine q_iaload dX11_put_81 (hL 42 (by decide)) sh_42 (qIx_0 c1043) (qIx_1 c1043) rfl ?_
        cases h
        exact q_ireturn dX11_put_82 rfl hQ
      · rw [if_neg (show ¬ (q1018.1 = 0) from g)] at h
        refine q_iload dX11_put_40 rfl rfl ?_
        obtain ⟨q1044, h1045, h⟩ := Option.bind_eq_some_iff.mp h
        refine q_callSi (as := [qi q1018.1]) dX11_put_42 ml_X11_292 rfl rfl (Nat.le_of_ble_eq_true rfl) (C_refusal_ok hL (d + 4) q1018.1 _ _ h1045) rfl ?_
        cases h
        exact q_ireturn dX11_put_45 rfl hQ
    · rw [if_neg (show ¬ (q1015.1 = 0) from g)] at h
      refine q_iconst dX11_put_19 rfl rfl ?_
      cases h
      exact q_ireturn dX11_put_20 rfl hQ
set_option maxRecDepth 20000 in
theorem C_layByItself_ok {X : qX} (hL : ∀ c, c < 93 → c ∈ qLs X) (d : Nat) (a1 : Int) (S : qSto) (o : (Int × qSto)) (h : C_layByItself a1 S = some o) (Q : Option qV → qSto → Prop) (hQ : Q (some (qi o.1)) o.2) : qC X (d + 5) yX11_layByItself cX11_layByItself 2 (some .boolean) [qr 0, qi a1] S Q := by
  refine q_entry (lv := [(0, qr 0), (1, qi a1)]) pn_X11 (Nat.le_of_ble_eq_true rfl) rfl ?_
  unfold C_layByItself at h
  refine q_aload_n dX11_layByItself_0 rfl rfl ?_
  refine q_getA dX11_layByItself_1 fl_X11_76 (hL 0 (by decide)) sh_0 (by decide) rfl rfl ?_
  refine q_iload_n dX11_layByItself_4 rfl rfl ?_
  refine q_aload_n dX11_layByItself_5 rfl rfl ?_
  refine q_getA dX11_layByItself_6 fl_X11_16 (hL 0 (by decide)) sh_0 (by decide) rfl rfl ?_
  refine q_iload_n dX11_layByItself_9 rfl rfl ?_
  refine q_bipush dX11_layByItself_10 (by decide) rfl ?_
  obtain ⟨q1054, h1055, h⟩ := Option.bind_eq_some_iff.mp h
  refine q_callVi (as := [qi a1, qi 8]) (c := 2) dX11_layByItself_12 ml_X11_219 rfl rfl (hL 2 (by decide)) sh_2 rfl rfl (Nat.le_of_ble_eq_true rfl) (Told_contractOf_ok hL (d + 4) a1 8 _ _ h1055) rfl ?_
  refine q_aload_n dX11_layByItself_15 rfl rfl ?_
  refine q_getA dX11_layByItself_16 fl_X11_16 (hL 0 (by decide)) sh_0 (by decide) rfl rfl ?_
  refine q_iload_n dX11_layByItself_19 rfl rfl ?_
  refine q_bipush dX11_layByItself_20 (by decide) rfl ?_
  obtain ⟨q1056, h1057, h⟩ := Option.bind_eq_some_iff.mp h
  refine q_callVi (as := [qi a1, qi 7]) (c := 2) dX11_layByItself_22 ml_X11_219 rfl rfl (hL 2 (by decide)) sh_2 rfl rfl (Nat.le_of_ble_eq_true rfl) (Told_contractOf_ok hL (d + 4) a1 7 _ _ h1057) rfl ?_
  obtain ⟨q1058, h1059, h⟩ := Option.bind_eq_some_iff.mp h
  refine q_callVi (as := [qi a1, qi q1054.1, qi q1056.1]) (c := 9) dX11_layByItself_25 ml_X11_281 rfl rfl (hL 9 (by decide)) sh_9 rfl rfl (Nat.le_of_ble_eq_true rfl) (Search_find_ok hL d a1 q1054.1 q1056.1 _ _ h1059) rfl ?_
  obtain ⟨c1060, h⟩ := qk_some h
  refine q_if_ne (tgt := 33) dX11_layByItself_28 (by decide) rfl (qRb_R c1060)  (fun g => ?_) (fun g => ?_)
  · rw [if_neg (show ¬ (q1058.1 = 0) from g)] at h
    refine q_aload_n dX11_layByItself_33 rfl rfl ?_
    refine q_getA dX11_layByItself_34 fl_X11_49 (hL 0 (by decide)) sh_0 (by decide) rfl rfl ?_
    refine q_iload_n dX11_layByItself_37 rfl rfl ?_
    refine q_aload_n dX11_layByItself_38 rfl rfl ?_
    refine q_getA dX11_layByItself_39 fl_X11_76 (hL 0 (by decide)) sh_0 (by decide) rfl rfl ?_
    refine q_getI dX11_layByItself_42 fl_X11_288 (hL 9 (by decide)) sh_9 (by decide) rfl rfl ?_
    refine q_aload_n dX11_layByItself_45 rfl rfl ?_
    refine q_getA dX11_layByItself_46 fl_X11_76 (hL 0 (by decide)) sh_0 (by decide) rfl rfl ?_
    refine q_getI dX11_layByItself_49 fl_X11_285 (hL 9 (by decide)) sh_9 (by decide) rfl rfl ?_
    refine q_aload_n dX11_layByItself_52 rfl rfl ?_
    refine q_getA dX11_layByItself_53 fl_X11_76 (hL 0 (by decide)) sh_0 (by decide) rfl rfl ?_
    refine q_getI dX11_layByItself_56 fl_X11_312 (hL 9 (by decide)) sh_9 (by decide) rfl rfl ?_
    obtain ⟨q1061, h1062, h⟩ := Option.bind_eq_some_iff.mp h
    refine q_callVv (as := [qi a1, qi (q1058.2 9 5), qi (q1058.2 9 6), qi (q1058.2 9 7)]) (c := 6) dX11_layByItself_59 ml_X11_299 rfl rfl (hL 6 (by decide)) sh_6 rfl rfl (Nat.le_of_ble_eq_true rfl) (Stays_lay_ok hL (d + 1) a1 (q1058.2 9 5) (q1058.2 9 6) (q1058.2 9 7) _ _ h1062) rfl ?_
    refine q_iconst dX11_layByItself_62 rfl rfl ?_
    cases h
    exact q_zreturn dX11_layByItself_63 rfl (by decide) hQ
  · rw [if_pos (show q1058.1 = 0 from g)] at h
    refine q_iconst dX11_layByItself_31 rfl rfl ?_
    cases h
    exact q_zreturn dX11_layByItself_32 rfl (by decide) hQ
set_option maxRecDepth 20000 in
theorem C_itself_ok {X : qX} (hL : ∀ c, c < 93 → c ∈ qLs X) (d : Nat) (a1 : Int) (S : qSto) (o : (Int × qSto)) (h : C_itself a1 S = some o) (Q : Option qV → qSto → Prop) (hQ : Q (some (qi o.1)) o.2) : qC X (d + 6) yX11_itself cX11_itself 2 (some .int) [qr 0, qi a1] S Q := by
  refine q_entry (lv := [(0, qr 0), (1, qi a1)]) pn_X11 (Nat.le_of_ble_eq_true rfl) rfl ?_
  unfold C_itself at h
  refine q_aload_n dX11_itself_0 rfl rfl ?_
  refine q_iload_n dX11_itself_1 rfl rfl ?_
  obtain ⟨q1046, h1047, h⟩ := Option.bind_eq_some_iff.mp h
  refine q_callVi (as := [qi a1]) (c := 0) dX11_itself_2 ml_X11_216 rfl rfl (hL 0 (by decide)) sh_0 rfl rfl (Nat.le_of_ble_eq_true rfl) (C_isShip_ok hL (d + 5) a1 _ _ h1047) rfl ?_
  obtain ⟨c1048, h⟩ := qk_some h
  refine q_if_eq (tgt := 19) dX11_itself_5 (by decide) rfl (qRb_R c1048)  (fun g => ?_) (fun g => ?_)
  · rw [if_pos (show q1046.1 = 0 from g)] at h
    refine q_iconst dX11_itself_19 rfl rfl ?_
    cases h
    exact q_ireturn dX11_itself_20 rfl hQ
  · rw [if_neg (show ¬ (q1046.1 = 0) from g)] at h
    refine q_aload_n dX11_itself_8 rfl rfl ?_
    refine q_getA dX11_itself_9 fl_X11_49 (hL 0 (by decide)) sh_0 (by decide) rfl rfl ?_
    refine q_iload_n dX11_itself_12 rfl rfl ?_
    obtain ⟨q1049, h1050, h⟩ := Option.bind_eq_some_iff.mp h
    refine q_callVi (as := [qi a1]) (c := 6) dX11_itself_13 ml_X11_178 rfl rfl (hL 6 (by decide)) sh_6 rfl rfl (Nat.le_of_ble_eq_true rfl) (Stays_has_ok hL (d + 5) a1 _ _ h1050) rfl ?_
    obtain ⟨c1051, h⟩ := qk_some h
    refine q_if_eq (tgt := 21) dX11_itself_16 (by decide) rfl (qRb_R c1051)  (fun g => ?_) (fun g => ?_)
    · rw [if_pos (show q1049.1 = 0 from g)] at h
      refine q_aload_n dX11_itself_21 rfl rfl ?_
      refine q_getA dX11_itself_22 fl_X11_49 (hL 0 (by decide)) sh_0 (by decide) rfl rfl ?_
      refine q_aload_n dX11_itself_25 rfl rfl ?_
      refine q_getA dX11_itself_26 fl_X11_110 (hL 0 (by decide)) sh_0 (by decide) rfl rfl ?_
      obtain ⟨q1052, h1053, h⟩ := Option.bind_eq_some_iff.mp h
      refine q_callVv (as := [qr 14]) (c := 6) dX11_itself_29 ml_X11_295 rfl rfl (hL 6 (by decide)) sh_6 rfl rfl (Nat.le_of_ble_eq_true rfl) (Stays_save_14_ok hL (d + 5) _ _ h1053) rfl ?_
      refine q_aload_n dX11_itself_32 rfl rfl ?_
      refine q_iload_n dX11_itself_33 rfl rfl ?_
      obtain ⟨q1063, h1064, h⟩ := Option.bind_eq_some_iff.mp h
      refine q_callVi (as := [qi a1]) (c := 0) dX11_itself_34 ml_X11_309 rfl rfl (hL 0 (by decide)) sh_0 rfl rfl (Nat.le_of_ble_eq_true rfl) (C_layByItself_ok hL d a1 _ _ h1064) rfl ?_
      obtain ⟨c1065, h⟩ := qk_some h
      refine q_if_ne (tgt := 43) dX11_itself_37 (by decide) rfl (qRb_R c1065)  (fun g => ?_) (fun g => ?_)
      · rw [if_neg (show ¬ (q1063.1 = 0) from g)] at h
        refine q_aload_n dX11_itself_43 rfl rfl ?_
        obtain ⟨q1066, h1067, h⟩ := Option.bind_eq_some_iff.mp h
        refine q_callVv (as := []) (c := 0) dX11_itself_44 ml_X11_303 rfl rfl (hL 0 (by decide)) sh_0 rfl rfl (Nat.le_of_ble_eq_true rfl) (C_keepAct_ok hL (d + 4) _ _ h1067) rfl ?_
        refine q_aload_n dX11_itself_47 rfl rfl ?_
        refine q_getA dX11_itself_48 fl_X11_49 (hL 0 (by decide)) sh_0 (by decide) rfl rfl ?_
        refine q_getA dX11_itself_51 fl_X11_228 (hL 6 (by decide)) sh_6 (by decide) rfl rfl ?_
        refine q_iload_n dX11_itself_54 rfl rfl ?_
        obtain ⟨c1068, h⟩ := qk_some h
        refine q_iaload dX11_itself_55 (hL 39 (by decide)) sh_39 (qIx_0 c1068) (qIx_1 c1068) rfl ?_
        cases h
        exact q_ireturn dX11_itself_56 rfl hQ
      · rw [if_pos (show q1063.1 = 0 from g)] at h
        refine q_bipush dX11_itself_40 (by decide) rfl ?_
        cases h
        exact q_ireturn dX11_itself_42 rfl hQ
    · rw [if_neg (show ¬ (q1049.1 = 0) from g)] at h
      refine q_iconst dX11_itself_19 rfl rfl ?_
      cases h
      exact q_ireturn dX11_itself_20 rfl hQ
set_option maxRecDepth 20000 in
theorem C_away_ok {X : qX} (hL : ∀ c, c < 93 → c ∈ qLs X) (d : Nat) (a1 : Int) (S : qSto) (o : (Int × qSto)) (h : C_away a1 S = some o) (Q : Option qV → qSto → Prop) (hQ : Q (some (qi o.1)) o.2) : qC X (d + 3) yX11_away cX11_away 2 (some .boolean) [qr 0, qi a1] S Q := by
  refine q_entry (lv := [(0, qr 0), (1, qi a1)]) pn_X11 (Nat.le_of_ble_eq_true rfl) rfl ?_
  unfold C_away at h
  refine q_aload_n dX11_away_0 rfl rfl ?_
  refine q_iload_n dX11_away_1 rfl rfl ?_
  obtain ⟨q1069, h1070, h⟩ := Option.bind_eq_some_iff.mp h
  refine q_callVi (as := [qi a1]) (c := 0) dX11_away_2 ml_X11_216 rfl rfl (hL 0 (by decide)) sh_0 rfl rfl (Nat.le_of_ble_eq_true rfl) (C_isShip_ok hL (d + 2) a1 _ _ h1070) rfl ?_
  obtain ⟨c1071, h⟩ := qk_some h
  refine q_if_eq (tgt := 19) dX11_away_5 (by decide) rfl (qRb_R c1071)  (fun g => ?_) (fun g => ?_)
  · rw [if_pos (show q1069.1 = 0 from g)] at h
    refine q_iconst dX11_away_19 rfl rfl ?_
    cases h
    exact q_zreturn dX11_away_20 rfl (by decide) hQ
  · rw [if_neg (show ¬ (q1069.1 = 0) from g)] at h
    refine q_aload_n dX11_away_8 rfl rfl ?_
    refine q_getA dX11_away_9 fl_X11_49 (hL 0 (by decide)) sh_0 (by decide) rfl rfl ?_
    refine q_iload_n dX11_away_12 rfl rfl ?_
    obtain ⟨q1072, h1073, h⟩ := Option.bind_eq_some_iff.mp h
    refine q_callVi (as := [qi a1]) (c := 6) dX11_away_13 ml_X11_178 rfl rfl (hL 6 (by decide)) sh_6 rfl rfl (Nat.le_of_ble_eq_true rfl) (Stays_has_ok hL (d + 2) a1 _ _ h1073) rfl ?_
    obtain ⟨c1074, h⟩ := qk_some h
    refine q_if_ne (tgt := 21) dX11_away_16 (by decide) rfl (qRb_R c1074)  (fun g => ?_) (fun g => ?_)
    · rw [if_neg (show ¬ (q1072.1 = 0) from g)] at h
      refine q_aload_n dX11_away_21 rfl rfl ?_
      refine q_getA dX11_away_22 fl_X11_49 (hL 0 (by decide)) sh_0 (by decide) rfl rfl ?_
      refine q_aload_n dX11_away_25 rfl rfl ?_
      refine q_getA dX11_away_26 fl_X11_110 (hL 0 (by decide)) sh_0 (by decide) rfl rfl ?_
      obtain ⟨q1075, h1076, h⟩ := Option.bind_eq_some_iff.mp h
      refine q_callVv (as := [qr 14]) (c := 6) dX11_away_29 ml_X11_295 rfl rfl (hL 6 (by decide)) sh_6 rfl rfl (Nat.le_of_ble_eq_true rfl) (Stays_save_14_ok hL (d + 2) _ _ h1076) rfl ?_
      refine q_aload_n dX11_away_32 rfl rfl ?_
      refine q_getA dX11_away_33 fl_X11_49 (hL 0 (by decide)) sh_0 (by decide) rfl rfl ?_
      refine q_iload_n dX11_away_36 rfl rfl ?_
      obtain ⟨q1077, h1078, h⟩ := Option.bind_eq_some_iff.mp h
      refine q_callVv (as := [qi a1]) (c := 6) dX11_away_37 ml_X11_313 rfl rfl (hL 6 (by decide)) sh_6 rfl rfl (Nat.le_of_ble_eq_true rfl) (Stays_lift_ok hL d a1 _ _ h1078) rfl ?_
      refine q_aload_n dX11_away_40 rfl rfl ?_
      obtain ⟨q1079, h1080, h⟩ := Option.bind_eq_some_iff.mp h
      refine q_callVv (as := []) (c := 0) dX11_away_41 ml_X11_303 rfl rfl (hL 0 (by decide)) sh_0 rfl rfl (Nat.le_of_ble_eq_true rfl) (C_keepAct_ok hL (d + 1) _ _ h1080) rfl ?_
      refine q_iconst dX11_away_44 rfl rfl ?_
      cases h
      exact q_zreturn dX11_away_45 rfl (by decide) hQ
    · rw [if_pos (show q1072.1 = 0 from g)] at h
      refine q_iconst dX11_away_19 rfl rfl ?_
      cases h
      exact q_zreturn dX11_away_20 rfl (by decide) hQ
set_option maxRecDepth 20000 in
theorem Jm_minL_ok {X : qX} (hL : ∀ c, c < 93 → c ∈ qLs X) (d : Nat) (a0 : Int) (a2 : Int) (S : qSto) (o : (Int × qSto)) (h : Jm_minL a0 a2 S = some o) (Q : Option qV → qSto → Prop) (hQ : Q (some (ql o.1)) o.2) : qC X d yJ9_min_f86c9 cJ9_min_f86c9 4 (some .long) [ql a0, ql a2] S Q := by
  refine q_entryF (lv := [(0, ql a0), (2, ql a2)]) pn_J9_min_f86c9 (Nat.le_of_ble_eq_true rfl) rfl ?_
  unfold Jm_minL at h
  refine q_lload_n dJ9_min_f86c9_0 rfl rfl ?_
  refine q_lload_n dJ9_min_f86c9_1 rfl rfl ?_
  obtain ⟨c1091, h⟩ := qk_some h
  obtain ⟨c1092, h⟩ := qk_some h
  refine q_lcmp dJ9_min_f86c9_2 (qRLb_R c1091) (qRLb_R c1092) rfl ?_
  refine q_if_gt (tgt := 10) dJ9_min_f86c9_3 (by decide) rfl (q3_R _ _)  (fun g => ?_) (fun g => ?_)
  · rw [if_pos (show a2 < a0 from (q3_gt _ _).mp g)] at h
    refine q_lload_n dJ9_min_f86c9_10 rfl rfl ?_
    cases h
    exact q_lreturn dJ9_min_f86c9_11 rfl hQ
  · rw [if_neg (show ¬ (a2 < a0) from fun e => g ((q3_gt _ _).mpr e))] at h
    refine q_lload_n dJ9_min_f86c9_6 rfl rfl ?_
    refine q_goto (pc' := 11) dJ9_min_f86c9_7 (by decide) ?_
    cases h
    exact q_lreturn dJ9_min_f86c9_11 rfl hQ
set_option maxRecDepth 20000 in
theorem Jm_maxL_ok {X : qX} (hL : ∀ c, c < 93 → c ∈ qLs X) (d : Nat) (a0 : Int) (a2 : Int) (S : qSto) (o : (Int × qSto)) (h : Jm_maxL a0 a2 S = some o) (Q : Option qV → qSto → Prop) (hQ : Q (some (ql o.1)) o.2) : qC X d yJ9_max_f86c9 cJ9_max_f86c9 4 (some .long) [ql a0, ql a2] S Q := by
  refine q_entryF (lv := [(0, ql a0), (2, ql a2)]) pn_J9_max_f86c9 (Nat.le_of_ble_eq_true rfl) rfl ?_
  unfold Jm_maxL at h
  refine q_lload_n dJ9_max_f86c9_0 rfl rfl ?_
  refine q_lload_n dJ9_max_f86c9_1 rfl rfl ?_
  obtain ⟨c1095, h⟩ := qk_some h
  obtain ⟨c1096, h⟩ := qk_some h
  refine q_lcmp dJ9_max_f86c9_2 (qRLb_R c1095) (qRLb_R c1096) rfl ?_
  refine q_if_lt (tgt := 10) dJ9_max_f86c9_3 (by decide) rfl (q3_R _ _)  (fun g => ?_) (fun g => ?_)
  · rw [if_pos (show a0 < a2 from (q3_lt _ _).mp g)] at h
    refine q_lload_n dJ9_max_f86c9_10 rfl rfl ?_
    cases h
    exact q_lreturn dJ9_max_f86c9_11 rfl hQ
  · rw [if_neg (show ¬ (a0 < a2) from fun e => g ((q3_lt _ _).mpr e))] at h
    refine q_lload_n dJ9_max_f86c9_6 rfl rfl ?_
    refine q_goto (pc' := 11) dJ9_max_f86c9_7 (by decide) ?_
    cases h
    exact q_lreturn dJ9_max_f86c9_11 rfl hQ
set_option maxRecDepth 20000 in
theorem C_sum_ok {X : qX} (hL : ∀ c, c < 93 → c ∈ qLs X) (d : Nat) (a0 : Int) (a1 : Int) (S : qSto) (o : (Int × qSto)) (h : C_sum a0 a1 S = some o) (Q : Option qV → qSto → Prop) (hQ : Q (some (qi o.1)) o.2) : qC X (d + 1) yX11_sum cX11_sum 4 (some .int) [qi a0, qi a1] S Q := by
  refine q_entry (lv := [(0, qi a0), (1, qi a1)]) pn_X11 (Nat.le_of_ble_eq_true rfl) rfl ?_
  unfold C_sum at h
  refine q_iload_n dX11_sum_0 rfl rfl ?_
  obtain ⟨c1089, h⟩ := qk_some h
  refine q_i2l dX11_sum_1 (qRb_R c1089) rfl ?_
  refine q_iload_n dX11_sum_2 rfl rfl ?_
  obtain ⟨c1090, h⟩ := qk_some h
  refine q_i2l dX11_sum_3 (qRb_R c1090) rfl ?_
  refine q_ladd dX11_sum_4 rfl ?_
  refine q_lstore_n (lv' := [(2, ql (a0 + a1)), (0, qi a0), (1, qi a1)]) dX11_sum_5 (by decide) rfl rfl ?_
  refine q_ldc2 (v := (-100000)) dX11_sum_6 qw_1101 rfl ?_
  refine q_ldc2 (v := 100000) dX11_sum_9 qw_1102 rfl ?_
  refine q_lload_n dX11_sum_12 rfl rfl ?_
  obtain ⟨q1093, h1094, h⟩ := Option.bind_eq_some_iff.mp h
  refine q_callSl (as := [ql 100000, ql (a0 + a1)]) dX11_sum_13 ml_X11_323 rfl rfl (Nat.le_of_ble_eq_true rfl) (Jm_minL_ok hL d 100000 (a0 + a1) _ _ h1094) rfl ?_
  obtain ⟨q1097, h1098, h⟩ := Option.bind_eq_some_iff.mp h
  refine q_callSl (as := [ql (-100000), ql q1093.1]) dX11_sum_16 ml_X11_329 rfl rfl (Nat.le_of_ble_eq_true rfl) (Jm_maxL_ok hL d (-100000) q1093.1 _ _ h1098) rfl ?_
  refine q_l2i dX11_sum_19 rfl ?_
  cases h
  exact q_ireturn dX11_sum_20 rfl hQ
set_option maxRecDepth 20000 in
theorem C_move_ok {X : qX} (hL : ∀ c, c < 93 → c ∈ qLs X) (d : Nat) (a1 : Int) (a2 : Int) (a3 : Int) (S : qSto) (o : (Int × qSto)) (h : C_move a1 a2 a3 S = some o) (Q : Option qV → qSto → Prop) (hQ : Q (some (qi o.1)) o.2) : qC X (d + 5) yX11_move cX11_move 8 (some .int) [qr 0, qi a1, qi a2, qi a3] S Q := by
  refine q_entry (lv := [(0, qr 0), (1, qi a1), (2, qi a2), (3, qi a3)]) pn_X11 (Nat.le_of_ble_eq_true rfl) rfl ?_
  unfold C_move at h
  refine q_aload_n dX11_move_0 rfl rfl ?_
  refine q_iload_n dX11_move_1 rfl rfl ?_
  obtain ⟨q1081, h1082, h⟩ := Option.bind_eq_some_iff.mp h
  refine q_callVi (as := [qi a1]) (c := 0) dX11_move_2 ml_X11_216 rfl rfl (hL 0 (by decide)) sh_0 rfl rfl (Nat.le_of_ble_eq_true rfl) (C_isShip_ok hL (d + 4) a1 _ _ h1082) rfl ?_
  obtain ⟨c1083, h⟩ := qk_some h
  refine q_if_eq (tgt := 27) dX11_move_5 (by decide) rfl (qRb_R c1083)  (fun g => ?_) (fun g => ?_)
  · rw [if_pos (show q1081.1 = 0 from g)] at h
    refine q_iconst dX11_move_27 rfl rfl ?_
    cases h
    exact q_ireturn dX11_move_28 rfl hQ
  · rw [if_neg (show ¬ (q1081.1 = 0) from g)] at h
    refine q_aload_n dX11_move_8 rfl rfl ?_
    refine q_getA dX11_move_9 fl_X11_49 (hL 0 (by decide)) sh_0 (by decide) rfl rfl ?_
    refine q_iload_n dX11_move_12 rfl rfl ?_
    obtain ⟨q1084, h1085, h⟩ := Option.bind_eq_some_iff.mp h
    refine q_callVi (as := [qi a1]) (c := 6) dX11_move_13 ml_X11_178 rfl rfl (hL 6 (by decide)) sh_6 rfl rfl (Nat.le_of_ble_eq_true rfl) (Stays_has_ok hL (d + 4) a1 _ _ h1085) rfl ?_
    obtain ⟨c1086, h⟩ := qk_some h
    refine q_if_eq (tgt := 27) dX11_move_16 (by decide) rfl (qRb_R c1086)  (fun g => ?_) (fun g => ?_)
    · rw [if_pos (show q1084.1 = 0 from g)] at h
      refine q_iconst dX11_move_27 rfl rfl ?_
      cases h
      exact q_ireturn dX11_move_28 rfl hQ
    · rw [if_neg (show ¬ (q1084.1 = 0) from g)] at h
      refine q_iload_n dX11_move_19 rfl rfl ?_
      obtain ⟨c1087, h⟩ := qk_some h
      refine q_if_ne (tgt := 29) dX11_move_20 (by decide) rfl (qRb_R c1087)  (fun g => ?_) (fun g => ?_)
      · rw [if_neg (show ¬ (a2 = 0) from g)] at h
        refine q_aload_n dX11_move_29 rfl rfl ?_
        refine q_getA dX11_move_30 fl_X11_49 (hL 0 (by decide)) sh_0 (by decide) rfl rfl ?_
        refine q_getA dX11_move_33 fl_X11_225 (hL 6 (by decide)) sh_6 (by decide) rfl rfl ?_
        refine q_iload_n dX11_move_36 rfl rfl ?_
        obtain ⟨c1088, h⟩ := qk_some h
        refine q_iaload dX11_move_37 (hL 37 (by decide)) sh_37 (qIx_0 c1088) (qIx_1 c1088) rfl ?_
        refine q_iload_n dX11_move_38 rfl rfl ?_
        obtain ⟨q1099, h1100, h⟩ := Option.bind_eq_some_iff.mp h
        refine q_callSi (as := [qi (q1084.2 37 (Int.toNat a1)), qi a2]) dX11_move_39 ml_X11_316 rfl rfl (Nat.le_of_ble_eq_true rfl) (C_sum_ok hL (d + 3) (q1084.2 37 (Int.toNat a1)) a2 _ _ h1100) rfl ?_
        refine q_istore (lv' := [(4, qi q1099.1), (0, qr 0), (1, qi a1), (2, qi a2), (3, qi a3)]) dX11_move_42 (by decide) rfl rfl ?_
        refine q_aload_n dX11_move_44 rfl rfl ?_
        refine q_getA dX11_move_45 fl_X11_49 (hL 0 (by decide)) sh_0 (by decide) rfl rfl ?_
        refine q_getA dX11_move_48 fl_X11_228 (hL 6 (by decide)) sh_6 (by decide) rfl rfl ?_
        refine q_iload_n dX11_move_51 rfl rfl ?_
        obtain ⟨c1101, h⟩ := qk_some h
        refine q_iaload dX11_move_52 (hL 39 (by decide)) sh_39 (qIx_0 c1101) (qIx_1 c1101) rfl ?_
        refine q_iload_n dX11_move_53 rfl rfl ?_
        obtain ⟨q1102, h1103, h⟩ := Option.bind_eq_some_iff.mp h
        refine q_callSi (as := [qi (q1099.2 39 (Int.toNat a1)), qi a3]) dX11_move_54 ml_X11_316 rfl rfl (Nat.le_of_ble_eq_true rfl) (C_sum_ok hL (d + 3) (q1099.2 39 (Int.toNat a1)) a3 _ _ h1103) rfl ?_
        refine q_istore (lv' := [(5, qi q1102.1), (4, qi q1099.1), (0, qr 0), (1, qi a1), (2, qi a2), (3, qi a3)]) dX11_move_57 (by decide) rfl rfl ?_
        refine q_aload_n dX11_move_59 rfl rfl ?_
        refine q_getA dX11_move_60 fl_X11_49 (hL 0 (by decide)) sh_0 (by decide) rfl rfl ?_
        refine q_getA dX11_move_63 fl_X11_231 (hL 6 (by decide)) sh_6 (by decide) rfl rfl ?_
        refine q_iload_n dX11_move_66 rfl rfl ?_
        obtain ⟨c1104, h⟩ := qk_some h
        refine q_iaload dX11_move_67 (hL 40 (by decide)) sh_40 (qIx_0 c1104) (qIx_1 c1104) rfl ?_
        refine q_istore (lv' := [(6, qi (q1102.2 40 (Int.toNat a1))), (5, qi q1102.1), (4, qi q1099.1), (0, qr 0), (1, qi a1), (2, qi a2), (3, qi a3)]) dX11_move_68 (by decide) rfl rfl ?_
        refine q_aload_n dX11_move_70 rfl rfl ?_
        refine q_getA dX11_move_71 fl_X11_49 (hL 0 (by decide)) sh_0 (by decide) rfl rfl ?_
        refine q_aload_n dX11_move_74 rfl rfl ?_
        refine q_getA dX11_move_75 fl_X11_110 (hL 0 (by decide)) sh_0 (by decide) rfl rfl ?_
        obtain ⟨q1105, h1106, h⟩ := Option.bind_eq_some_iff.mp h
        refine q_callVv (as := [qr 14]) (c := 6) dX11_move_78 ml_X11_295 rfl rfl (hL 6 (by decide)) sh_6 rfl rfl (Nat.le_of_ble_eq_true rfl) (Stays_save_14_ok hL (d + 4) _ _ h1106) rfl ?_
        refine q_aload_n dX11_move_81 rfl rfl ?_
        refine q_getA dX11_move_82 fl_X11_49 (hL 0 (by decide)) sh_0 (by decide) rfl rfl ?_
        refine q_iload_n dX11_move_85 rfl rfl ?_
        obtain ⟨q1107, h1108, h⟩ := Option.bind_eq_some_iff.mp h
        refine q_callVv (as := [qi a1]) (c := 6) dX11_move_86 ml_X11_260 rfl rfl (hL 6 (by decide)) sh_6 rfl rfl (Nat.le_of_ble_eq_true rfl) (Stays_takeUp_ok hL (d + 1) a1 _ _ h1108) rfl ?_
        refine q_aload_n dX11_move_89 rfl rfl ?_
        refine q_getA dX11_move_90 fl_X11_67 (hL 0 (by decide)) sh_0 (by decide) rfl rfl ?_
        refine q_iload_n dX11_move_93 rfl rfl ?_
        refine q_iload dX11_move_94 rfl rfl ?_
        refine q_iload dX11_move_96 rfl rfl ?_
        refine q_iload dX11_move_98 rfl rfl ?_
        obtain ⟨q1109, h1110, h⟩ := Option.bind_eq_some_iff.mp h
        refine q_callVi (as := [qi a1, qi q1099.1, qi q1102.1, qi (q1102.2 40 (Int.toNat a1))]) (c := 8) dX11_move_100 ml_X11_263 rfl rfl (hL 8 (by decide)) sh_8 rfl rfl (Nat.le_of_ble_eq_true rfl) (Laws_firstBroken_ok hL d a1 q1099.1 q1102.1 (q1102.2 40 (Int.toNat a1)) _ _ h1110) rfl ?_
        refine q_istore (lv' := [(7, qi q1109.1), (6, qi (q1102.2 40 (Int.toNat a1))), (5, qi q1102.1), (4, qi q1099.1), (0, qr 0), (1, qi a1), (2, qi a2), (3, qi a3)]) dX11_move_103 (by decide) rfl rfl ?_
        refine q_iload dX11_move_105 rfl rfl ?_
        obtain ⟨c1111, h⟩ := qk_some h
        refine q_if_eq (tgt := 124) dX11_move_107 (by decide) rfl (qRb_R c1111)  (fun g => ?_) (fun g => ?_)
        · rw [if_pos (show q1109.1 = 0 from g)] at h
          refine q_aload_n dX11_move_124 rfl rfl ?_
          refine q_getA dX11_move_125 fl_X11_49 (hL 0 (by decide)) sh_0 (by decide) rfl rfl ?_
          refine q_iload_n dX11_move_128 rfl rfl ?_
          refine q_iload dX11_move_129 rfl rfl ?_
          refine q_iload dX11_move_131 rfl rfl ?_
          refine q_iload dX11_move_133 rfl rfl ?_
          obtain ⟨q1112, h1113, h⟩ := Option.bind_eq_some_iff.mp h
          refine q_callVv (as := [qi a1, qi q1099.1, qi q1102.1, qi (q1102.2 40 (Int.toNat a1))]) (c := 6) dX11_move_135 ml_X11_299 rfl rfl (hL 6 (by decide)) sh_6 rfl rfl (Nat.le_of_ble_eq_true rfl) (Stays_lay_ok hL (d + 1) a1 q1099.1 q1102.1 (q1102.2 40 (Int.toNat a1)) _ _ h1113) rfl ?_
          refine q_aload_n dX11_move_138 rfl rfl ?_
          obtain ⟨q1114, h1115, h⟩ := Option.bind_eq_some_iff.mp h
          refine q_callVv (as := []) (c := 0) dX11_move_139 ml_X11_303 rfl rfl (hL 0 (by decide)) sh_0 rfl rfl (Nat.le_of_ble_eq_true rfl) (C_keepAct_ok hL (d + 3) _ _ h1115) rfl ?_
          refine q_aload_n dX11_move_142 rfl rfl ?_
          refine q_getA dX11_move_143 fl_X11_49 (hL 0 (by decide)) sh_0 (by decide) rfl rfl ?_
          refine q_getA dX11_move_146 fl_X11_236 (hL 6 (by decide)) sh_6 (by decide) rfl rfl ?_
          refine q_iload_n dX11_move_149 rfl rfl ?_
          obtain ⟨c1116, h⟩ := qk_some h
          refine q_iaload dX11_move_150 (hL 42 (by decide)) sh_42 (qIx_0 c1116) (qIx_1 c1116) rfl ?_
          cases h
          exact q_ireturn dX11_move_151 rfl hQ
        · rw [if_neg (show ¬ (q1109.1 = 0) from g)] at h
          refine q_aload_n dX11_move_110 rfl rfl ?_
          refine q_getA dX11_move_111 fl_X11_49 (hL 0 (by decide)) sh_0 (by decide) rfl rfl ?_
          refine q_iload_n dX11_move_114 rfl rfl ?_
          obtain ⟨q1117, h1118, h⟩ := Option.bind_eq_some_iff.mp h
          refine q_callVv (as := [qi a1]) (c := 6) dX11_move_115 ml_X11_267 rfl rfl (hL 6 (by decide)) sh_6 rfl rfl (Nat.le_of_ble_eq_true rfl) (Stays_layBack_ok hL d a1 _ _ h1118) rfl ?_
          refine q_iload dX11_move_118 rfl rfl ?_
          obtain ⟨q1119, h1120, h⟩ := Option.bind_eq_some_iff.mp h
          refine q_callSi (as := [qi q1109.1]) dX11_move_120 ml_X11_292 rfl rfl (Nat.le_of_ble_eq_true rfl) (C_refusal_ok hL (d + 4) q1109.1 _ _ h1120) rfl ?_
          cases h
          exact q_ireturn dX11_move_123 rfl hQ
      · rw [if_pos (show a2 = 0 from g)] at h
        refine q_iload_n dX11_move_23 rfl rfl ?_
        obtain ⟨c1121, h⟩ := qk_some h
        refine q_if_ne (tgt := 29) dX11_move_24 (by decide) rfl (qRb_R c1121)  (fun g => ?_) (fun g => ?_)
        · rw [if_neg (show ¬ (a3 = 0) from g)] at h
          refine q_aload_n dX11_move_29 rfl rfl ?_
          refine q_getA dX11_move_30 fl_X11_49 (hL 0 (by decide)) sh_0 (by decide) rfl rfl ?_
          refine q_getA dX11_move_33 fl_X11_225 (hL 6 (by decide)) sh_6 (by decide) rfl rfl ?_
          refine q_iload_n dX11_move_36 rfl rfl ?_
          obtain ⟨c1122, h⟩ := qk_some h
          refine q_iaload dX11_move_37 (hL 37 (by decide)) sh_37 (qIx_0 c1122) (qIx_1 c1122) rfl ?_
          refine q_iload_n dX11_move_38 rfl rfl ?_
          obtain ⟨q1123, h1124, h⟩ := Option.bind_eq_some_iff.mp h
          refine q_callSi (as := [qi (q1084.2 37 (Int.toNat a1)), qi a2]) dX11_move_39 ml_X11_316 rfl rfl (Nat.le_of_ble_eq_true rfl) (C_sum_ok hL (d + 3) (q1084.2 37 (Int.toNat a1)) a2 _ _ h1124) rfl ?_
          refine q_istore (lv' := [(4, qi q1123.1), (0, qr 0), (1, qi a1), (2, qi a2), (3, qi a3)]) dX11_move_42 (by decide) rfl rfl ?_
          refine q_aload_n dX11_move_44 rfl rfl ?_
          refine q_getA dX11_move_45 fl_X11_49 (hL 0 (by decide)) sh_0 (by decide) rfl rfl ?_
          refine q_getA dX11_move_48 fl_X11_228 (hL 6 (by decide)) sh_6 (by decide) rfl rfl ?_
          refine q_iload_n dX11_move_51 rfl rfl ?_
          obtain ⟨c1125, h⟩ := qk_some h
          refine q_iaload dX11_move_52 (hL 39 (by decide)) sh_39 (qIx_0 c1125) (qIx_1 c1125) rfl ?_
          refine q_iload_n dX11_move_53 rfl rfl ?_
          obtain ⟨q1126, h1127, h⟩ := Option.bind_eq_some_iff.mp h
          refine q_callSi (as := [qi (q1123.2 39 (Int.toNat a1)), qi a3]) dX11_move_54 ml_X11_316 rfl rfl (Nat.le_of_ble_eq_true rfl) (C_sum_ok hL (d + 3) (q1123.2 39 (Int.toNat a1)) a3 _ _ h1127) rfl ?_
          refine q_istore (lv' := [(5, qi q1126.1), (4, qi q1123.1), (0, qr 0), (1, qi a1), (2, qi a2), (3, qi a3)]) dX11_move_57 (by decide) rfl rfl ?_
          refine q_aload_n dX11_move_59 rfl rfl ?_
          refine q_getA dX11_move_60 fl_X11_49 (hL 0 (by decide)) sh_0 (by decide) rfl rfl ?_
          refine q_getA dX11_move_63 fl_X11_231 (hL 6 (by decide)) sh_6 (by decide) rfl rfl ?_
          refine q_iload_n dX11_move_66 rfl rfl ?_
          obtain ⟨c1128, h⟩ := qk_some h
          refine q_iaload dX11_move_67 (hL 40 (by decide)) sh_40 (qIx_0 c1128) (qIx_1 c1128) rfl ?_
          refine q_istore (lv' := [(6, qi (q1126.2 40 (Int.toNat a1))), (5, qi q1126.1), (4, qi q1123.1), (0, qr 0), (1, qi a1), (2, qi a2), (3, qi a3)]) dX11_move_68 (by decide) rfl rfl ?_
          refine q_aload_n dX11_move_70 rfl rfl ?_
          refine q_getA dX11_move_71 fl_X11_49 (hL 0 (by decide)) sh_0 (by decide) rfl rfl ?_
          refine q_aload_n dX11_move_74 rfl rfl ?_
          refine q_getA dX11_move_75 fl_X11_110 (hL 0 (by decide)) sh_0 (by decide) rfl rfl ?_
          obtain ⟨q1129, h1130, h⟩ := Option.bind_eq_some_iff.mp h
          refine q_callVv (as := [qr 14]) (c := 6) dX11_move_78 ml_X11_295 rfl rfl (hL 6 (by decide)) sh_6 rfl rfl (Nat.le_of_ble_eq_true rfl) (Stays_save_14_ok hL (d + 4) _ _ h1130) rfl ?_
          refine q_aload_n dX11_move_81 rfl rfl ?_
          refine q_getA dX11_move_82 fl_X11_49 (hL 0 (by decide)) sh_0 (by decide) rfl rfl ?_
          refine q_iload_n dX11_move_85 rfl rfl ?_
          obtain ⟨q1131, h1132, h⟩ := Option.bind_eq_some_iff.mp h
          refine q_callVv (as := [qi a1]) (c := 6) dX11_move_86 ml_X11_260 rfl rfl (hL 6 (by decide)) sh_6 rfl rfl (Nat.le_of_ble_eq_true rfl) (Stays_takeUp_ok hL (d + 1) a1 _ _ h1132) rfl ?_
          refine q_aload_n dX11_move_89 rfl rfl ?_
          refine q_getA dX11_move_90 fl_X11_67 (hL 0 (by decide)) sh_0 (by decide) rfl rfl ?_
          refine q_iload_n dX11_move_93 rfl rfl ?_
          refine q_iload dX11_move_94 rfl rfl ?_
          refine q_iload dX11_move_96 rfl rfl ?_
          refine q_iload dX11_move_98 rfl rfl ?_
          obtain ⟨q1133, h1134, h⟩ := Option.bind_eq_some_iff.mp h
          refine q_callVi (as := [qi a1, qi q1123.1, qi q1126.1, qi (q1126.2 40 (Int.toNat a1))]) (c := 8) dX11_move_100 ml_X11_263 rfl rfl (hL 8 (by decide)) sh_8 rfl rfl (Nat.le_of_ble_eq_true rfl) (Laws_firstBroken_ok hL d a1 q1123.1 q1126.1 (q1126.2 40 (Int.toNat a1)) _ _ h1134) rfl ?_
          refine q_istore (lv' := [(7, qi q1133.1), (6, qi (q1126.2 40 (Int.toNat a1))), (5, qi q1126.1), (4, qi q1123.1), (0, qr 0), (1, qi a1), (2, qi a2), (3, qi a3)]) dX11_move_103 (by decide) rfl rfl ?_
          refine q_iload dX11_move_105 rfl rfl ?_
          obtain ⟨c1135, h⟩ := qk_some h
          refine q_if_eq (tgt := 124) dX11_move_107 (by decide) rfl (qRb_R c1135)  (fun g => ?_) (fun g => ?_)
          · rw [if_pos (show q1133.1 = 0 from g)] at h
            refine q_aload_n dX11_move_124 rfl rfl ?_
            refine q_getA dX11_move_125 fl_X11_49 (hL 0 (by decide)) sh_0 (by decide) rfl rfl ?_
            refine q_iload_n dX11_move_128 rfl rfl ?_
            refine q_iload dX11_move_129 rfl rfl ?_
            refine q_iload dX11_move_131 rfl rfl ?_
            refine q_iload dX11_move_133 rfl rfl ?_
            obtain ⟨q1136, h1137, h⟩ := Option.bind_eq_some_iff.mp h
            refine q_callVv (as := [qi a1, qi q1123.1, qi q1126.1, qi (q1126.2 40 (Int.toNat a1))]) (c := 6) dX11_move_135 ml_X11_299 rfl rfl (hL 6 (by decide)) sh_6 rfl rfl (Nat.le_of_ble_eq_true rfl) (Stays_lay_ok hL (d + 1) a1 q1123.1 q1126.1 (q1126.2 40 (Int.toNat a1)) _ _ h1137) rfl ?_
            refine q_aload_n dX11_move_138 rfl rfl ?_
            obtain ⟨q1138, h1139, h⟩ := Option.bind_eq_some_iff.mp h
            refine q_callVv (as := []) (c := 0) dX11_move_139 ml_X11_303 rfl rfl (hL 0 (by decide)) sh_0 rfl rfl (Nat.le_of_ble_eq_true rfl) (C_keepAct_ok hL (d + 3) _ _ h1139) rfl ?_
            refine q_aload_n dX11_move_142 rfl rfl ?_
            refine q_getA dX11_move_143 fl_X11_49 (hL 0 (by decide)) sh_0 (by decide) rfl rfl ?_
            refine q_getA dX11_move_146 fl_X11_236 (hL 6 (by decide)) sh_6 (by decide) rfl rfl ?_
            refine q_iload_n dX11_move_149 rfl rfl ?_
            obtain ⟨c1140, h⟩ := qk_some h
            refine q_iaload dX11_move_150 (hL 42 (by decide)) sh_42 (qIx_0 c1140) (qIx_1 c1140) rfl ?_
            cases h
            exact q_ireturn dX11_move_151 rfl hQ
          · rw [if_neg (show ¬ (q1133.1 = 0) from g)] at h
            refine q_aload_n dX11_move_110 rfl rfl ?_
            refine q_getA dX11_move_111 fl_X11_49 (hL 0 (by decide)) sh_0 (by decide) rfl rfl ?_
            refine q_iload_n dX11_move_114 rfl rfl ?_
            obtain ⟨q1141, h1142, h⟩ := Option.bind_eq_some_iff.mp h
            refine q_callVv (as := [qi a1]) (c := 6) dX11_move_115 ml_X11_267 rfl rfl (hL 6 (by decide)) sh_6 rfl rfl (Nat.le_of_ble_eq_true rfl) (Stays_layBack_ok hL d a1 _ _ h1142) rfl ?_
            refine q_iload dX11_move_118 rfl rfl ?_
            obtain ⟨q1143, h1144, h⟩ := Option.bind_eq_some_iff.mp h
            refine q_callSi (as := [qi q1133.1]) dX11_move_120 ml_X11_292 rfl rfl (Nat.le_of_ble_eq_true rfl) (C_refusal_ok hL (d + 4) q1133.1 _ _ h1144) rfl ?_
            cases h
            exact q_ireturn dX11_move_123 rfl hQ
        · rw [if_pos (show a3 = 0 from g)] at h
          refine q_iconst dX11_move_27 rfl rfl ?_
          cases h
          exact q_ireturn dX11_move_28 rfl hQ
set_option maxRecDepth 20000 in
theorem C_layLawful_ok {X : qX} (hL : ∀ c, c < 93 → c ∈ qLs X) (d : Nat) (a1 : Int) (a2 : Int) (a3 : Int) (a4 : Int) (S : qSto) (o : (Int × qSto)) (h : C_layLawful a1 a2 a3 a4 S = some o) (Q : Option qV → qSto → Prop) (hQ : Q (some (qi o.1)) o.2) : qC X (d + 5) yX11_layLawful cX11_layLawful 6 (some .int) [qr 0, qi a1, qi a2, qi a3, qi a4] S Q := by
  refine q_entry (lv := [(0, qr 0), (1, qi a1), (2, qi a2), (3, qi a3), (4, qi a4)]) pn_X11 (Nat.le_of_ble_eq_true rfl) rfl ?_
  unfold C_layLawful at h
  refine q_aload_n dX11_layLawful_0 rfl rfl ?_
  refine q_getA dX11_layLawful_1 fl_X11_67 (hL 0 (by decide)) sh_0 (by decide) rfl rfl ?_
  refine q_iload_n dX11_layLawful_4 rfl rfl ?_
  refine q_iload_n dX11_layLawful_5 rfl rfl ?_
  refine q_iload_n dX11_layLawful_6 rfl rfl ?_
  refine q_iload dX11_layLawful_7 rfl rfl ?_
  obtain ⟨q1171, h1172, h⟩ := Option.bind_eq_some_iff.mp h
  refine q_callVi (as := [qi a1, qi a2, qi a3, qi a4]) (c := 8) dX11_layLawful_9 ml_X11_263 rfl rfl (hL 8 (by decide)) sh_8 rfl rfl (Nat.le_of_ble_eq_true rfl) (Laws_firstBroken_ok hL d a1 a2 a3 a4 _ _ h1172) rfl ?_
  refine q_istore (lv' := [(5, qi q1171.1), (0, qr 0), (1, qi a1), (2, qi a2), (3, qi a3), (4, qi a4)]) dX11_layLawful_12 (by decide) rfl rfl ?_
  refine q_iload dX11_layLawful_14 rfl rfl ?_
  obtain ⟨c1173, h⟩ := qk_some h
  refine q_if_ne (tgt := 31) dX11_layLawful_16 (by decide) rfl (qRb_R c1173)  (fun g => ?_) (fun g => ?_)
  · rw [if_neg (show ¬ (q1171.1 = 0) from g)] at h
    refine q_iload dX11_layLawful_31 rfl rfl ?_
    cases h
    exact q_ireturn dX11_layLawful_33 rfl hQ
  · rw [if_pos (show q1171.1 = 0 from g)] at h
    refine q_aload_n dX11_layLawful_19 rfl rfl ?_
    refine q_getA dX11_layLawful_20 fl_X11_49 (hL 0 (by decide)) sh_0 (by decide) rfl rfl ?_
    refine q_iload_n dX11_layLawful_23 rfl rfl ?_
    refine q_iload_n dX11_layLawful_24 rfl rfl ?_
    refine q_iload_n dX11_layLawful_25 rfl rfl ?_
    refine q_iload dX11_layLawful_26 rfl rfl ?_
    obtain ⟨q1174, h1175, h⟩ := Option.bind_eq_some_iff.mp h
    refine q_callVv (as := [qi a1, qi a2, qi a3, qi a4]) (c := 6) dX11_layLawful_28 ml_X11_299 rfl rfl (hL 6 (by decide)) sh_6 rfl rfl (Nat.le_of_ble_eq_true rfl) (Stays_lay_ok hL (d + 1) a1 a2 a3 a4 _ _ h1175) rfl ?_
    refine q_iload dX11_layLawful_31 rfl rfl ?_
    cases h
    exact q_ireturn dX11_layLawful_33 rfl hQ
set_option maxRecDepth 20000 in
theorem Stays_load_14_L6_ok {X : qX} (hL : ∀ c, c < 93 → c ∈ qLs X) (d : Nat) {Q : Option qV → qSto → Prop} : ∀ (n : Nat) (x2 : Int) (S : qSto) (o : qSto), Stays_load_14_L6 n x2 S = some o → (qW X (d + 4) yX7_load cX7_load 3 none 57 [] [] o Q) → qW X (d + 4) yX7_load cX7_load 3 none 6 [(0, qr 6), (1, qr 14), (2, qi x2)] [] S Q := by
  intro n
  induction n with
  | zero =>
    intro x2 S o h
    simp [Stays_load_14_L6] at h
  | succ n ih =>
    intro x2 S o h hE
    rw [Stays_load_14_L6] at h
    refine q_iload_n dX7_load_6 rfl rfl ?_
    refine q_aload_n dX7_load_7 rfl rfl ?_
    refine q_getA dX7_load_8 fl_X7_36 (hL 6 (by decide)) sh_6 (by decide) rfl rfl ?_
    refine q_getI dX7_load_11 fl_X7_44 (hL 2 (by decide)) sh_2 (by decide) rfl rfl ?_
    obtain ⟨c1188, h⟩ := qk_some h
    obtain ⟨c1189, h⟩ := qk_some h
    refine q_icmp_ge (tgt := 57) dX7_load_14 (by decide) rfl (qRb_R c1188) (qRb_R c1189) (fun g => ?_) (fun g => ?_)
    · rw [if_pos (show (S 2 12) ≤ x2 from g)] at h
      cases h
      exact q_pick [] rfl (hE)
    · rw [if_neg (show ¬ ((S 2 12) ≤ x2) from g)] at h
      refine q_aload_n dX7_load_17 rfl rfl ?_
      refine q_iload_n dX7_load_18 rfl rfl ?_
      refine q_iconst dX7_load_19 rfl rfl ?_
      refine q_imul dX7_load_20 rfl ?_
      refine q_iconst dX7_load_21 rfl rfl ?_
      refine q_iadd dX7_load_22 rfl ?_
      obtain ⟨c1190, h⟩ := qk_some h
      refine q_iaload dX7_load_23 (hL 14 (by decide)) sh_14 (qIx_0 c1190) (qIx_1 c1190) rfl ?_
      refine q_jn (G := fun (t1197 : qSto) => qW X (d + 4) yX7_load cX7_load 3 none 51 [(0, qr 6), (1, qr 14), (2, qi x2)] [] t1197 Q) h (fun t1197 h => ?_) (fun t1197 h hk4122 => ?_)
      · try dsimp only at h
        refine q_iinc (lv' := [(2, qi (x2 + 1)), (0, qr 6), (1, qr 14)]) dX7_load_51 (by decide) rfl rfl rfl ?_
        refine q_goto (pc' := 6) dX7_load_54 (by decide) ?_
        exact q_pick [1, 2, 0] rfl (ih (x2 + 1) _ _ h hE)
      · skip
        obtain ⟨c1191, h⟩ := qk_some h
        refine q_if_le (tgt := 51) dX7_load_24 (by decide) rfl (qRb_R c1191)  (fun g => ?_) (fun g => ?_)
        · rw [if_pos (show (S 14 (Int.toNat ((x2 * 3) + 2))) ≤ 0 from g)] at h
          cases h
          exact q_pick [0, 1, 2] rfl hk4122
        · rw [if_neg (show ¬ ((S 14 (Int.toNat ((x2 * 3) + 2))) ≤ 0) from g)] at h
          refine q_aload_n dX7_load_27 rfl rfl ?_
          refine q_iload_n dX7_load_28 rfl rfl ?_
          refine q_aload_n dX7_load_29 rfl rfl ?_
          refine q_iload_n dX7_load_30 rfl rfl ?_
          refine q_iconst dX7_load_31 rfl rfl ?_
          refine q_imul dX7_load_32 rfl ?_
          obtain ⟨c1192, h⟩ := qk_some h
          refine q_iaload dX7_load_33 (hL 14 (by decide)) sh_14 (qIx_0 c1192) (qIx_1 c1192) rfl ?_
          refine q_aload_n dX7_load_34 rfl rfl ?_
          refine q_iload_n dX7_load_35 rfl rfl ?_
          refine q_iconst dX7_load_36 rfl rfl ?_
          refine q_imul dX7_load_37 rfl ?_
          refine q_iconst dX7_load_38 rfl rfl ?_
          refine q_iadd dX7_load_39 rfl ?_
          obtain ⟨c1193, h⟩ := qk_some h
          refine q_iaload dX7_load_40 (hL 14 (by decide)) sh_14 (qIx_0 c1193) (qIx_1 c1193) rfl ?_
          refine q_aload_n dX7_load_41 rfl rfl ?_
          refine q_iload_n dX7_load_42 rfl rfl ?_
          refine q_iconst dX7_load_43 rfl rfl ?_
          refine q_imul dX7_load_44 rfl ?_
          refine q_iconst dX7_load_45 rfl rfl ?_
          refine q_iadd dX7_load_46 rfl ?_
          obtain ⟨c1194, h⟩ := qk_some h
          refine q_iaload dX7_load_47 (hL 14 (by decide)) sh_14 (qIx_0 c1194) (qIx_1 c1194) rfl ?_
          obtain ⟨q1195, h1196, h⟩ := Option.bind_eq_some_iff.mp h
          refine q_callVv (as := [qi x2, qi (S 14 (Int.toNat (x2 * 3))), qi (S 14 (Int.toNat ((x2 * 3) + 1))), qi (S 14 (Int.toNat ((x2 * 3) + 2)))]) (c := 6) dX7_load_48 ml_X7_92 rfl rfl (hL 6 (by decide)) sh_6 rfl rfl (Nat.le_of_ble_eq_true rfl) (Stays_lay_ok hL d x2 (S 14 (Int.toNat (x2 * 3))) (S 14 (Int.toNat ((x2 * 3) + 1))) (S 14 (Int.toNat ((x2 * 3) + 2))) _ _ h1196) rfl ?_
          cases h
          exact q_pick [0, 1, 2] rfl hk4122
set_option maxRecDepth 20000 in
theorem Stays_load_14_ok {X : qX} (hL : ∀ c, c < 93 → c ∈ qLs X) (d : Nat) (S : qSto) (o : qSto) (h : Stays_load_14 S = some o) (Q : Option qV → qSto → Prop) (hQ : Q none o) : qC X (d + 4) yX7_load cX7_load 3 none [qr 6, qr 14] S Q := by
  refine q_entry (lv := [(0, qr 6), (1, qr 14)]) pn_X7 (Nat.le_of_ble_eq_true rfl) rfl ?_
  unfold Stays_load_14 at h
  refine q_aload_n dX7_load_0 rfl rfl ?_
  obtain ⟨q1186, h1187, h⟩ := Option.bind_eq_some_iff.mp h
  refine q_callVv (as := []) (c := 6) dX7_load_1 ml_X7_102 rfl rfl (hL 6 (by decide)) sh_6 rfl rfl (Nat.le_of_ble_eq_true rfl) (Stays_clear_ok hL (d + 2) _ _ h1187) rfl ?_
  refine q_iconst dX7_load_4 rfl rfl ?_
  refine q_istore_n (lv' := [(2, qi 0), (0, qr 6), (1, qr 14)]) dX7_load_5 (by decide) rfl rfl ?_
  obtain ⟨q1198, h1199, h⟩ := Option.bind_eq_some_iff.mp h
  refine q_pick [1, 2, 0] rfl (Stays_load_14_L6_ok hL d qF 0 _ _ h1199 ?_)
  cases h
  exact q_return dX7_load_57 rfl hQ
set_option maxRecDepth 20000 in
theorem C_swap_ok {X : qX} (hL : ∀ c, c < 93 → c ∈ qLs X) (d : Nat) (a1 : Int) (a2 : Int) (S : qSto) (o : (Int × qSto)) (h : C_swap a1 a2 S = some o) (Q : Option qV → qSto → Prop) (hQ : Q (some (qi o.1)) o.2) : qC X (d + 6) yX11_swap cX11_swap 10 (some .int) [qr 0, qi a1, qi a2] S Q := by
  refine q_entry (lv := [(0, qr 0), (1, qi a1), (2, qi a2)]) pn_X11 (Nat.le_of_ble_eq_true rfl) rfl ?_
  unfold C_swap at h
  refine q_aload_n dX11_swap_0 rfl rfl ?_
  refine q_iload_n dX11_swap_1 rfl rfl ?_
  obtain ⟨q1145, h1146, h⟩ := Option.bind_eq_some_iff.mp h
  refine q_callVi (as := [qi a1]) (c := 0) dX11_swap_2 ml_X11_216 rfl rfl (hL 0 (by decide)) sh_0 rfl rfl (Nat.le_of_ble_eq_true rfl) (C_isShip_ok hL (d + 5) a1 _ _ h1146) rfl ?_
  obtain ⟨c1147, h⟩ := qk_some h
  refine q_if_eq (tgt := 43) dX11_swap_5 (by decide) rfl (qRb_R c1147)  (fun g => ?_) (fun g => ?_)
  · rw [if_pos (show q1145.1 = 0 from g)] at h
    refine q_iconst dX11_swap_43 rfl rfl ?_
    cases h
    exact q_ireturn dX11_swap_44 rfl hQ
  · rw [if_neg (show ¬ (q1145.1 = 0) from g)] at h
    refine q_aload_n dX11_swap_8 rfl rfl ?_
    refine q_iload_n dX11_swap_9 rfl rfl ?_
    obtain ⟨q1148, h1149, h⟩ := Option.bind_eq_some_iff.mp h
    refine q_callVi (as := [qi a2]) (c := 0) dX11_swap_10 ml_X11_216 rfl rfl (hL 0 (by decide)) sh_0 rfl rfl (Nat.le_of_ble_eq_true rfl) (C_isShip_ok hL (d + 5) a2 _ _ h1149) rfl ?_
    obtain ⟨c1150, h⟩ := qk_some h
    refine q_if_eq (tgt := 43) dX11_swap_13 (by decide) rfl (qRb_R c1150)  (fun g => ?_) (fun g => ?_)
    · rw [if_pos (show q1148.1 = 0 from g)] at h
      refine q_iconst dX11_swap_43 rfl rfl ?_
      cases h
      exact q_ireturn dX11_swap_44 rfl hQ
    · rw [if_neg (show ¬ (q1148.1 = 0) from g)] at h
      refine q_iload_n dX11_swap_16 rfl rfl ?_
      refine q_iload_n dX11_swap_17 rfl rfl ?_
      obtain ⟨c1151, h⟩ := qk_some h
      obtain ⟨c1152, h⟩ := qk_some h
      refine q_icmp_eq (tgt := 43) dX11_swap_18 (by decide) rfl (qRb_R c1151) (qRb_R c1152) (fun g => ?_) (fun g => ?_)
      · rw [if_pos (show a1 = a2 from g)] at h
        refine q_iconst dX11_swap_43 rfl rfl ?_
        cases h
        exact q_ireturn dX11_swap_44 rfl hQ
      · rw [if_neg (show ¬ (a1 = a2) from g)] at h
        refine q_aload_n dX11_swap_21 rfl rfl ?_
        refine q_getA dX11_swap_22 fl_X11_49 (hL 0 (by decide)) sh_0 (by decide) rfl rfl ?_
        refine q_iload_n dX11_swap_25 rfl rfl ?_
        obtain ⟨q1153, h1154, h⟩ := Option.bind_eq_some_iff.mp h
        refine q_callVi (as := [qi a1]) (c := 6) dX11_swap_26 ml_X11_178 rfl rfl (hL 6 (by decide)) sh_6 rfl rfl (Nat.le_of_ble_eq_true rfl) (Stays_has_ok hL (d + 5) a1 _ _ h1154) rfl ?_
        obtain ⟨c1155, h⟩ := qk_some h
        refine q_if_eq (tgt := 43) dX11_swap_29 (by decide) rfl (qRb_R c1155)  (fun g => ?_) (fun g => ?_)
        · rw [if_pos (show q1153.1 = 0 from g)] at h
          refine q_iconst dX11_swap_43 rfl rfl ?_
          cases h
          exact q_ireturn dX11_swap_44 rfl hQ
        · rw [if_neg (show ¬ (q1153.1 = 0) from g)] at h
          refine q_aload_n dX11_swap_32 rfl rfl ?_
          refine q_getA dX11_swap_33 fl_X11_49 (hL 0 (by decide)) sh_0 (by decide) rfl rfl ?_
          refine q_iload_n dX11_swap_36 rfl rfl ?_
          obtain ⟨q1156, h1157, h⟩ := Option.bind_eq_some_iff.mp h
          refine q_callVi (as := [qi a2]) (c := 6) dX11_swap_37 ml_X11_178 rfl rfl (hL 6 (by decide)) sh_6 rfl rfl (Nat.le_of_ble_eq_true rfl) (Stays_has_ok hL (d + 5) a2 _ _ h1157) rfl ?_
          obtain ⟨c1158, h⟩ := qk_some h
          refine q_if_ne (tgt := 45) dX11_swap_40 (by decide) rfl (qRb_R c1158)  (fun g => ?_) (fun g => ?_)
          · rw [if_neg (show ¬ (q1156.1 = 0) from g)] at h
            refine q_aload_n dX11_swap_45 rfl rfl ?_
            refine q_getA dX11_swap_46 fl_X11_49 (hL 0 (by decide)) sh_0 (by decide) rfl rfl ?_
            refine q_getA dX11_swap_49 fl_X11_225 (hL 6 (by decide)) sh_6 (by decide) rfl rfl ?_
            refine q_iload_n dX11_swap_52 rfl rfl ?_
            obtain ⟨c1159, h⟩ := qk_some h
            refine q_iaload dX11_swap_53 (hL 37 (by decide)) sh_37 (qIx_0 c1159) (qIx_1 c1159) rfl ?_
            refine q_istore_n (lv' := [(3, qi (q1156.2 37 (Int.toNat a1))), (0, qr 0), (1, qi a1), (2, qi a2)]) dX11_swap_54 (by decide) rfl rfl ?_
            refine q_aload_n dX11_swap_55 rfl rfl ?_
            refine q_getA dX11_swap_56 fl_X11_49 (hL 0 (by decide)) sh_0 (by decide) rfl rfl ?_
            refine q_getA dX11_swap_59 fl_X11_228 (hL 6 (by decide)) sh_6 (by decide) rfl rfl ?_
            refine q_iload_n dX11_swap_62 rfl rfl ?_
            obtain ⟨c1160, h⟩ := qk_some h
            refine q_iaload dX11_swap_63 (hL 39 (by decide)) sh_39 (qIx_0 c1160) (qIx_1 c1160) rfl ?_
            refine q_istore (lv' := [(4, qi (q1156.2 39 (Int.toNat a1))), (3, qi (q1156.2 37 (Int.toNat a1))), (0, qr 0), (1, qi a1), (2, qi a2)]) dX11_swap_64 (by decide) rfl rfl ?_
            refine q_aload_n dX11_swap_66 rfl rfl ?_
            refine q_getA dX11_swap_67 fl_X11_49 (hL 0 (by decide)) sh_0 (by decide) rfl rfl ?_
            refine q_getA dX11_swap_70 fl_X11_225 (hL 6 (by decide)) sh_6 (by decide) rfl rfl ?_
            refine q_iload_n dX11_swap_73 rfl rfl ?_
            obtain ⟨c1161, h⟩ := qk_some h
            refine q_iaload dX11_swap_74 (hL 37 (by decide)) sh_37 (qIx_0 c1161) (qIx_1 c1161) rfl ?_
            refine q_istore (lv' := [(5, qi (q1156.2 37 (Int.toNat a2))), (4, qi (q1156.2 39 (Int.toNat a1))), (3, qi (q1156.2 37 (Int.toNat a1))), (0, qr 0), (1, qi a1), (2, qi a2)]) dX11_swap_75 (by decide) rfl rfl ?_
            refine q_aload_n dX11_swap_77 rfl rfl ?_
            refine q_getA dX11_swap_78 fl_X11_49 (hL 0 (by decide)) sh_0 (by decide) rfl rfl ?_
            refine q_getA dX11_swap_81 fl_X11_228 (hL 6 (by decide)) sh_6 (by decide) rfl rfl ?_
            refine q_iload_n dX11_swap_84 rfl rfl ?_
            obtain ⟨c1162, h⟩ := qk_some h
            refine q_iaload dX11_swap_85 (hL 39 (by decide)) sh_39 (qIx_0 c1162) (qIx_1 c1162) rfl ?_
            refine q_istore (lv' := [(6, qi (q1156.2 39 (Int.toNat a2))), (5, qi (q1156.2 37 (Int.toNat a2))), (4, qi (q1156.2 39 (Int.toNat a1))), (3, qi (q1156.2 37 (Int.toNat a1))), (0, qr 0), (1, qi a1), (2, qi a2)]) dX11_swap_86 (by decide) rfl rfl ?_
            refine q_aload_n dX11_swap_88 rfl rfl ?_
            refine q_getA dX11_swap_89 fl_X11_49 (hL 0 (by decide)) sh_0 (by decide) rfl rfl ?_
            refine q_getA dX11_swap_92 fl_X11_231 (hL 6 (by decide)) sh_6 (by decide) rfl rfl ?_
            refine q_iload_n dX11_swap_95 rfl rfl ?_
            obtain ⟨c1163, h⟩ := qk_some h
            refine q_iaload dX11_swap_96 (hL 40 (by decide)) sh_40 (qIx_0 c1163) (qIx_1 c1163) rfl ?_
            refine q_istore (lv' := [(7, qi (q1156.2 40 (Int.toNat a1))), (6, qi (q1156.2 39 (Int.toNat a2))), (5, qi (q1156.2 37 (Int.toNat a2))), (4, qi (q1156.2 39 (Int.toNat a1))), (3, qi (q1156.2 37 (Int.toNat a1))), (0, qr 0), (1, qi a1), (2, qi a2)]) dX11_swap_97 (by decide) rfl rfl ?_
            refine q_aload_n dX11_swap_99 rfl rfl ?_
            refine q_getA dX11_swap_100 fl_X11_49 (hL 0 (by decide)) sh_0 (by decide) rfl rfl ?_
            refine q_getA dX11_swap_103 fl_X11_231 (hL 6 (by decide)) sh_6 (by decide) rfl rfl ?_
            refine q_iload_n dX11_swap_106 rfl rfl ?_
            obtain ⟨c1164, h⟩ := qk_some h
            refine q_iaload dX11_swap_107 (hL 40 (by decide)) sh_40 (qIx_0 c1164) (qIx_1 c1164) rfl ?_
            refine q_istore (lv' := [(8, qi (q1156.2 40 (Int.toNat a2))), (7, qi (q1156.2 40 (Int.toNat a1))), (6, qi (q1156.2 39 (Int.toNat a2))), (5, qi (q1156.2 37 (Int.toNat a2))), (4, qi (q1156.2 39 (Int.toNat a1))), (3, qi (q1156.2 37 (Int.toNat a1))), (0, qr 0), (1, qi a1), (2, qi a2)]) dX11_swap_108 (by decide) rfl rfl ?_
            refine q_aload_n dX11_swap_110 rfl rfl ?_
            refine q_getA dX11_swap_111 fl_X11_49 (hL 0 (by decide)) sh_0 (by decide) rfl rfl ?_
            refine q_aload_n dX11_swap_114 rfl rfl ?_
            refine q_getA dX11_swap_115 fl_X11_110 (hL 0 (by decide)) sh_0 (by decide) rfl rfl ?_
            obtain ⟨q1165, h1166, h⟩ := Option.bind_eq_some_iff.mp h
            refine q_callVv (as := [qr 14]) (c := 6) dX11_swap_118 ml_X11_295 rfl rfl (hL 6 (by decide)) sh_6 rfl rfl (Nat.le_of_ble_eq_true rfl) (Stays_save_14_ok hL (d + 5) _ _ h1166) rfl ?_
            refine q_aload_n dX11_swap_121 rfl rfl ?_
            refine q_getA dX11_swap_122 fl_X11_49 (hL 0 (by decide)) sh_0 (by decide) rfl rfl ?_
            refine q_iload_n dX11_swap_125 rfl rfl ?_
            obtain ⟨q1167, h1168, h⟩ := Option.bind_eq_some_iff.mp h
            refine q_callVv (as := [qi a1]) (c := 6) dX11_swap_126 ml_X11_313 rfl rfl (hL 6 (by decide)) sh_6 rfl rfl (Nat.le_of_ble_eq_true rfl) (Stays_lift_ok hL (d + 3) a1 _ _ h1168) rfl ?_
            refine q_aload_n dX11_swap_129 rfl rfl ?_
            refine q_getA dX11_swap_130 fl_X11_49 (hL 0 (by decide)) sh_0 (by decide) rfl rfl ?_
            refine q_iload_n dX11_swap_133 rfl rfl ?_
            obtain ⟨q1169, h1170, h⟩ := Option.bind_eq_some_iff.mp h
            refine q_callVv (as := [qi a2]) (c := 6) dX11_swap_134 ml_X11_313 rfl rfl (hL 6 (by decide)) sh_6 rfl rfl (Nat.le_of_ble_eq_true rfl) (Stays_lift_ok hL (d + 3) a2 _ _ h1170) rfl ?_
            refine q_aload_n dX11_swap_137 rfl rfl ?_
            refine q_iload_n dX11_swap_138 rfl rfl ?_
            refine q_iload dX11_swap_139 rfl rfl ?_
            refine q_iload dX11_swap_141 rfl rfl ?_
            refine q_iload dX11_swap_143 rfl rfl ?_
            obtain ⟨q1176, h1177, h⟩ := Option.bind_eq_some_iff.mp h
            refine q_callVi (as := [qi a1, qi (q1156.2 37 (Int.toNat a2)), qi (q1156.2 39 (Int.toNat a2)), qi (q1156.2 40 (Int.toNat a1))]) (c := 0) dX11_swap_145 ml_X11_332 rfl rfl (hL 0 (by decide)) sh_0 rfl rfl (Nat.le_of_ble_eq_true rfl) (C_layLawful_ok hL d a1 (q1156.2 37 (Int.toNat a2)) (q1156.2 39 (Int.toNat a2)) (q1156.2 40 (Int.toNat a1)) _ _ h1177) rfl ?_
            refine q_istore (lv' := [(9, qi q1176.1), (8, qi (q1156.2 40 (Int.toNat a2))), (7, qi (q1156.2 40 (Int.toNat a1))), (6, qi (q1156.2 39 (Int.toNat a2))), (5, qi (q1156.2 37 (Int.toNat a2))), (4, qi (q1156.2 39 (Int.toNat a1))), (3, qi (q1156.2 37 (Int.toNat a1))), (0, qr 0), (1, qi a1), (2, qi a2)]) dX11_swap_148 (by decide) rfl rfl ?_
            refine q_iload dX11_swap_150 rfl rfl ?_
            refine q_jn (G := fun (t1181 : (Int × qSto)) => qW X (d + 6) yX11_swap cX11_swap 10 (some .int) 167 [(0, qr 0), (1, qi a1), (9, qi t1181.1)] [] t1181.2 Q) h (fun t1181 h => ?_) (fun t1181 h hk4123 => ?_)
            · try dsimp only at h
              refine q_iload dX11_swap_167 rfl rfl ?_
              obtain ⟨c1182, h⟩ := qk_some h
              refine q_if_eq (tgt := 189) dX11_swap_169 (by decide) rfl (qRb_R c1182)  (fun g => ?_) (fun g => ?_)
              · rw [if_pos (show t1181.1 = 0 from g)] at h
                refine q_aload_n dX11_swap_189 rfl rfl ?_
                obtain ⟨q1183, h1184, h⟩ := Option.bind_eq_some_iff.mp h
                refine q_callVv (as := []) (c := 0) dX11_swap_190 ml_X11_303 rfl rfl (hL 0 (by decide)) sh_0 rfl rfl (Nat.le_of_ble_eq_true rfl) (C_keepAct_ok hL (d + 4) _ _ h1184) rfl ?_
                refine q_aload_n dX11_swap_193 rfl rfl ?_
                refine q_getA dX11_swap_194 fl_X11_49 (hL 0 (by decide)) sh_0 (by decide) rfl rfl ?_
                refine q_getA dX11_swap_197 fl_X11_236 (hL 6 (by decide)) sh_6 (by decide) rfl rfl ?_
                refine q_iload_n dX11_swap_200 rfl rfl ?_
                obtain ⟨c1185, h⟩ := qk_some h
                refine q_iaload dX11_swap_201 (hL 42 (by decide)) sh_42 (qIx_0 c1185) (qIx_1 c1185) rfl ?_
                cases h
                exact q_ireturn dX11_swap_202 rfl hQ
              · rw [if_neg (show ¬ (t1181.1 = 0) from g)] at h
                refine q_aload_n dX11_swap_172 rfl rfl ?_
                refine q_getA dX11_swap_173 fl_X11_49 (hL 0 (by decide)) sh_0 (by decide) rfl rfl ?_
                refine q_aload_n dX11_swap_176 rfl rfl ?_
                refine q_getA dX11_swap_177 fl_X11_110 (hL 0 (by decide)) sh_0 (by decide) rfl rfl ?_
                obtain ⟨q1200, h1201, h⟩ := Option.bind_eq_some_iff.mp h
                refine q_callVv (as := [qr 14]) (c := 6) dX11_swap_180 ml_X11_335 rfl rfl (hL 6 (by decide)) sh_6 rfl rfl (Nat.le_of_ble_eq_true rfl) (Stays_load_14_ok hL (d + 1) _ _ h1201) rfl ?_
                refine q_iload dX11_swap_183 rfl rfl ?_
                obtain ⟨q1202, h1203, h⟩ := Option.bind_eq_some_iff.mp h
                refine q_callSi (as := [qi t1181.1]) dX11_swap_185 ml_X11_292 rfl rfl (Nat.le_of_ble_eq_true rfl) (C_refusal_ok hL (d + 5) t1181.1 _ _ h1203) rfl ?_
                cases h
                exact q_ireturn dX11_swap_188 rfl hQ
            · skip
              obtain ⟨c1178, h⟩ := qk_some h
              refine q_if_ne (tgt := 167) dX11_swap_152 (by decide) rfl (qRb_R c1178)  (fun g => ?_) (fun g => ?_)
              · rw [if_neg (show ¬ (q1176.1 = 0) from g)] at h
                cases h
                exact q_pick [7, 8, 0] rfl hk4123
              · rw [if_pos (show q1176.1 = 0 from g)] at h
                refine q_aload_n dX11_swap_155 rfl rfl ?_
                refine q_iload_n dX11_swap_156 rfl rfl ?_
                refine q_iload_n dX11_swap_157 rfl rfl ?_
                refine q_iload dX11_swap_158 rfl rfl ?_
                refine q_iload dX11_swap_160 rfl rfl ?_
                obtain ⟨q1179, h1180, h⟩ := Option.bind_eq_some_iff.mp h
                refine q_callVi (as := [qi a2, qi (q1156.2 37 (Int.toNat a1)), qi (q1156.2 39 (Int.toNat a1)), qi (q1156.2 40 (Int.toNat a2))]) (c := 0) dX11_swap_162 ml_X11_332 rfl rfl (hL 0 (by decide)) sh_0 rfl rfl (Nat.le_of_ble_eq_true rfl) (C_layLawful_ok hL d a2 (q1156.2 37 (Int.toNat a1)) (q1156.2 39 (Int.toNat a1)) (q1156.2 40 (Int.toNat a2)) _ _ h1180) rfl ?_
                refine q_istore (lv' := [(9, qi q1179.1), (8, qi (q1156.2 40 (Int.toNat a2))), (7, qi (q1156.2 40 (Int.toNat a1))), (6, qi (q1156.2 39 (Int.toNat a2))), (5, qi (q1156.2 37 (Int.toNat a2))), (4, qi (q1156.2 39 (Int.toNat a1))), (3, qi (q1156.2 37 (Int.toNat a1))), (0, qr 0), (1, qi a1), (2, qi a2)]) dX11_swap_165 (by decide) rfl rfl ?_
                cases h
                exact q_pick [7, 8, 0] rfl hk4123
          · rw [if_pos (show q1156.1 = 0 from g)] at h
            refine q_iconst dX11_swap_43 rfl rfl ?_
            cases h
            exact q_ireturn dX11_swap_44 rfl hQ
set_option maxRecDepth 20000 in
theorem C_nextByOldSlot_L10_ok {X : qX} (hL : ∀ c, c < 93 → c ∈ qLs X) (d : Nat) {Q : Option qV → qSto → Prop} : ∀ (n : Nat) (x1 : Int) (x2 : Int) (x3 : Int) (x4 : Int) (x5 : Int) (S : qSto) (o : (Int × qSto)), C_nextByOldSlot_L10 n x1 x2 x3 x4 x5 S = some o → (qW X d yX11_nextByOldSlot cX11_nextByOldSlot 8 (some .int) 99 [(3, qi o.1)] [] o.2 Q) → qW X d yX11_nextByOldSlot cX11_nextByOldSlot 8 (some .int) 10 [(0, qr 0), (1, qi x1), (2, qi x2), (3, qi x3), (4, qi x4), (5, qi x5)] [] S Q := by
  intro n
  induction n with
  | zero =>
    intro x1 x2 x3 x4 x5 S o h
    simp [C_nextByOldSlot_L10] at h
  | succ n ih =>
    intro x1 x2 x3 x4 x5 S o h hE
    rw [C_nextByOldSlot_L10] at h
    refine q_iload dX11_nextByOldSlot_10 rfl rfl ?_
    refine q_aload_n dX11_nextByOldSlot_12 rfl rfl ?_
    refine q_getA dX11_nextByOldSlot_13 fl_X11_16 (hL 0 (by decide)) sh_0 (by decide) rfl rfl ?_
    refine q_getI dX11_nextByOldSlot_16 fl_X11_158 (hL 2 (by decide)) sh_2 (by decide) rfl rfl ?_
    obtain ⟨c1208, h⟩ := qk_some h
    obtain ⟨c1209, h⟩ := qk_some h
    refine q_icmp_ge (tgt := 99) dX11_nextByOldSlot_19 (by decide) rfl (qRb_R c1208) (qRb_R c1209) (fun g => ?_) (fun g => ?_)
    · rw [if_pos (show (S 2 12) ≤ x5 from g)] at h
      cases h
      exact q_pick [3] rfl (hE)
    · rw [if_neg (show ¬ ((S 2 12) ≤ x5) from g)] at h
      refine q_aload_n dX11_nextByOldSlot_22 rfl rfl ?_
      refine q_getA dX11_nextByOldSlot_23 fl_X11_110 (hL 0 (by decide)) sh_0 (by decide) rfl rfl ?_
      refine q_iload dX11_nextByOldSlot_26 rfl rfl ?_
      refine q_iconst dX11_nextByOldSlot_28 rfl rfl ?_
      refine q_imul dX11_nextByOldSlot_29 rfl ?_
      refine q_iconst dX11_nextByOldSlot_30 rfl rfl ?_
      refine q_iadd dX11_nextByOldSlot_31 rfl ?_
      obtain ⟨c1210, h⟩ := qk_some h
      refine q_iaload dX11_nextByOldSlot_32 (hL 14 (by decide)) sh_14 (qIx_0 c1210) (qIx_1 c1210) rfl ?_
      refine q_istore (lv' := [(6, qi (S 14 (Int.toNat ((x5 * 3) + 1)))), (0, qr 0), (1, qi x1), (2, qi x2), (3, qi x3), (4, qi x4), (5, qi x5)]) dX11_nextByOldSlot_33 (by decide) rfl rfl ?_
      refine q_iload dX11_nextByOldSlot_35 rfl rfl ?_
      refine q_iload_n dX11_nextByOldSlot_37 rfl rfl ?_
      refine q_jn (G := fun (t1217 : Int) => qW X d yX11_nextByOldSlot cX11_nextByOldSlot 8 (some .int) 58 [(0, qr 0), (1, qi x1), (2, qi x2), (3, qi x3), (4, qi x4), (5, qi x5), (6, qi (S 14 (Int.toNat ((x5 * 3) + 1))))] [qi t1217] S Q) h (fun t1217 h => ?_) (fun t1217 h hk4124 => ?_)
      · try dsimp only at h
        refine q_istore (lv' := [(7, qi t1217), (0, qr 0), (1, qi x1), (2, qi x2), (3, qi x3), (4, qi x4), (5, qi x5), (6, qi (S 14 (Int.toNat ((x5 * 3) + 1))))]) dX11_nextByOldSlot_58 (by decide) rfl rfl ?_
        refine q_aload_n dX11_nextByOldSlot_60 rfl rfl ?_
        refine q_getA dX11_nextByOldSlot_61 fl_X11_110 (hL 0 (by decide)) sh_0 (by decide) rfl rfl ?_
        refine q_iload dX11_nextByOldSlot_64 rfl rfl ?_
        refine q_iconst dX11_nextByOldSlot_66 rfl rfl ?_
        refine q_imul dX11_nextByOldSlot_67 rfl ?_
        refine q_iconst dX11_nextByOldSlot_68 rfl rfl ?_
        refine q_iadd dX11_nextByOldSlot_69 rfl ?_
        obtain ⟨c1218, h⟩ := qk_some h
        refine q_iaload dX11_nextByOldSlot_70 (hL 14 (by decide)) sh_14 (qIx_0 c1218) (qIx_1 c1218) rfl ?_
        refine q_jn (G := fun (t1223 : (Int × Int)) => qW X d yX11_nextByOldSlot cX11_nextByOldSlot 8 (some .int) 93 [(0, qr 0), (1, qi x1), (2, qi x2), (3, qi t1223.1), (4, qi t1223.2), (5, qi x5)] [] S Q) h (fun t1223 h => ?_) (fun t1223 h hk4125 => ?_)
        · try dsimp only at h
          refine q_iinc (lv' := [(5, qi (x5 + 1)), (0, qr 0), (1, qi x1), (2, qi x2), (3, qi t1223.1), (4, qi t1223.2)]) dX11_nextByOldSlot_93 (by decide) rfl rfl rfl ?_
          refine q_goto (pc' := 10) dX11_nextByOldSlot_96 (by decide) ?_
          exact q_pick [1, 2, 3, 4, 5, 0] rfl (ih x1 x2 t1223.1 t1223.2 (x5 + 1) _ _ h hE)
        · skip
          obtain ⟨c1219, h⟩ := qk_some h
          refine q_if_le (tgt := 93) dX11_nextByOldSlot_71 (by decide) rfl (qRb_R c1219)  (fun g => ?_) (fun g => ?_)
          · rw [if_pos (show (S 14 (Int.toNat ((x5 * 3) + 2))) ≤ 0 from g)] at h
            cases h
            exact q_pick [1, 2, 3, 4, 5, 6] rfl hk4125
          · rw [if_neg (show ¬ ((S 14 (Int.toNat ((x5 * 3) + 2))) ≤ 0) from g)] at h
            refine q_iload dX11_nextByOldSlot_74 rfl rfl ?_
            obtain ⟨c1220, h⟩ := qk_some h
            refine q_if_eq (tgt := 93) dX11_nextByOldSlot_76 (by decide) rfl (qRb_R c1220)  (fun g => ?_) (fun g => ?_)
            · rw [if_pos (show t1217 = 0 from g)] at h
              cases h
              exact q_pick [1, 2, 3, 4, 5, 6] rfl hk4125
            · rw [if_neg (show ¬ (t1217 = 0) from g)] at h
              refine q_iload dX11_nextByOldSlot_79 rfl rfl ?_
              refine q_iload dX11_nextByOldSlot_81 rfl rfl ?_
              obtain ⟨c1221, h⟩ := qk_some h
              obtain ⟨c1222, h⟩ := qk_some h
              refine q_icmp_ge (tgt := 93) dX11_nextByOldSlot_83 (by decide) rfl (qRb_R c1221) (qRb_R c1222) (fun g => ?_) (fun g => ?_)
              · rw [if_pos (show x4 ≤ (S 14 (Int.toNat ((x5 * 3) + 1))) from g)] at h
                cases h
                exact q_pick [1, 2, 3, 4, 5, 6] rfl hk4125
              · rw [if_neg (show ¬ (x4 ≤ (S 14 (Int.toNat ((x5 * 3) + 1)))) from g)] at h
                refine q_iload dX11_nextByOldSlot_86 rfl rfl ?_
                refine q_istore_n (lv' := [(3, qi x5), (7, qi t1217), (0, qr 0), (1, qi x1), (2, qi x2), (4, qi x4), (5, qi x5), (6, qi (S 14 (Int.toNat ((x5 * 3) + 1))))]) dX11_nextByOldSlot_88 (by decide) rfl rfl ?_
                refine q_iload dX11_nextByOldSlot_89 rfl rfl ?_
                refine q_istore (lv' := [(4, qi (S 14 (Int.toNat ((x5 * 3) + 1)))), (3, qi x5), (7, qi t1217), (0, qr 0), (1, qi x1), (2, qi x2), (5, qi x5), (6, qi (S 14 (Int.toNat ((x5 * 3) + 1))))]) dX11_nextByOldSlot_91 (by decide) rfl rfl ?_
                cases h
                exact q_pick [3, 4, 5, 1, 0, 6] rfl hk4125
      · skip
        obtain ⟨c1211, h⟩ := qk_some h
        obtain ⟨c1212, h⟩ := qk_some h
        refine q_icmp_gt (tgt := 53) dX11_nextByOldSlot_38 (by decide) rfl (qRb_R c1211) (qRb_R c1212) (fun g => ?_) (fun g => ?_)
        · rw [if_pos (show x1 < (S 14 (Int.toNat ((x5 * 3) + 1))) from g)] at h
          refine q_iconst dX11_nextByOldSlot_53 rfl rfl ?_
          refine q_goto (pc' := 58) dX11_nextByOldSlot_54 (by decide) ?_
          cases h
          exact q_pick [1, 2, 3, 4, 5, 6, 0] rfl hk4124
        · rw [if_neg (show ¬ (x1 < (S 14 (Int.toNat ((x5 * 3) + 1)))) from g)] at h
          refine q_iload dX11_nextByOldSlot_41 rfl rfl ?_
          refine q_iload_n dX11_nextByOldSlot_43 rfl rfl ?_
          obtain ⟨c1213, h⟩ := qk_some h
          obtain ⟨c1214, h⟩ := qk_some h
          refine q_icmp_ne (tgt := 57) dX11_nextByOldSlot_44 (by decide) rfl (qRb_R c1213) (qRb_R c1214) (fun g => ?_) (fun g => ?_)
          · rw [if_neg (show ¬ ((S 14 (Int.toNat ((x5 * 3) + 1))) = x1) from g)] at h
            refine q_iconst dX11_nextByOldSlot_57 rfl rfl ?_
            cases h
            exact q_pick [1, 2, 3, 4, 5, 6, 0] rfl hk4124
          · rw [if_pos (show (S 14 (Int.toNat ((x5 * 3) + 1))) = x1 from g)] at h
            refine q_iload dX11_nextByOldSlot_47 rfl rfl ?_
            refine q_iload_n dX11_nextByOldSlot_49 rfl rfl ?_
            obtain ⟨c1215, h⟩ := qk_some h
            obtain ⟨c1216, h⟩ := qk_some h
            refine q_icmp_le (tgt := 57) dX11_nextByOldSlot_50 (by decide) rfl (qRb_R c1215) (qRb_R c1216) (fun g => ?_) (fun g => ?_)
            · rw [if_pos (show x5 ≤ x2 from g)] at h
              refine q_iconst dX11_nextByOldSlot_57 rfl rfl ?_
              cases h
              exact q_pick [1, 2, 3, 4, 5, 6, 0] rfl hk4124
            · rw [if_neg (show ¬ (x5 ≤ x2) from g)] at h
              refine q_iconst dX11_nextByOldSlot_53 rfl rfl ?_
              refine q_goto (pc' := 58) dX11_nextByOldSlot_54 (by decide) ?_
              cases h
              exact q_pick [1, 2, 3, 4, 5, 6, 0] rfl hk4124
set_option maxRecDepth 20000 in
theorem C_nextByOldSlot_ok {X : qX} (hL : ∀ c, c < 93 → c ∈ qLs X) (d : Nat) (a1 : Int) (a2 : Int) (S : qSto) (o : (Int × qSto)) (h : C_nextByOldSlot a1 a2 S = some o) (Q : Option qV → qSto → Prop) (hQ : Q (some (qi o.1)) o.2) : qC X d yX11_nextByOldSlot cX11_nextByOldSlot 8 (some .int) [qr 0, qi a1, qi a2] S Q := by
  refine q_entry (lv := [(0, qr 0), (1, qi a1), (2, qi a2)]) pn_X11 (Nat.le_of_ble_eq_true rfl) rfl ?_
  unfold C_nextByOldSlot at h
  refine q_iconst dX11_nextByOldSlot_0 rfl rfl ?_
  refine q_istore_n (lv' := [(3, qi (-1)), (0, qr 0), (1, qi a1), (2, qi a2)]) dX11_nextByOldSlot_1 (by decide) rfl rfl ?_
  refine q_sipush dX11_nextByOldSlot_2 (by decide) rfl ?_
  refine q_istore (lv' := [(4, qi 336), (3, qi (-1)), (0, qr 0), (1, qi a1), (2, qi a2)]) dX11_nextByOldSlot_5 (by decide) rfl rfl ?_
  refine q_iconst dX11_nextByOldSlot_7 rfl rfl ?_
  refine q_istore (lv' := [(5, qi 0), (4, qi 336), (3, qi (-1)), (0, qr 0), (1, qi a1), (2, qi a2)]) dX11_nextByOldSlot_8 (by decide) rfl rfl ?_
  obtain ⟨q1224, h1225, h⟩ := Option.bind_eq_some_iff.mp h
  refine q_pick [3, 4, 5, 2, 1, 0] rfl (C_nextByOldSlot_L10_ok hL d qF a1 a2 (-1) 336 0 _ _ h1225 ?_)
  refine q_iload_n dX11_nextByOldSlot_99 rfl rfl ?_
  cases h
  exact q_ireturn dX11_nextByOldSlot_100 rfl hQ
