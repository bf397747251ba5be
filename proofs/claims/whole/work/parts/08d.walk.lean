set_option maxRecDepth 20000 in
theorem C_hopeless_L22_ok {X : qX} (hL : ∀ c, c < 93 → c ∈ qLs X) (d : Nat) {Q : Option qV → qSto → Prop} : ∀ (n : Nat) (x1 : Int) (x2 : Int) (S : qSto) (o : (Int × qSto)), C_hopeless_L22 n x1 x2 S = some o → (qW X (d + 5) yX11_hopeless cX11_hopeless 3 (some .int) 76 [(0, qr 0), (1, qi o.1)] [] o.2 Q) → qW X (d + 5) yX11_hopeless cX11_hopeless 3 (some .int) 22 [(0, qr 0), (1, qi x1), (2, qi x2)] [] S Q := by
  intro n
  induction n with
  | zero =>
    intro x1 x2 S o h
    simp [C_hopeless_L22] at h
  | succ n ih =>
    intro x1 x2 S o h hE
    rw [C_hopeless_L22] at h
    refine q_iload_n dX11_hopeless_22 rfl rfl ?_
    refine q_aload_n dX11_hopeless_23 rfl rfl ?_
    refine q_getA dX11_hopeless_24 fl_X11_16 (hL 0 (by decide)) sh_0 (by decide) rfl rfl ?_
    refine q_getI dX11_hopeless_27 fl_X11_158 (hL 2 (by decide)) sh_2 (by decide) rfl rfl ?_
    obtain ⟨c972, h⟩ := qk_some h
    obtain ⟨c973, h⟩ := qk_some h
    refine q_icmp_ge (tgt := 76) dX11_hopeless_30 (by decide) rfl (qRb_R c972) (qRb_R c973) (fun g => ?_) (fun g => ?_)
    · rw [if_pos (show (S 2 12) ≤ x2 from g)] at h
      cases h
      exact q_pick [0, 1] rfl (hE)
    · rw [if_neg (show ¬ ((S 2 12) ≤ x2) from g)] at h
      refine q_aload_n dX11_hopeless_33 rfl rfl ?_
      refine q_getA dX11_hopeless_34 fl_X11_76 (hL 0 (by decide)) sh_0 (by decide) rfl rfl ?_
      refine q_iload_n dX11_hopeless_37 rfl rfl ?_
      refine q_aload_n dX11_hopeless_38 rfl rfl ?_
      refine q_getA dX11_hopeless_39 fl_X11_16 (hL 0 (by decide)) sh_0 (by decide) rfl rfl ?_
      refine q_iload_n dX11_hopeless_42 rfl rfl ?_
      refine q_bipush dX11_hopeless_43 (by decide) rfl ?_
      obtain ⟨q974, h975, h⟩ := Option.bind_eq_some_iff.mp h
      refine q_callVi (as := [qi x2, qi 8]) (c := 2) dX11_hopeless_45 ml_X11_219 rfl rfl (hL 2 (by decide)) sh_2 rfl rfl (Nat.le_of_ble_eq_true rfl) (Told_contractOf_ok hL (d + 4) x2 8 _ _ h975) rfl ?_
      refine q_aload_n dX11_hopeless_48 rfl rfl ?_
      refine q_getA dX11_hopeless_49 fl_X11_16 (hL 0 (by decide)) sh_0 (by decide) rfl rfl ?_
      refine q_iload_n dX11_hopeless_52 rfl rfl ?_
      refine q_bipush dX11_hopeless_53 (by decide) rfl ?_
      obtain ⟨q976, h977, h⟩ := Option.bind_eq_some_iff.mp h
      refine q_callVi (as := [qi x2, qi 7]) (c := 2) dX11_hopeless_55 ml_X11_219 rfl rfl (hL 2 (by decide)) sh_2 rfl rfl (Nat.le_of_ble_eq_true rfl) (Told_contractOf_ok hL (d + 4) x2 7 _ _ h977) rfl ?_
      obtain ⟨q978, h979, h⟩ := Option.bind_eq_some_iff.mp h
      refine q_callVi (as := [qi x2, qi q974.1, qi q976.1]) (c := 9) dX11_hopeless_58 ml_X11_281 rfl rfl (hL 9 (by decide)) sh_9 rfl rfl (Nat.le_of_ble_eq_true rfl) (Search_find_ok hL d x2 q974.1 q976.1 _ _ h979) rfl ?_
      refine q_jn (G := fun (t981 : Int) => qW X (d + 5) yX11_hopeless cX11_hopeless 3 (some .int) 70 [(0, qr 0), (1, qi t981), (2, qi x2)] [] q978.2 Q) h (fun t981 h => ?_) (fun t981 h hk3790 => ?_)
      · try dsimp only at h
        refine q_iinc (lv' := [(2, qi (x2 + 1)), (0, qr 0), (1, qi t981)]) dX11_hopeless_70 (by decide) rfl rfl rfl ?_
        refine q_goto (pc' := 22) dX11_hopeless_73 (by decide) ?_
        exact q_pick [1, 2, 0] rfl (ih t981 (x2 + 1) _ _ h hE)
      · skip
        obtain ⟨c980, h⟩ := qk_some h
        refine q_if_ne (tgt := 70) dX11_hopeless_61 (by decide) rfl (qRb_R c980)  (fun g => ?_) (fun g => ?_)
        · rw [if_neg (show ¬ (q978.1 = 0) from g)] at h
          cases h
          exact q_pick [0, 1, 2] rfl hk3790
        · rw [if_pos (show q978.1 = 0 from g)] at h
          refine q_iload_n dX11_hopeless_64 rfl rfl ?_
          refine q_iconst dX11_hopeless_65 rfl rfl ?_
          refine q_iload_n dX11_hopeless_66 rfl rfl ?_
          refine q_ishl dX11_hopeless_67 rfl ?_
          refine q_ior dX11_hopeless_68 rfl ?_
          refine q_istore_n (lv' := [(1, qi (qb_ior x1 (qb_ishl 1 x2))), (0, qr 0), (2, qi x2)]) dX11_hopeless_69 (by decide) rfl rfl ?_
          cases h
          exact q_pick [1, 0, 2] rfl hk3790
set_option maxRecDepth 20000 in
theorem C_hopeless_ok {X : qX} (hL : ∀ c, c < 93 → c ∈ qLs X) (d : Nat) (S : qSto) (o : (Int × qSto)) (h : C_hopeless S = some o) (Q : Option qV → qSto → Prop) (hQ : Q (some (qi o.1)) o.2) : qC X (d + 5) yX11_hopeless cX11_hopeless 3 (some .int) [qr 0] S Q := by
  refine q_entry (lv := [(0, qr 0)]) pn_X11 (Nat.le_of_ble_eq_true rfl) rfl ?_
  unfold C_hopeless at h
  refine q_aload_n dX11_hopeless_0 rfl rfl ?_
  refine q_getA dX11_hopeless_1 fl_X11_49 (hL 0 (by decide)) sh_0 (by decide) rfl rfl ?_
  refine q_aload_n dX11_hopeless_4 rfl rfl ?_
  refine q_getA dX11_hopeless_5 fl_X11_110 (hL 0 (by decide)) sh_0 (by decide) rfl rfl ?_
  obtain ⟨q968, h969, h⟩ := Option.bind_eq_some_iff.mp h
  refine q_callVv (as := [qr 14]) (c := 6) dX11_hopeless_8 ml_X11_295 rfl rfl (hL 6 (by decide)) sh_6 rfl rfl (Nat.le_of_ble_eq_true rfl) (Stays_save_14_ok hL (d + 4) _ _ h969) rfl ?_
  refine q_aload_n dX11_hopeless_11 rfl rfl ?_
  refine q_getA dX11_hopeless_12 fl_X11_49 (hL 0 (by decide)) sh_0 (by decide) rfl rfl ?_
  obtain ⟨q970, h971, h⟩ := Option.bind_eq_some_iff.mp h
  refine q_callVv (as := []) (c := 6) dX11_hopeless_15 ml_X11_132 rfl rfl (hL 6 (by decide)) sh_6 rfl rfl (Nat.le_of_ble_eq_true rfl) (Stays_clear_ok hL (d + 3) _ _ h971) rfl ?_
  refine q_iconst dX11_hopeless_18 rfl rfl ?_
  refine q_istore_n (lv' := [(1, qi 0), (0, qr 0)]) dX11_hopeless_19 (by decide) rfl rfl ?_
  refine q_iconst dX11_hopeless_20 rfl rfl ?_
  refine q_istore_n (lv' := [(2, qi 0), (1, qi 0), (0, qr 0)]) dX11_hopeless_21 (by decide) rfl rfl ?_
  obtain ⟨q982, h983, h⟩ := Option.bind_eq_some_iff.mp h
  refine q_pick [2, 1, 0] rfl (C_hopeless_L22_ok hL d qF 0 0 _ _ h983 ?_)
  refine q_aload_n dX11_hopeless_76 rfl rfl ?_
  refine q_getA dX11_hopeless_77 fl_X11_49 (hL 0 (by decide)) sh_0 (by decide) rfl rfl ?_
  refine q_aload_n dX11_hopeless_80 rfl rfl ?_
  refine q_getA dX11_hopeless_81 fl_X11_110 (hL 0 (by decide)) sh_0 (by decide) rfl rfl ?_
  obtain ⟨q984, h985, h⟩ := Option.bind_eq_some_iff.mp h
  refine q_callVv (as := [qr 14]) (c := 6) dX11_hopeless_84 ml_X11_335 rfl rfl (hL 6 (by decide)) sh_6 rfl rfl (Nat.le_of_ble_eq_true rfl) (Stays_load_14_ok hL d _ _ h985) rfl ?_
  refine q_iload_n dX11_hopeless_87 rfl rfl ?_
  cases h
  exact q_ireturn dX11_hopeless_88 rfl hQ
set_option maxRecDepth 20000 in
theorem C_slack_L68_ok {X : qX} (hL : ∀ c, c < 93 → c ∈ qLs X) (d : Nat) {Q : Option qV → qSto → Prop} : ∀ (n : Nat) (x1 : Int) (x2 : Int) (x3 : Int) (x4 : Int) (x5 : Int) (S : qSto) (o : (Int × qSto)), C_slack_L68 n x1 x2 x3 x4 x5 S = some o → (qW X (d + 5) yX11_slack cX11_slack 6 (some .int) 96 [(0, qr 0), (1, qi x1), (3, qi x3), (5, qi o.1)] [] o.2 Q) → qW X (d + 5) yX11_slack cX11_slack 6 (some .int) 68 [(0, qr 0), (1, qi x1), (2, qi x2), (3, qi x3), (4, qi x4), (5, qi x5)] [] S Q := by
  intro n
  induction n with
  | zero =>
    intro x1 x2 x3 x4 x5 S o h
    simp [C_slack_L68] at h
  | succ n ih =>
    intro x1 x2 x3 x4 x5 S o h hE
    rw [C_slack_L68] at h
    refine q_iload dX11_slack_68 rfl rfl ?_
    refine q_iload_n dX11_slack_70 rfl rfl ?_
    obtain ⟨c997, h⟩ := qk_some h
    obtain ⟨c998, h⟩ := qk_some h
    refine q_icmp_le (tgt := 96) dX11_slack_71 (by decide) rfl (qRb_R c997) (qRb_R c998) (fun g => ?_) (fun g => ?_)
    · rw [if_pos (show x5 ≤ x3 from g)] at h
      cases h
      exact q_pick [0, 1, 3, 5] rfl (hE)
    · rw [if_neg (show ¬ (x5 ≤ x3) from g)] at h
      refine q_aload_n dX11_slack_74 rfl rfl ?_
      refine q_getA dX11_slack_75 fl_X11_67 (hL 0 (by decide)) sh_0 (by decide) rfl rfl ?_
      refine q_iload_n dX11_slack_78 rfl rfl ?_
      refine q_iload_n dX11_slack_79 rfl rfl ?_
      refine q_iload dX11_slack_80 rfl rfl ?_
      refine q_iload dX11_slack_82 rfl rfl ?_
      obtain ⟨q999, h1000, h⟩ := Option.bind_eq_some_iff.mp h
      refine q_callVi (as := [qi x1, qi x2, qi x5, qi x4]) (c := 8) dX11_slack_84 ml_X11_263 rfl rfl (hL 8 (by decide)) sh_8 rfl rfl (Nat.le_of_ble_eq_true rfl) (Laws_firstBroken_ok hL d x1 x2 x5 x4 _ _ h1000) rfl ?_
      obtain ⟨c1001, h⟩ := qk_some h
      refine q_if_eq (tgt := 96) dX11_slack_87 (by decide) rfl (qRb_R c1001)  (fun g => ?_) (fun g => ?_)
      · rw [if_pos (show q999.1 = 0 from g)] at h
        cases h
        exact q_pick [0, 1, 3, 5] rfl (hE)
      · rw [if_neg (show ¬ (q999.1 = 0) from g)] at h
        refine q_iinc (lv' := [(5, qi (x5 + (-1))), (0, qr 0), (1, qi x1), (2, qi x2), (3, qi x3), (4, qi x4)]) dX11_slack_90 (by decide) rfl rfl rfl ?_
        refine q_goto (pc' := 68) dX11_slack_93 (by decide) ?_
        exact q_pick [1, 2, 3, 4, 5, 0] rfl (ih x1 x2 x3 x4 (x5 + (-1)) _ _ h hE)
set_option maxRecDepth 20000 in
theorem C_slack_ok {X : qX} (hL : ∀ c, c < 93 → c ∈ qLs X) (d : Nat) (a1 : Int) (S : qSto) (o : (Int × qSto)) (h : C_slack a1 S = some o) (Q : Option qV → qSto → Prop) (hQ : Q (some (qi o.1)) o.2) : qC X (d + 5) yX11_slack cX11_slack 6 (some .int) [qr 0, qi a1] S Q := by
  refine q_entry (lv := [(0, qr 0), (1, qi a1)]) pn_X11 (Nat.le_of_ble_eq_true rfl) rfl ?_
  unfold C_slack at h
  refine q_aload_n dX11_slack_0 rfl rfl ?_
  refine q_iload_n dX11_slack_1 rfl rfl ?_
  obtain ⟨q986, h987, h⟩ := Option.bind_eq_some_iff.mp h
  refine q_callVi (as := [qi a1]) (c := 0) dX11_slack_2 ml_X11_216 rfl rfl (hL 0 (by decide)) sh_0 rfl rfl (Nat.le_of_ble_eq_true rfl) (C_isShip_ok hL (d + 4) a1 _ _ h987) rfl ?_
  obtain ⟨c988, h⟩ := qk_some h
  refine q_if_ne (tgt := 10) dX11_slack_5 (by decide) rfl (qRb_R c988)  (fun g => ?_) (fun g => ?_)
  · rw [if_neg (show ¬ (q986.1 = 0) from g)] at h
    refine q_aload_n dX11_slack_10 rfl rfl ?_
    refine q_getA dX11_slack_11 fl_X11_49 (hL 0 (by decide)) sh_0 (by decide) rfl rfl ?_
    refine q_iload_n dX11_slack_14 rfl rfl ?_
    obtain ⟨q989, h990, h⟩ := Option.bind_eq_some_iff.mp h
    refine q_callVi (as := [qi a1]) (c := 6) dX11_slack_15 ml_X11_178 rfl rfl (hL 6 (by decide)) sh_6 rfl rfl (Nat.le_of_ble_eq_true rfl) (Stays_has_ok hL (d + 4) a1 _ _ h990) rfl ?_
    obtain ⟨c991, h⟩ := qk_some h
    refine q_if_ne (tgt := 24) dX11_slack_18 (by decide) rfl (qRb_R c991)  (fun g => ?_) (fun g => ?_)
    · rw [if_neg (show ¬ (q989.1 = 0) from g)] at h
      refine q_aload_n dX11_slack_24 rfl rfl ?_
      refine q_getA dX11_slack_25 fl_X11_49 (hL 0 (by decide)) sh_0 (by decide) rfl rfl ?_
      refine q_getA dX11_slack_28 fl_X11_225 (hL 6 (by decide)) sh_6 (by decide) rfl rfl ?_
      refine q_iload_n dX11_slack_31 rfl rfl ?_
      obtain ⟨c992, h⟩ := qk_some h
      refine q_iaload dX11_slack_32 (hL 37 (by decide)) sh_37 (qIx_0 c992) (qIx_1 c992) rfl ?_
      refine q_istore_n (lv' := [(2, qi (q989.2 37 (Int.toNat a1))), (0, qr 0), (1, qi a1)]) dX11_slack_33 (by decide) rfl rfl ?_
      refine q_aload_n dX11_slack_34 rfl rfl ?_
      refine q_getA dX11_slack_35 fl_X11_49 (hL 0 (by decide)) sh_0 (by decide) rfl rfl ?_
      refine q_getA dX11_slack_38 fl_X11_228 (hL 6 (by decide)) sh_6 (by decide) rfl rfl ?_
      refine q_iload_n dX11_slack_41 rfl rfl ?_
      obtain ⟨c993, h⟩ := qk_some h
      refine q_iaload dX11_slack_42 (hL 39 (by decide)) sh_39 (qIx_0 c993) (qIx_1 c993) rfl ?_
      refine q_istore_n (lv' := [(3, qi (q989.2 39 (Int.toNat a1))), (2, qi (q989.2 37 (Int.toNat a1))), (0, qr 0), (1, qi a1)]) dX11_slack_43 (by decide) rfl rfl ?_
      refine q_aload_n dX11_slack_44 rfl rfl ?_
      refine q_getA dX11_slack_45 fl_X11_49 (hL 0 (by decide)) sh_0 (by decide) rfl rfl ?_
      refine q_getA dX11_slack_48 fl_X11_231 (hL 6 (by decide)) sh_6 (by decide) rfl rfl ?_
      refine q_iload_n dX11_slack_51 rfl rfl ?_
      obtain ⟨c994, h⟩ := qk_some h
      refine q_iaload dX11_slack_52 (hL 40 (by decide)) sh_40 (qIx_0 c994) (qIx_1 c994) rfl ?_
      refine q_istore (lv' := [(4, qi (q989.2 40 (Int.toNat a1))), (3, qi (q989.2 39 (Int.toNat a1))), (2, qi (q989.2 37 (Int.toNat a1))), (0, qr 0), (1, qi a1)]) dX11_slack_53 (by decide) rfl rfl ?_
      refine q_aload_n dX11_slack_55 rfl rfl ?_
      refine q_getA dX11_slack_56 fl_X11_49 (hL 0 (by decide)) sh_0 (by decide) rfl rfl ?_
      refine q_iload_n dX11_slack_59 rfl rfl ?_
      obtain ⟨q995, h996, h⟩ := Option.bind_eq_some_iff.mp h
      refine q_callVv (as := [qi a1]) (c := 6) dX11_slack_60 ml_X11_260 rfl rfl (hL 6 (by decide)) sh_6 rfl rfl (Nat.le_of_ble_eq_true rfl) (Stays_takeUp_ok hL (d + 1) a1 _ _ h996) rfl ?_
      refine q_sipush dX11_slack_63 (by decide) rfl ?_
      refine q_istore (lv' := [(5, qi 335), (4, qi (q989.2 40 (Int.toNat a1))), (3, qi (q989.2 39 (Int.toNat a1))), (2, qi (q989.2 37 (Int.toNat a1))), (0, qr 0), (1, qi a1)]) dX11_slack_66 (by decide) rfl rfl ?_
      obtain ⟨q1002, h1003, h⟩ := Option.bind_eq_some_iff.mp h
      refine q_pick [4, 5, 3, 2, 1, 0] rfl (C_slack_L68_ok hL d qF a1 (q989.2 37 (Int.toNat a1)) (q989.2 39 (Int.toNat a1)) (q989.2 40 (Int.toNat a1)) 335 _ _ h1003 ?_)
      refine q_aload_n dX11_slack_96 rfl rfl ?_
      refine q_getA dX11_slack_97 fl_X11_49 (hL 0 (by decide)) sh_0 (by decide) rfl rfl ?_
      refine q_iload_n dX11_slack_100 rfl rfl ?_
      obtain ⟨q1004, h1005, h⟩ := Option.bind_eq_some_iff.mp h
      refine q_callVv (as := [qi a1]) (c := 6) dX11_slack_101 ml_X11_267 rfl rfl (hL 6 (by decide)) sh_6 rfl rfl (Nat.le_of_ble_eq_true rfl) (Stays_layBack_ok hL d a1 _ _ h1005) rfl ?_
      refine q_iload dX11_slack_104 rfl rfl ?_
      refine q_iload_n dX11_slack_106 rfl rfl ?_
      refine q_isub dX11_slack_107 rfl ?_
      cases h
      exact q_ireturn dX11_slack_108 rfl hQ
    · rw [if_pos (show q989.1 = 0 from g)] at h
      refine q_bipush dX11_slack_21 (by decide) rfl ?_
      cases h
      exact q_ireturn dX11_slack_23 rfl hQ
  · rw [if_pos (show q986.1 = 0 from g)] at h
    refine q_iconst dX11_slack_8 rfl rfl ?_
    cases h
    exact q_ireturn dX11_slack_9 rfl hQ
set_option maxRecDepth 20000 in
theorem C_along_L87_ok {X : qX} (hL : ∀ c, c < 93 → c ∈ qLs X) (d : Nat) {Q : Option qV → qSto → Prop} : ∀ (n : Nat) (x1 : Int) (x3 : Int) (x4 : Int) (x5 : Int) (x6 : Int) (x7 : Int) (S : qSto) (o : (Int × qSto)), C_along_L87 n x1 x3 x4 x5 x6 x7 S = some o → (qW X (d + 5) yX11_along cX11_along 8 (some .int) 134 [(0, qr 0), (1, qi x1), (3, qi o.1)] [] o.2 Q) → qW X (d + 5) yX11_along cX11_along 8 (some .int) 87 [(0, qr 0), (1, qi x1), (3, qi x3), (4, qi x4), (5, qi x5), (6, qi x6), (7, qi x7)] [] S Q := by
  intro n
  induction n with
  | zero =>
    intro x1 x3 x4 x5 x6 x7 S o h
    simp [C_along_L87] at h
  | succ n ih =>
    intro x1 x3 x4 x5 x6 x7 S o h hE
    rw [C_along_L87] at h
    refine q_iload dX11_along_87 rfl rfl ?_
    refine q_aload_n dX11_along_89 rfl rfl ?_
    refine q_getA dX11_along_90 fl_X11_16 (hL 0 (by decide)) sh_0 (by decide) rfl rfl ?_
    refine q_getA dX11_along_93 fl_X11_146 (hL 2 (by decide)) sh_2 (by decide) rfl rfl ?_
    refine q_iconst dX11_along_96 rfl rfl ?_
    refine q_iaload dX11_along_97 (hL 15 (by decide)) sh_15 (by decide) (by decide) rfl ?_
    obtain ⟨c1021, h⟩ := qk_some h
    obtain ⟨c1022, h⟩ := qk_some h
    refine q_icmp_ge (tgt := 134) dX11_along_98 (by decide) rfl (qRb_R c1021) (qRb_R c1022) (fun g => ?_) (fun g => ?_)
    · rw [if_pos (show (S 15 0) ≤ x7 from g)] at h
      cases h
      exact q_pick [0, 1, 2] rfl (hE)
    · rw [if_neg (show ¬ ((S 15 0) ≤ x7) from g)] at h
      refine q_aload_n dX11_along_101 rfl rfl ?_
      refine q_getA dX11_along_102 fl_X11_67 (hL 0 (by decide)) sh_0 (by decide) rfl rfl ?_
      refine q_iload_n dX11_along_105 rfl rfl ?_
      refine q_iload_n dX11_along_106 rfl rfl ?_
      refine q_iload dX11_along_107 rfl rfl ?_
      refine q_iadd dX11_along_109 rfl ?_
      refine q_iload dX11_along_110 rfl rfl ?_
      refine q_iload dX11_along_112 rfl rfl ?_
      obtain ⟨q1023, h1024, h⟩ := Option.bind_eq_some_iff.mp h
      refine q_callVi (as := [qi x1, qi (x3 + x6), qi x4, qi x5]) (c := 8) dX11_along_114 ml_X11_263 rfl rfl (hL 8 (by decide)) sh_8 rfl rfl (Nat.le_of_ble_eq_true rfl) (Laws_firstBroken_ok hL d x1 (x3 + x6) x4 x5 _ _ h1024) rfl ?_
      obtain ⟨c1025, h⟩ := qk_some h
      refine q_if_eq (tgt := 123) dX11_along_117 (by decide) rfl (qRb_R c1025)  (fun g => ?_) (fun g => ?_)
      · rw [if_pos (show q1023.1 = 0 from g)] at h
        refine q_iload_n dX11_along_123 rfl rfl ?_
        refine q_iload dX11_along_124 rfl rfl ?_
        refine q_iadd dX11_along_126 rfl ?_
        refine q_istore_n (lv' := [(3, qi (x3 + x6)), (0, qr 0), (1, qi x1), (4, qi x4), (5, qi x5), (6, qi x6), (7, qi x7)]) dX11_along_127 (by decide) rfl rfl ?_
        refine q_iinc (lv' := [(7, qi (x7 + 1)), (3, qi (x3 + x6)), (0, qr 0), (1, qi x1), (4, qi x4), (5, qi x5), (6, qi x6)]) dX11_along_128 (by decide) rfl rfl rfl ?_
        refine q_goto (pc' := 87) dX11_along_131 (by decide) ?_
        exact q_pick [2, 3, 1, 4, 5, 6, 0] rfl (ih x1 (x3 + x6) x4 x5 x6 (x7 + 1) _ _ h hE)
      · rw [if_neg (show ¬ (q1023.1 = 0) from g)] at h
        refine q_goto (pc' := 134) dX11_along_120 (by decide) ?_
        cases h
        exact q_pick [0, 1, 2] rfl (hE)
set_option maxRecDepth 20000 in
theorem C_along_ok {X : qX} (hL : ∀ c, c < 93 → c ∈ qLs X) (d : Nat) (a1 : Int) (a2 : Int) (S : qSto) (o : (Int × qSto)) (h : C_along a1 a2 S = some o) (Q : Option qV → qSto → Prop) (hQ : Q (some (qi o.1)) o.2) : qC X (d + 5) yX11_along cX11_along 8 (some .int) [qr 0, qi a1, qi a2] S Q := by
  refine q_entry (lv := [(0, qr 0), (1, qi a1), (2, qi a2)]) pn_X11 (Nat.le_of_ble_eq_true rfl) rfl ?_
  unfold C_along at h
  refine q_aload_n dX11_along_0 rfl rfl ?_
  refine q_iload_n dX11_along_1 rfl rfl ?_
  obtain ⟨q1006, h1007, h⟩ := Option.bind_eq_some_iff.mp h
  refine q_callVi (as := [qi a1]) (c := 0) dX11_along_2 ml_X11_216 rfl rfl (hL 0 (by decide)) sh_0 rfl rfl (Nat.le_of_ble_eq_true rfl) (C_isShip_ok hL (d + 4) a1 _ _ h1007) rfl ?_
  obtain ⟨c1008, h⟩ := qk_some h
  refine q_if_eq (tgt := 17) dX11_along_5 (by decide) rfl (qRb_R c1008)  (fun g => ?_) (fun g => ?_)
  · rw [if_pos (show q1006.1 = 0 from g)] at h
    refine q_iconst dX11_along_17 rfl rfl ?_
    cases h
    exact q_ireturn dX11_along_18 rfl hQ
  · rw [if_neg (show ¬ (q1006.1 = 0) from g)] at h
    refine q_iload_n dX11_along_8 rfl rfl ?_
    obtain ⟨c1009, h⟩ := qk_some h
    refine q_if_lt (tgt := 17) dX11_along_9 (by decide) rfl (qRb_R c1009)  (fun g => ?_) (fun g => ?_)
    · rw [if_pos (show a2 < 0 from g)] at h
      refine q_iconst dX11_along_17 rfl rfl ?_
      cases h
      exact q_ireturn dX11_along_18 rfl hQ
    · rw [if_neg (show ¬ (a2 < 0) from g)] at h
      refine q_iload_n dX11_along_12 rfl rfl ?_
      refine q_iconst dX11_along_13 rfl rfl ?_
      obtain ⟨c1010, h⟩ := qk_some h
      refine q_icmp_le (tgt := 19) dX11_along_14 (by decide) rfl (qRb_R c1010) ⟨by decide, by decide⟩ (fun g => ?_) (fun g => ?_)
      · rw [if_pos (show a2 ≤ 1 from g)] at h
        refine q_aload_n dX11_along_19 rfl rfl ?_
        refine q_getA dX11_along_20 fl_X11_49 (hL 0 (by decide)) sh_0 (by decide) rfl rfl ?_
        refine q_iload_n dX11_along_23 rfl rfl ?_
        obtain ⟨q1011, h1012, h⟩ := Option.bind_eq_some_iff.mp h
        refine q_callVi (as := [qi a1]) (c := 6) dX11_along_24 ml_X11_178 rfl rfl (hL 6 (by decide)) sh_6 rfl rfl (Nat.le_of_ble_eq_true rfl) (Stays_has_ok hL (d + 4) a1 _ _ h1012) rfl ?_
        obtain ⟨c1013, h⟩ := qk_some h
        refine q_if_ne (tgt := 33) dX11_along_27 (by decide) rfl (qRb_R c1013)  (fun g => ?_) (fun g => ?_)
        · rw [if_neg (show ¬ (q1011.1 = 0) from g)] at h
          refine q_aload_n dX11_along_33 rfl rfl ?_
          refine q_getA dX11_along_34 fl_X11_49 (hL 0 (by decide)) sh_0 (by decide) rfl rfl ?_
          refine q_getA dX11_along_37 fl_X11_225 (hL 6 (by decide)) sh_6 (by decide) rfl rfl ?_
          refine q_iload_n dX11_along_40 rfl rfl ?_
          obtain ⟨c1014, h⟩ := qk_some h
          refine q_iaload dX11_along_41 (hL 37 (by decide)) sh_37 (qIx_0 c1014) (qIx_1 c1014) rfl ?_
          refine q_istore_n (lv' := [(3, qi (q1011.2 37 (Int.toNat a1))), (0, qr 0), (1, qi a1), (2, qi a2)]) dX11_along_42 (by decide) rfl rfl ?_
          refine q_aload_n dX11_along_43 rfl rfl ?_
          refine q_getA dX11_along_44 fl_X11_49 (hL 0 (by decide)) sh_0 (by decide) rfl rfl ?_
          refine q_getA dX11_along_47 fl_X11_228 (hL 6 (by decide)) sh_6 (by decide) rfl rfl ?_
          refine q_iload_n dX11_along_50 rfl rfl ?_
          obtain ⟨c1015, h⟩ := qk_some h
          refine q_iaload dX11_along_51 (hL 39 (by decide)) sh_39 (qIx_0 c1015) (qIx_1 c1015) rfl ?_
          refine q_istore (lv' := [(4, qi (q1011.2 39 (Int.toNat a1))), (3, qi (q1011.2 37 (Int.toNat a1))), (0, qr 0), (1, qi a1), (2, qi a2)]) dX11_along_52 (by decide) rfl rfl ?_
          refine q_aload_n dX11_along_54 rfl rfl ?_
          refine q_getA dX11_along_55 fl_X11_49 (hL 0 (by decide)) sh_0 (by decide) rfl rfl ?_
          refine q_getA dX11_along_58 fl_X11_231 (hL 6 (by decide)) sh_6 (by decide) rfl rfl ?_
          refine q_iload_n dX11_along_61 rfl rfl ?_
          obtain ⟨c1016, h⟩ := qk_some h
          refine q_iaload dX11_along_62 (hL 40 (by decide)) sh_40 (qIx_0 c1016) (qIx_1 c1016) rfl ?_
          refine q_istore (lv' := [(5, qi (q1011.2 40 (Int.toNat a1))), (4, qi (q1011.2 39 (Int.toNat a1))), (3, qi (q1011.2 37 (Int.toNat a1))), (0, qr 0), (1, qi a1), (2, qi a2)]) dX11_along_63 (by decide) rfl rfl ?_
          refine q_iload_n dX11_along_65 rfl rfl ?_
          refine q_jn (G := fun (t1018 : Int) => qW X (d + 5) yX11_along cX11_along 8 (some .int) 74 [(0, qr 0), (1, qi a1), (3, qi (q1011.2 37 (Int.toNat a1))), (4, qi (q1011.2 39 (Int.toNat a1))), (5, qi (q1011.2 40 (Int.toNat a1)))] [qi t1018] q1011.2 Q) h (fun t1018 h => ?_) (fun t1018 h hk3791 => ?_)
          · try dsimp only at h
            refine q_istore (lv' := [(6, qi t1018), (0, qr 0), (1, qi a1), (3, qi (q1011.2 37 (Int.toNat a1))), (4, qi (q1011.2 39 (Int.toNat a1))), (5, qi (q1011.2 40 (Int.toNat a1)))]) dX11_along_74 (by decide) rfl rfl ?_
            refine q_aload_n dX11_along_76 rfl rfl ?_
            refine q_getA dX11_along_77 fl_X11_49 (hL 0 (by decide)) sh_0 (by decide) rfl rfl ?_
            refine q_iload_n dX11_along_80 rfl rfl ?_
            obtain ⟨q1019, h1020, h⟩ := Option.bind_eq_some_iff.mp h
            refine q_callVv (as := [qi a1]) (c := 6) dX11_along_81 ml_X11_260 rfl rfl (hL 6 (by decide)) sh_6 rfl rfl (Nat.le_of_ble_eq_true rfl) (Stays_takeUp_ok hL (d + 1) a1 _ _ h1020) rfl ?_
            refine q_iconst dX11_along_84 rfl rfl ?_
            refine q_istore (lv' := [(7, qi 0), (6, qi t1018), (0, qr 0), (1, qi a1), (3, qi (q1011.2 37 (Int.toNat a1))), (4, qi (q1011.2 39 (Int.toNat a1))), (5, qi (q1011.2 40 (Int.toNat a1)))]) dX11_along_85 (by decide) rfl rfl ?_
            obtain ⟨q1026, h1027, h⟩ := Option.bind_eq_some_iff.mp h
            refine q_pick [2, 3, 4, 5, 6, 1, 0] rfl (C_along_L87_ok hL d qF a1 (q1011.2 37 (Int.toNat a1)) (q1011.2 39 (Int.toNat a1)) (q1011.2 40 (Int.toNat a1)) t1018 0 _ _ h1027 ?_)
            refine q_aload_n dX11_along_134 rfl rfl ?_
            refine q_getA dX11_along_135 fl_X11_49 (hL 0 (by decide)) sh_0 (by decide) rfl rfl ?_
            refine q_iload_n dX11_along_138 rfl rfl ?_
            obtain ⟨q1028, h1029, h⟩ := Option.bind_eq_some_iff.mp h
            refine q_callVv (as := [qi a1]) (c := 6) dX11_along_139 ml_X11_267 rfl rfl (hL 6 (by decide)) sh_6 rfl rfl (Nat.le_of_ble_eq_true rfl) (Stays_layBack_ok hL d a1 _ _ h1029) rfl ?_
            refine q_iload_n dX11_along_142 rfl rfl ?_
            cases h
            exact q_ireturn dX11_along_143 rfl hQ
          · skip
            obtain ⟨c1017, h⟩ := qk_some h
            refine q_if_ne (tgt := 73) dX11_along_66 (by decide) rfl (qRb_R c1017)  (fun g => ?_) (fun g => ?_)
            · rw [if_neg (show ¬ (a2 = 0) from g)] at h
              refine q_iconst dX11_along_73 rfl rfl ?_
              cases h
              exact q_pick [3, 4, 2, 1, 0] rfl hk3791
            · rw [if_pos (show a2 = 0 from g)] at h
              refine q_iconst dX11_along_69 rfl rfl ?_
              refine q_goto (pc' := 74) dX11_along_70 (by decide) ?_
              cases h
              exact q_pick [3, 4, 2, 1, 0] rfl hk3791
        · rw [if_pos (show q1011.1 = 0 from g)] at h
          refine q_bipush dX11_along_30 (by decide) rfl ?_
          cases h
          exact q_ireturn dX11_along_32 rfl hQ
      · rw [if_neg (show ¬ (a2 ≤ 1) from g)] at h
        refine q_iconst dX11_along_17 rfl rfl ?_
        cases h
        exact q_ireturn dX11_along_18 rfl hQ
set_option maxRecDepth 20000 in
theorem C_isRule_ok {X : qX} (hL : ∀ c, c < 93 → c ∈ qLs X) (d : Nat) (a0 : Int) (S : qSto) (o : (Int × qSto)) (h : C_isRule a0 S = some o) (Q : Option qV → qSto → Prop) (hQ : Q (some (qi o.1)) o.2) : qC X d yX11_isRule cX11_isRule 1 (some .boolean) [qi a0] S Q := by
  refine q_entry (lv := [(0, qi a0)]) pn_X11 (Nat.le_of_ble_eq_true rfl) rfl ?_
  unfold C_isRule at h
  refine q_iload_n dX11_isRule_0 rfl rfl ?_
  obtain ⟨c1030, h⟩ := qk_some h
  refine q_if_lt (tgt := 13) dX11_isRule_1 (by decide) rfl (qRb_R c1030)  (fun g => ?_) (fun g => ?_)
  · rw [if_pos (show a0 < 0 from g)] at h
    refine q_iconst dX11_isRule_13 rfl rfl ?_
    cases h
    exact q_zreturn dX11_isRule_14 rfl (by decide) hQ
  · rw [if_neg (show ¬ (a0 < 0) from g)] at h
    refine q_iload_n dX11_isRule_4 rfl rfl ?_
    refine q_iconst dX11_isRule_5 rfl rfl ?_
    obtain ⟨c1031, h⟩ := qk_some h
    refine q_icmp_ge (tgt := 13) dX11_isRule_6 (by decide) rfl (qRb_R c1031) ⟨by decide, by decide⟩ (fun g => ?_) (fun g => ?_)
    · rw [if_pos (show 4 ≤ a0 from g)] at h
      refine q_iconst dX11_isRule_13 rfl rfl ?_
      cases h
      exact q_zreturn dX11_isRule_14 rfl (by decide) hQ
    · rw [if_neg (show ¬ (4 ≤ a0) from g)] at h
      refine q_iconst dX11_isRule_9 rfl rfl ?_
      refine q_goto (pc' := 14) dX11_isRule_10 (by decide) ?_
      cases h
      exact q_zreturn dX11_isRule_14 rfl (by decide) hQ
set_option maxRecDepth 20000 in
theorem Ranking_keyOf_ok {X : qX} (hL : ∀ c, c < 93 → c ∈ qLs X) (d : Nat) (a1 : Int) (a2 : Int) (S : qSto) (o : (Int × qSto)) (h : Ranking_keyOf a1 a2 S = some o) (Q : Option qV → qSto → Prop) (hQ : Q (some (qi o.1)) o.2) : qC X (d + 1) yX4_keyOf cX4_keyOf 3 (some .int) [qr 10, qi a1, qi a2] S Q := by
  refine q_entry (lv := [(0, qr 10), (1, qi a1), (2, qi a2)]) pn_X4 (Nat.le_of_ble_eq_true rfl) rfl ?_
  unfold Ranking_keyOf at h
  refine q_iload_n dX4_keyOf_0 rfl rfl ?_
  obtain ⟨c1040, h⟩ := qk_some h
  by_cases e3792 : a1 = 0
  · rw [if_pos e3792] at h
    refine q_tsw (tgt := 86) dX4_keyOf_1 (qRb_R c1040) (by decide) (fun g => absurd g (by rw [e3792]; decide)) (fun _ _ => ⟨27, 28, by rw [e3792]; rfl, by decide, ?_⟩)
    refine q_aload_n dX4_keyOf_28 rfl rfl ?_
    refine q_getA dX4_keyOf_29 fl_X4_9 (hL 10 (by decide)) sh_10 (by decide) rfl rfl ?_
    refine q_iload_n dX4_keyOf_32 rfl rfl ?_
    refine q_bipush dX4_keyOf_33 (by decide) rfl ?_
    obtain ⟨q1041, h1042, h⟩ := Option.bind_eq_some_iff.mp h
    refine q_callVi (as := [qi a2, qi 6]) (c := 2) dX4_keyOf_35 ml_X4_28 rfl rfl (hL 2 (by decide)) sh_2 rfl rfl (Nat.le_of_ble_eq_true rfl) (Told_contractOf_ok hL d a2 6 _ _ h1042) rfl ?_
    refine q_sipush dX4_keyOf_38 (by decide) rfl ?_
    refine q_imul dX4_keyOf_41 rfl ?_
    refine q_aload_n dX4_keyOf_42 rfl rfl ?_
    refine q_getA dX4_keyOf_43 fl_X4_9 (hL 10 (by decide)) sh_10 (by decide) rfl rfl ?_
    refine q_iload_n dX4_keyOf_46 rfl rfl ?_
    refine q_iconst dX4_keyOf_47 rfl rfl ?_
    obtain ⟨q1043, h1044, h⟩ := Option.bind_eq_some_iff.mp h
    refine q_callVi (as := [qi a2, qi 4]) (c := 2) dX4_keyOf_48 ml_X4_28 rfl rfl (hL 2 (by decide)) sh_2 rfl rfl (Nat.le_of_ble_eq_true rfl) (Told_contractOf_ok hL d a2 4 _ _ h1044) rfl ?_
    refine q_iadd dX4_keyOf_51 rfl ?_
    cases h
    exact q_ireturn dX4_keyOf_52 rfl hQ
  · rw [if_neg e3792] at h
    by_cases e3793 : a1 = 1
    · rw [if_pos e3793] at h
      refine q_tsw (tgt := 86) dX4_keyOf_1 (qRb_R c1040) (by decide) (fun g => absurd g (by rw [e3793]; decide)) (fun _ _ => ⟨52, 53, by rw [e3793]; rfl, by decide, ?_⟩)
      refine q_aload_n dX4_keyOf_53 rfl rfl ?_
      refine q_getA dX4_keyOf_54 fl_X4_9 (hL 10 (by decide)) sh_10 (by decide) rfl rfl ?_
      refine q_iload_n dX4_keyOf_57 rfl rfl ?_
      refine q_iconst dX4_keyOf_58 rfl rfl ?_
      obtain ⟨q1045, h1046, h⟩ := Option.bind_eq_some_iff.mp h
      refine q_callVi (as := [qi a2, qi 4]) (c := 2) dX4_keyOf_59 ml_X4_28 rfl rfl (hL 2 (by decide)) sh_2 rfl rfl (Nat.le_of_ble_eq_true rfl) (Told_contractOf_ok hL d a2 4 _ _ h1046) rfl ?_
      refine q_iconst dX4_keyOf_62 rfl rfl ?_
      refine q_imul dX4_keyOf_63 rfl ?_
      refine q_aload_n dX4_keyOf_64 rfl rfl ?_
      refine q_getA dX4_keyOf_65 fl_X4_9 (hL 10 (by decide)) sh_10 (by decide) rfl rfl ?_
      refine q_iload_n dX4_keyOf_68 rfl rfl ?_
      refine q_bipush dX4_keyOf_69 (by decide) rfl ?_
      obtain ⟨q1047, h1048, h⟩ := Option.bind_eq_some_iff.mp h
      refine q_callVi (as := [qi a2, qi 6]) (c := 2) dX4_keyOf_71 ml_X4_28 rfl rfl (hL 2 (by decide)) sh_2 rfl rfl (Nat.le_of_ble_eq_true rfl) (Told_contractOf_ok hL d a2 6 _ _ h1048) rfl ?_
      refine q_iadd dX4_keyOf_74 rfl ?_
      cases h
      exact q_ireturn dX4_keyOf_75 rfl hQ
    · rw [if_neg e3793] at h
      by_cases e3794 : a1 = 2
      · rw [if_pos e3794] at h
        refine q_tsw (tgt := 86) dX4_keyOf_1 (qRb_R c1040) (by decide) (fun g => absurd g (by rw [e3794]; decide)) (fun _ _ => ⟨75, 76, by rw [e3794]; rfl, by decide, ?_⟩)
        refine q_aload_n dX4_keyOf_76 rfl rfl ?_
        refine q_getA dX4_keyOf_77 fl_X4_9 (hL 10 (by decide)) sh_10 (by decide) rfl rfl ?_
        refine q_iload_n dX4_keyOf_80 rfl rfl ?_
        refine q_iconst dX4_keyOf_81 rfl rfl ?_
        obtain ⟨q1049, h1050, h⟩ := Option.bind_eq_some_iff.mp h
        refine q_callVi (as := [qi a2, qi 5]) (c := 2) dX4_keyOf_82 ml_X4_28 rfl rfl (hL 2 (by decide)) sh_2 rfl rfl (Nat.le_of_ble_eq_true rfl) (Told_contractOf_ok hL d a2 5 _ _ h1050) rfl ?_
        cases h
        exact q_ireturn dX4_keyOf_85 rfl hQ
      · rw [if_neg e3794] at h
        refine q_tsw (tgt := 86) dX4_keyOf_1 (qRb_R c1040) (by decide) (fun _ => ?_) (fun g1 g2 => absurd g1 (by omega))
        refine q_aload_n dX4_keyOf_86 rfl rfl ?_
        refine q_getA dX4_keyOf_87 fl_X4_9 (hL 10 (by decide)) sh_10 (by decide) rfl rfl ?_
        refine q_iload_n dX4_keyOf_90 rfl rfl ?_
        refine q_iconst dX4_keyOf_91 rfl rfl ?_
        obtain ⟨q1051, h1052, h⟩ := Option.bind_eq_some_iff.mp h
        refine q_callVi (as := [qi a2, qi 0]) (c := 2) dX4_keyOf_92 ml_X4_28 rfl rfl (hL 2 (by decide)) sh_2 rfl rfl (Nat.le_of_ble_eq_true rfl) (Told_contractOf_ok hL d a2 0 _ _ h1052) rfl ?_
        refine q_ineg dX4_keyOf_95 rfl ?_
        cases h
        exact q_ireturn dX4_keyOf_96 rfl hQ
set_option maxRecDepth 20000 in
theorem Ranking_shipsAhead_L13_ok {X : qX} (hL : ∀ c, c < 93 → c ∈ qLs X) (d : Nat) {Q : Option qV → qSto → Prop} : ∀ (n : Nat) (x1 : Int) (x2 : Int) (x3 : Int) (x4 : Int) (x5 : Int) (S : qSto) (o : (Int × qSto)), Ranking_shipsAhead_L13 n x1 x2 x3 x4 x5 S = some o → (qW X (d + 2) yX4_shipsAhead cX4_shipsAhead 7 (some .int) 61 [(4, qi o.1)] [] o.2 Q) → qW X (d + 2) yX4_shipsAhead cX4_shipsAhead 7 (some .int) 13 [(0, qr 10), (1, qi x1), (2, qi x2), (3, qi x3), (4, qi x4), (5, qi x5)] [] S Q := by
  intro n
  induction n with
  | zero =>
    intro x1 x2 x3 x4 x5 S o h
    simp [Ranking_shipsAhead_L13] at h
  | succ n ih =>
    intro x1 x2 x3 x4 x5 S o h hE
    rw [Ranking_shipsAhead_L13] at h
    refine q_iload dX4_shipsAhead_13 rfl rfl ?_
    refine q_aload_n dX4_shipsAhead_15 rfl rfl ?_
    refine q_getA dX4_shipsAhead_16 fl_X4_9 (hL 10 (by decide)) sh_10 (by decide) rfl rfl ?_
    refine q_getI dX4_shipsAhead_19 fl_X4_15 (hL 2 (by decide)) sh_2 (by decide) rfl rfl ?_
    obtain ⟨c1055, h⟩ := qk_some h
    obtain ⟨c1056, h⟩ := qk_some h
    refine q_icmp_ge (tgt := 61) dX4_shipsAhead_22 (by decide) rfl (qRb_R c1055) (qRb_R c1056) (fun g => ?_) (fun g => ?_)
    · rw [if_pos (show (S 2 12) ≤ x5 from g)] at h
      cases h
      exact q_pick [4] rfl (hE)
    · rw [if_neg (show ¬ ((S 2 12) ≤ x5) from g)] at h
      refine q_aload_n dX4_shipsAhead_25 rfl rfl ?_
      refine q_iload_n dX4_shipsAhead_26 rfl rfl ?_
      refine q_iload dX4_shipsAhead_27 rfl rfl ?_
      obtain ⟨q1057, h1058, h⟩ := Option.bind_eq_some_iff.mp h
      refine q_callVi (as := [qi x1, qi x5]) (c := 10) dX4_shipsAhead_29 ml_X4_25 rfl rfl (hL 10 (by decide)) sh_10 rfl rfl (Nat.le_of_ble_eq_true rfl) (Ranking_keyOf_ok hL d x1 x5 _ _ h1058) rfl ?_
      refine q_istore (lv' := [(6, qi q1057.1), (0, qr 10), (1, qi x1), (2, qi x2), (3, qi x3), (4, qi x4), (5, qi x5)]) dX4_shipsAhead_32 (by decide) rfl rfl ?_
      refine q_iload dX4_shipsAhead_34 rfl rfl ?_
      refine q_iload_n dX4_shipsAhead_36 rfl rfl ?_
      refine q_jn (G := fun (t1065 : Int) => qW X (d + 2) yX4_shipsAhead cX4_shipsAhead 7 (some .int) 55 [(0, qr 10), (1, qi x1), (2, qi x2), (3, qi x3), (4, qi t1065), (5, qi x5)] [] q1057.2 Q) h (fun t1065 h => ?_) (fun t1065 h hk3795 => ?_)
      · try dsimp only at h
        refine q_iinc (lv' := [(5, qi (x5 + 1)), (0, qr 10), (1, qi x1), (2, qi x2), (3, qi x3), (4, qi t1065)]) dX4_shipsAhead_55 (by decide) rfl rfl rfl ?_
        refine q_goto (pc' := 13) dX4_shipsAhead_58 (by decide) ?_
        exact q_pick [1, 2, 3, 4, 5, 0] rfl (ih x1 x2 x3 t1065 (x5 + 1) _ _ h hE)
      · skip
        obtain ⟨c1059, h⟩ := qk_some h
        obtain ⟨c1060, h⟩ := qk_some h
        refine q_icmp_lt (tgt := 52) dX4_shipsAhead_37 (by decide) rfl (qRb_R c1059) (qRb_R c1060) (fun g => ?_) (fun g => ?_)
        · rw [if_pos (show q1057.1 < x3 from g)] at h
          refine q_iinc (lv' := [(4, qi (x4 + 1)), (6, qi q1057.1), (0, qr 10), (1, qi x1), (2, qi x2), (3, qi x3), (5, qi x5)]) dX4_shipsAhead_52 (by decide) rfl rfl rfl ?_
          cases h
          exact q_pick [2, 3, 4, 5, 0, 6] rfl hk3795
        · rw [if_neg (show ¬ (q1057.1 < x3) from g)] at h
          refine q_iload dX4_shipsAhead_40 rfl rfl ?_
          refine q_iload_n dX4_shipsAhead_42 rfl rfl ?_
          obtain ⟨c1061, h⟩ := qk_some h
          obtain ⟨c1062, h⟩ := qk_some h
          refine q_icmp_ne (tgt := 55) dX4_shipsAhead_43 (by decide) rfl (qRb_R c1061) (qRb_R c1062) (fun g => ?_) (fun g => ?_)
          · rw [if_neg (show ¬ (q1057.1 = x3) from g)] at h
            cases h
            exact q_pick [1, 2, 3, 4, 5, 6] rfl hk3795
          · rw [if_pos (show q1057.1 = x3 from g)] at h
            refine q_iload dX4_shipsAhead_46 rfl rfl ?_
            refine q_iload_n dX4_shipsAhead_48 rfl rfl ?_
            obtain ⟨c1063, h⟩ := qk_some h
            obtain ⟨c1064, h⟩ := qk_some h
            refine q_icmp_ge (tgt := 55) dX4_shipsAhead_49 (by decide) rfl (qRb_R c1063) (qRb_R c1064) (fun g => ?_) (fun g => ?_)
            · rw [if_pos (show x2 ≤ x5 from g)] at h
              cases h
              exact q_pick [1, 2, 3, 4, 5, 6] rfl hk3795
            · rw [if_neg (show ¬ (x2 ≤ x5) from g)] at h
              refine q_iinc (lv' := [(4, qi (x4 + 1)), (6, qi q1057.1), (0, qr 10), (1, qi x1), (2, qi x2), (3, qi x3), (5, qi x5)]) dX4_shipsAhead_52 (by decide) rfl rfl rfl ?_
              cases h
              exact q_pick [2, 3, 4, 5, 0, 6] rfl hk3795
set_option maxRecDepth 20000 in
theorem Ranking_shipsAhead_ok {X : qX} (hL : ∀ c, c < 93 → c ∈ qLs X) (d : Nat) (a1 : Int) (a2 : Int) (S : qSto) (o : (Int × qSto)) (h : Ranking_shipsAhead a1 a2 S = some o) (Q : Option qV → qSto → Prop) (hQ : Q (some (qi o.1)) o.2) : qC X (d + 2) yX4_shipsAhead cX4_shipsAhead 7 (some .int) [qr 10, qi a1, qi a2] S Q := by
  refine q_entry (lv := [(0, qr 10), (1, qi a1), (2, qi a2)]) pn_X4 (Nat.le_of_ble_eq_true rfl) rfl ?_
  unfold Ranking_shipsAhead at h
  refine q_aload_n dX4_shipsAhead_0 rfl rfl ?_
  refine q_iload_n dX4_shipsAhead_1 rfl rfl ?_
  refine q_iload_n dX4_shipsAhead_2 rfl rfl ?_
  obtain ⟨q1053, h1054, h⟩ := Option.bind_eq_some_iff.mp h
  refine q_callVi (as := [qi a1, qi a2]) (c := 10) dX4_shipsAhead_3 ml_X4_25 rfl rfl (hL 10 (by decide)) sh_10 rfl rfl (Nat.le_of_ble_eq_true rfl) (Ranking_keyOf_ok hL d a1 a2 _ _ h1054) rfl ?_
  refine q_istore_n (lv' := [(3, qi q1053.1), (0, qr 10), (1, qi a1), (2, qi a2)]) dX4_shipsAhead_6 (by decide) rfl rfl ?_
  refine q_iconst dX4_shipsAhead_7 rfl rfl ?_
  refine q_istore (lv' := [(4, qi 0), (3, qi q1053.1), (0, qr 10), (1, qi a1), (2, qi a2)]) dX4_shipsAhead_8 (by decide) rfl rfl ?_
  refine q_iconst dX4_shipsAhead_10 rfl rfl ?_
  refine q_istore (lv' := [(5, qi 0), (4, qi 0), (3, qi q1053.1), (0, qr 10), (1, qi a1), (2, qi a2)]) dX4_shipsAhead_11 (by decide) rfl rfl ?_
  obtain ⟨q1066, h1067, h⟩ := Option.bind_eq_some_iff.mp h
  refine q_pick [3, 4, 5, 2, 1, 0] rfl (Ranking_shipsAhead_L13_ok hL d qF a1 a2 q1053.1 0 0 _ _ h1067 ?_)
  refine q_iload dX4_shipsAhead_61 rfl rfl ?_
  cases h
  exact q_ireturn dX4_shipsAhead_63 rfl hQ
set_option maxRecDepth 20000 in
theorem Ranking_shipAt_L2_ok {X : qX} (hL : ∀ c, c < 93 → c ∈ qLs X) (d : Nat) {Q : Option qV → qSto → Prop} : ∀ (n : Nat) (x1 : Int) (x2 : Int) (x3 : Int) (S : qSto) (o : (qSto ⊕ (Int × qSto))), Ranking_shipAt_L2 n x1 x2 x3 S = some o → (∀ t, o = Sum.inl t → qW X (d + 3) yX4_shipAt cX4_shipAt 4 (some .int) 31 [] [] t Q) → (∀ w, o = Sum.inr w → Q (some (qi w.1)) w.2) → qW X (d + 3) yX4_shipAt cX4_shipAt 4 (some .int) 2 [(0, qr 10), (1, qi x1), (2, qi x2), (3, qi x3)] [] S Q := by
  intro n
  induction n with
  | zero =>
    intro x1 x2 x3 S o h
    simp [Ranking_shipAt_L2] at h
  | succ n ih =>
    intro x1 x2 x3 S o h hE hR
    rw [Ranking_shipAt_L2] at h
    refine q_iload_n dX4_shipAt_2 rfl rfl ?_
    refine q_aload_n dX4_shipAt_3 rfl rfl ?_
    refine q_getA dX4_shipAt_4 fl_X4_9 (hL 10 (by decide)) sh_10 (by decide) rfl rfl ?_
    refine q_getI dX4_shipAt_7 fl_X4_15 (hL 2 (by decide)) sh_2 (by decide) rfl rfl ?_
    obtain ⟨c1038, h⟩ := qk_some h
    obtain ⟨c1039, h⟩ := qk_some h
    refine q_icmp_ge (tgt := 31) dX4_shipAt_10 (by decide) rfl (qRb_R c1038) (qRb_R c1039) (fun g => ?_) (fun g => ?_)
    · rw [if_pos (show (S 2 12) ≤ x3 from g)] at h
      cases h
      exact q_pick [] rfl (hE _ rfl)
    · rw [if_neg (show ¬ ((S 2 12) ≤ x3) from g)] at h
      refine q_aload_n dX4_shipAt_13 rfl rfl ?_
      refine q_iload_n dX4_shipAt_14 rfl rfl ?_
      refine q_iload_n dX4_shipAt_15 rfl rfl ?_
      obtain ⟨q1068, h1069, h⟩ := Option.bind_eq_some_iff.mp h
      refine q_callVi (as := [qi x1, qi x3]) (c := 10) dX4_shipAt_16 ml_X4_21 rfl rfl (hL 10 (by decide)) sh_10 rfl rfl (Nat.le_of_ble_eq_true rfl) (Ranking_shipsAhead_ok hL d x1 x3 _ _ h1069) rfl ?_
      refine q_iload_n dX4_shipAt_19 rfl rfl ?_
      obtain ⟨c1070, h⟩ := qk_some h
      obtain ⟨c1071, h⟩ := qk_some h
      refine q_icmp_ne (tgt := 25) dX4_shipAt_20 (by decide) rfl (qRb_R c1070) (qRb_R c1071) (fun g => ?_) (fun g => ?_)
      · rw [if_neg (show ¬ (q1068.1 = x2) from g)] at h
        refine q_iinc (lv' := [(3, qi (x3 + 1)), (0, qr 10), (1, qi x1), (2, qi x2)]) dX4_shipAt_25 (by decide) rfl rfl rfl ?_
        refine q_goto (pc' := 2) dX4_shipAt_28 (by decide) ?_
        exact q_pick [1, 2, 3, 0] rfl (ih x1 x2 (x3 + 1) _ _ h hE hR)
      · rw [if_pos (show q1068.1 = x2 from g)] at h
        refine q_iload_n dX4_shipAt_23 rfl rfl ?_
        cases h
        exact q_ireturn dX4_shipAt_24 rfl (hR _ rfl)
set_option maxRecDepth 20000 in
theorem Ranking_shipAt_ok {X : qX} (hL : ∀ c, c < 93 → c ∈ qLs X) (d : Nat) (a1 : Int) (a2 : Int) (S : qSto) (o : (Int × qSto)) (h : Ranking_shipAt a1 a2 S = some o) (Q : Option qV → qSto → Prop) (hQ : Q (some (qi o.1)) o.2) : qC X (d + 3) yX4_shipAt cX4_shipAt 4 (some .int) [qr 10, qi a1, qi a2] S Q := by
  refine q_entry (lv := [(0, qr 10), (1, qi a1), (2, qi a2)]) pn_X4 (Nat.le_of_ble_eq_true rfl) rfl ?_
  unfold Ranking_shipAt at h
  refine q_iconst dX4_shipAt_0 rfl rfl ?_
  refine q_istore_n (lv' := [(3, qi 0), (0, qr 10), (1, qi a1), (2, qi a2)]) dX4_shipAt_1 (by decide) rfl rfl ?_
  obtain ⟨q1072, h1073, h⟩ := Option.bind_eq_some_iff.mp h
  refine q_pick [1, 2, 3, 0] rfl (Ranking_shipAt_L2_ok hL d qF a1 a2 0 _ _ h1073 (fun t1074 e3796 => ?_) (fun w e3796 => ?_))
  · subst e3796
    simp only [Sum.elim_inl] at h
    refine q_iconst dX4_shipAt_31 rfl rfl ?_
    cases h
    exact q_ireturn dX4_shipAt_32 rfl hQ
  · subst e3796
    simp only [Sum.elim_inr] at h
    cases h
    exact hQ
set_option maxRecDepth 20000 in
theorem C_order_ok {X : qX} (hL : ∀ c, c < 93 → c ∈ qLs X) (d : Nat) (a1 : Int) (a2 : Int) (S : qSto) (o : (Int × qSto)) (h : C_order a1 a2 S = some o) (Q : Option qV → qSto → Prop) (hQ : Q (some (qi o.1)) o.2) : qC X (d + 4) yX11_order cX11_order 3 (some .int) [qr 0, qi a1, qi a2] S Q := by
  refine q_entry (lv := [(0, qr 0), (1, qi a1), (2, qi a2)]) pn_X11 (Nat.le_of_ble_eq_true rfl) rfl ?_
  unfold C_order at h
  refine q_iload_n dX11_order_0 rfl rfl ?_
  obtain ⟨q1032, h1033, h⟩ := Option.bind_eq_some_iff.mp h
  refine q_callSi (as := [qi a1]) dX11_order_1 ml_X11_344 rfl rfl (Nat.le_of_ble_eq_true rfl) (C_isRule_ok hL (d + 3) a1 _ _ h1033) rfl ?_
  obtain ⟨c1034, h⟩ := qk_some h
  refine q_if_eq (tgt := 11) dX11_order_4 (by decide) rfl (qRb_R c1034)  (fun g => ?_) (fun g => ?_)
  · rw [if_pos (show q1032.1 = 0 from g)] at h
    refine q_iconst dX11_order_11 rfl rfl ?_
    cases h
    exact q_ireturn dX11_order_12 rfl hQ
  · rw [if_neg (show ¬ (q1032.1 = 0) from g)] at h
    refine q_iload_n dX11_order_7 rfl rfl ?_
    obtain ⟨c1035, h⟩ := qk_some h
    refine q_if_ge (tgt := 13) dX11_order_8 (by decide) rfl (qRb_R c1035)  (fun g => ?_) (fun g => ?_)
    · rw [if_pos (show 0 ≤ a2 from g)] at h
      refine q_iload_n dX11_order_13 rfl rfl ?_
      refine q_aload_n dX11_order_14 rfl rfl ?_
      refine q_getA dX11_order_15 fl_X11_16 (hL 0 (by decide)) sh_0 (by decide) rfl rfl ?_
      refine q_getI dX11_order_18 fl_X11_158 (hL 2 (by decide)) sh_2 (by decide) rfl rfl ?_
      obtain ⟨c1036, h⟩ := qk_some h
      obtain ⟨c1037, h⟩ := qk_some h
      refine q_icmp_ge (tgt := 36) dX11_order_21 (by decide) rfl (qRb_R c1036) (qRb_R c1037) (fun g => ?_) (fun g => ?_)
      · rw [if_pos (show (q1032.2 2 12) ≤ a2 from g)] at h
        refine q_bipush dX11_order_36 (by decide) rfl ?_
        cases h
        exact q_ireturn dX11_order_38 rfl hQ
      · rw [if_neg (show ¬ ((q1032.2 2 12) ≤ a2) from g)] at h
        refine q_aload_n dX11_order_24 rfl rfl ?_
        refine q_getA dX11_order_25 fl_X11_83 (hL 0 (by decide)) sh_0 (by decide) rfl rfl ?_
        refine q_iload_n dX11_order_28 rfl rfl ?_
        refine q_iload_n dX11_order_29 rfl rfl ?_
        obtain ⟨q1075, h1076, h⟩ := Option.bind_eq_some_iff.mp h
        refine q_callVi (as := [qi a1, qi a2]) (c := 10) dX11_order_30 ml_X11_347 rfl rfl (hL 10 (by decide)) sh_10 rfl rfl (Nat.le_of_ble_eq_true rfl) (Ranking_shipAt_ok hL d a1 a2 _ _ h1076) rfl ?_
        refine q_goto (pc' := 38) dX11_order_33 (by decide) ?_
        cases h
        exact q_ireturn dX11_order_38 rfl hQ
    · rw [if_neg (show ¬ (0 ≤ a2) from g)] at h
      refine q_iconst dX11_order_11 rfl rfl ?_
      cases h
      exact q_ireturn dX11_order_12 rfl hQ
set_option maxRecDepth 20000 in
theorem C_all_L44_ok {X : qX} (hL : ∀ c, c < 93 → c ∈ qLs X) (d : Nat) {Q : Option qV → qSto → Prop} : ∀ (n : Nat) (x1 : Int) (x2 : Int) (x3 : Int) (S : qSto) (o : (Int × qSto)), C_all_L44 n x1 x2 x3 S = some o → (qW X (d + 6) yX11_all cX11_all 5 (some .int) 102 [(0, qr 0), (2, qi o.1)] [] o.2 Q) → qW X (d + 6) yX11_all cX11_all 5 (some .int) 44 [(0, qr 0), (1, qi x1), (2, qi x2), (3, qi x3)] [] S Q := by
  intro n
  induction n with
  | zero =>
    intro x1 x2 x3 S o h
    simp [C_all_L44] at h
  | succ n ih =>
    intro x1 x2 x3 S o h hE
    rw [C_all_L44] at h
    refine q_iload_n dX11_all_44 rfl rfl ?_
    refine q_aload_n dX11_all_45 rfl rfl ?_
    refine q_getA dX11_all_46 fl_X11_16 (hL 0 (by decide)) sh_0 (by decide) rfl rfl ?_
    refine q_getI dX11_all_49 fl_X11_158 (hL 2 (by decide)) sh_2 (by decide) rfl rfl ?_
    obtain ⟨c1086, h⟩ := qk_some h
    obtain ⟨c1087, h⟩ := qk_some h
    refine q_icmp_ge (tgt := 102) dX11_all_52 (by decide) rfl (qRb_R c1086) (qRb_R c1087) (fun g => ?_) (fun g => ?_)
    · rw [if_pos (show (S 2 12) ≤ x3 from g)] at h
      cases h
      exact q_pick [0, 2] rfl (hE)
    · rw [if_neg (show ¬ ((S 2 12) ≤ x3) from g)] at h
      refine q_aload_n dX11_all_55 rfl rfl ?_
      refine q_getA dX11_all_56 fl_X11_83 (hL 0 (by decide)) sh_0 (by decide) rfl rfl ?_
      refine q_iload_n dX11_all_59 rfl rfl ?_
      refine q_iload_n dX11_all_60 rfl rfl ?_
      obtain ⟨q1088, h1089, h⟩ := Option.bind_eq_some_iff.mp h
      refine q_callVi (as := [qi x1, qi x3]) (c := 10) dX11_all_61 ml_X11_347 rfl rfl (hL 10 (by decide)) sh_10 rfl rfl (Nat.le_of_ble_eq_true rfl) (Ranking_shipAt_ok hL (d + 2) x1 x3 _ _ h1089) rfl ?_
      refine q_istore (lv' := [(4, qi q1088.1), (0, qr 0), (1, qi x1), (2, qi x2), (3, qi x3)]) dX11_all_64 (by decide) rfl rfl ?_
      refine q_iload dX11_all_66 rfl rfl ?_
      refine q_iconst dX11_all_68 rfl rfl ?_
      refine q_jn (G := fun (t1097 : (Int × qSto)) => qW X (d + 6) yX11_all cX11_all 5 (some .int) 96 [(0, qr 0), (1, qi x1), (2, qi t1097.1), (3, qi x3)] [] t1097.2 Q) h (fun t1097 h => ?_) (fun t1097 h hk3797 => ?_)
      · try dsimp only at h
        refine q_iinc (lv' := [(3, qi (x3 + 1)), (0, qr 0), (1, qi x1), (2, qi t1097.1)]) dX11_all_96 (by decide) rfl rfl rfl ?_
        refine q_goto (pc' := 44) dX11_all_99 (by decide) ?_
        exact q_pick [1, 2, 3, 0] rfl (ih x1 t1097.1 (x3 + 1) _ _ h hE)
      · skip
        obtain ⟨c1090, h⟩ := qk_some h
        refine q_icmp_eq (tgt := 96) dX11_all_69 (by decide) rfl (qRb_R c1090) ⟨by decide, by decide⟩ (fun g => ?_) (fun g => ?_)
        · rw [if_pos (show q1088.1 = (-1) from g)] at h
          cases h
          exact q_pick [1, 2, 3, 4] rfl hk3797
        · rw [if_neg (show ¬ (q1088.1 = (-1)) from g)] at h
          refine q_aload_n dX11_all_72 rfl rfl ?_
          refine q_getA dX11_all_73 fl_X11_49 (hL 0 (by decide)) sh_0 (by decide) rfl rfl ?_
          refine q_iload dX11_all_76 rfl rfl ?_
          obtain ⟨q1091, h1092, h⟩ := Option.bind_eq_some_iff.mp h
          refine q_callVi (as := [qi q1088.1]) (c := 6) dX11_all_78 ml_X11_178 rfl rfl (hL 6 (by decide)) sh_6 rfl rfl (Nat.le_of_ble_eq_true rfl) (Stays_has_ok hL (d + 5) q1088.1 _ _ h1092) rfl ?_
          obtain ⟨c1093, h⟩ := qk_some h
          refine q_if_ne (tgt := 96) dX11_all_81 (by decide) rfl (qRb_R c1093)  (fun g => ?_) (fun g => ?_)
          · rw [if_neg (show ¬ (q1091.1 = 0) from g)] at h
            cases h
            exact q_pick [1, 2, 3, 4] rfl hk3797
          · rw [if_pos (show q1091.1 = 0 from g)] at h
            refine q_aload_n dX11_all_84 rfl rfl ?_
            refine q_iload dX11_all_85 rfl rfl ?_
            obtain ⟨q1094, h1095, h⟩ := Option.bind_eq_some_iff.mp h
            refine q_callVi (as := [qi q1088.1]) (c := 0) dX11_all_87 ml_X11_309 rfl rfl (hL 0 (by decide)) sh_0 rfl rfl (Nat.le_of_ble_eq_true rfl) (C_layByItself_ok hL d q1088.1 _ _ h1095) rfl ?_
            obtain ⟨c1096, h⟩ := qk_some h
            refine q_if_eq (tgt := 96) dX11_all_90 (by decide) rfl (qRb_R c1096)  (fun g => ?_) (fun g => ?_)
            · rw [if_pos (show q1094.1 = 0 from g)] at h
              cases h
              exact q_pick [1, 2, 3, 4] rfl hk3797
            · rw [if_neg (show ¬ (q1094.1 = 0) from g)] at h
              refine q_iinc (lv' := [(2, qi (x2 + 1)), (4, qi q1088.1), (0, qr 0), (1, qi x1), (3, qi x3)]) dX11_all_93 (by decide) rfl rfl rfl ?_
              cases h
              exact q_pick [2, 3, 0, 4] rfl hk3797
set_option maxRecDepth 20000 in
theorem C_all_ok {X : qX} (hL : ∀ c, c < 93 → c ∈ qLs X) (d : Nat) (a1 : Int) (S : qSto) (o : (Int × qSto)) (h : C_all a1 S = some o) (Q : Option qV → qSto → Prop) (hQ : Q (some (qi o.1)) o.2) : qC X (d + 6) yX11_all cX11_all 5 (some .int) [qr 0, qi a1] S Q := by
  refine q_entry (lv := [(0, qr 0), (1, qi a1)]) pn_X11 (Nat.le_of_ble_eq_true rfl) rfl ?_
  unfold C_all at h
  refine q_iload_n dX11_all_0 rfl rfl ?_
  obtain ⟨q1077, h1078, h⟩ := Option.bind_eq_some_iff.mp h
  refine q_callSi (as := [qi a1]) dX11_all_1 ml_X11_344 rfl rfl (Nat.le_of_ble_eq_true rfl) (C_isRule_ok hL (d + 5) a1 _ _ h1078) rfl ?_
  obtain ⟨c1079, h⟩ := qk_some h
  refine q_if_ne (tgt := 9) dX11_all_4 (by decide) rfl (qRb_R c1079)  (fun g => ?_) (fun g => ?_)
  · rw [if_neg (show ¬ (q1077.1 = 0) from g)] at h
    refine q_aload_n dX11_all_9 rfl rfl ?_
    refine q_getA dX11_all_10 fl_X11_49 (hL 0 (by decide)) sh_0 (by decide) rfl rfl ?_
    obtain ⟨q1080, h1081, h⟩ := Option.bind_eq_some_iff.mp h
    refine q_callVi (as := []) (c := 6) dX11_all_13 ml_X11_161 rfl rfl (hL 6 (by decide)) sh_6 rfl rfl (Nat.le_of_ble_eq_true rfl) (Stays_howMany_ok hL (d + 4) _ _ h1081) rfl ?_
    refine q_aload_n dX11_all_16 rfl rfl ?_
    refine q_getA dX11_all_17 fl_X11_16 (hL 0 (by decide)) sh_0 (by decide) rfl rfl ?_
    refine q_getI dX11_all_20 fl_X11_158 (hL 2 (by decide)) sh_2 (by decide) rfl rfl ?_
    obtain ⟨c1082, h⟩ := qk_some h
    obtain ⟨c1083, h⟩ := qk_some h
    refine q_icmp_ne (tgt := 29) dX11_all_23 (by decide) rfl (qRb_R c1082) (qRb_R c1083) (fun g => ?_) (fun g => ?_)
    · rw [if_neg (show ¬ (q1080.1 = (q1080.2 2 12)) from g)] at h
      refine q_aload_n dX11_all_29 rfl rfl ?_
      refine q_getA dX11_all_30 fl_X11_49 (hL 0 (by decide)) sh_0 (by decide) rfl rfl ?_
      refine q_aload_n dX11_all_33 rfl rfl ?_
      refine q_getA dX11_all_34 fl_X11_110 (hL 0 (by decide)) sh_0 (by decide) rfl rfl ?_
      obtain ⟨q1084, h1085, h⟩ := Option.bind_eq_some_iff.mp h
      refine q_callVv (as := [qr 14]) (c := 6) dX11_all_37 ml_X11_295 rfl rfl (hL 6 (by decide)) sh_6 rfl rfl (Nat.le_of_ble_eq_true rfl) (Stays_save_14_ok hL (d + 5) _ _ h1085) rfl ?_
      refine q_iconst dX11_all_40 rfl rfl ?_
      refine q_istore_n (lv' := [(2, qi 0), (0, qr 0), (1, qi a1)]) dX11_all_41 (by decide) rfl rfl ?_
      refine q_iconst dX11_all_42 rfl rfl ?_
      refine q_istore_n (lv' := [(3, qi 0), (2, qi 0), (0, qr 0), (1, qi a1)]) dX11_all_43 (by decide) rfl rfl ?_
      obtain ⟨q1098, h1099, h⟩ := Option.bind_eq_some_iff.mp h
      refine q_pick [2, 3, 1, 0] rfl (C_all_L44_ok hL d qF a1 0 0 _ _ h1099 ?_)
      refine q_aload_n dX11_all_102 rfl rfl ?_
      obtain ⟨q1100, h1101, h⟩ := Option.bind_eq_some_iff.mp h
      refine q_callVv (as := []) (c := 0) dX11_all_103 ml_X11_303 rfl rfl (hL 0 (by decide)) sh_0 rfl rfl (Nat.le_of_ble_eq_true rfl) (C_keepAct_ok hL (d + 4) _ _ h1101) rfl ?_
      refine q_iload_n dX11_all_106 rfl rfl ?_
      cases h
      exact q_ireturn dX11_all_107 rfl hQ
    · rw [if_pos (show q1080.1 = (q1080.2 2 12) from g)] at h
      refine q_bipush dX11_all_26 (by decide) rfl ?_
      cases h
      exact q_ireturn dX11_all_28 rfl hQ
  · rw [if_pos (show q1077.1 = 0 from g)] at h
    refine q_iconst dX11_all_7 rfl rfl ?_
    cases h
    exact q_ireturn dX11_all_8 rfl hQ
set_option maxRecDepth 20000 in
theorem FirstFour_tryFrom_n4_ok {X : qX} (hL : ∀ c, c < 93 → c ∈ qLs X) (d : Nat) (a2 : Int) (a3 : Int) (a4 : Int) (S : qSto) (o : qSto) (h : FirstFour_tryFrom_n4 a2 a3 a4 S = some o) (Q : Option qV → qSto → Prop) (hQ : Q none o) : qC X d yX1_tryFrom cX1_tryFrom 7 none [qr 11, qi 4, qi a2, qi a3, qi a4] S Q := by
  refine q_entry (lv := [(0, qr 11), (1, qi 4), (2, qi a2), (3, qi a3), (4, qi a4)]) pn_X1 (Nat.le_of_ble_eq_true rfl) rfl ?_
  unfold FirstFour_tryFrom_n4 at h
  refine q_iload_n dX1_tryFrom_0 rfl rfl ?_
  refine q_aload_n dX1_tryFrom_1 rfl rfl ?_
  refine q_getI dX1_tryFrom_2 fl_X1_64 (hL 11 (by decide)) sh_11 (by decide) rfl rfl ?_
  obtain ⟨c1171, h⟩ := qk_some h
  obtain ⟨c1172, h⟩ := qk_some h
  refine q_icmp_gt (tgt := 25) dX1_tryFrom_5 (by decide) rfl (qRb_R c1171) (qRb_R c1172) (fun g => ?_) (fun g => ?_)
  · rw [if_pos (show (S 11 5) < a3 from g)] at h
    cases h
    exact q_return dX1_tryFrom_25 rfl hQ
  · rw [if_neg (show ¬ ((S 11 5) < a3) from g)] at h
    refine q_iload_n dX1_tryFrom_8 rfl rfl ?_
    refine q_aload_n dX1_tryFrom_9 rfl rfl ?_
    refine q_getI dX1_tryFrom_10 fl_X1_64 (hL 11 (by decide)) sh_11 (by decide) rfl rfl ?_
    obtain ⟨c1173, h⟩ := qk_some h
    obtain ⟨c1174, h⟩ := qk_some h
    refine q_icmp_ne (tgt := 26) dX1_tryFrom_13 (by decide) rfl (qRb_R c1173) (qRb_R c1174) (fun g => ?_) (fun g => ?_)
    · rw [if_neg (show ¬ (a3 = (S 11 5)) from g)] at h
      refine q_iload_n dX1_tryFrom_26 rfl rfl ?_
      refine q_aload_n dX1_tryFrom_27 rfl rfl ?_
      refine q_getI dX1_tryFrom_28 fl_X1_41 (hL 11 (by decide)) sh_11 (by decide) rfl rfl ?_
      obtain ⟨c1175, h⟩ := qk_some h
      refine q_icmp_ge (tgt := 39) dX1_tryFrom_31 (by decide) rfl ⟨by decide, by decide⟩ (qRb_R c1175) (fun g => ?_) (fun g => ?_)
      · rw [if_pos (show (S 11 4) ≤ 4 from g)] at h
        refine q_aload_n dX1_tryFrom_39 rfl rfl ?_
        refine q_iload_n dX1_tryFrom_40 rfl rfl ?_
        refine q_putI dX1_tryFrom_41 fl_X1_64 (hL 11 (by decide)) sh_11 (by decide) pf_1_5 pt_1_5 rfl rfl ?_
        refine q_aload_n dX1_tryFrom_44 rfl rfl ?_
        refine q_iload dX1_tryFrom_45 rfl rfl ?_
        refine q_putI dX1_tryFrom_47 fl_X1_67 (hL 11 (by decide)) sh_11 (by decide) pf_1_6 pt_1_6 rfl rfl ?_
        refine q_aload_n dX1_tryFrom_50 rfl rfl ?_
        refine q_getA dX1_tryFrom_51 fl_X1_18 (hL 11 (by decide)) sh_11 (by decide) rfl rfl ?_
        refine q_iconst dX1_tryFrom_54 rfl rfl ?_
        refine q_aload_n dX1_tryFrom_55 rfl rfl ?_
        refine q_getA dX1_tryFrom_56 fl_X1_9 (hL 11 (by decide)) sh_11 (by decide) rfl rfl ?_
        refine q_iconst dX1_tryFrom_59 rfl rfl ?_
        refine q_iconst dX1_tryFrom_60 rfl rfl ?_
        refine q_copy dX1_tryFrom_61 cw_X1_74 (hL 49 (by decide)) (hL 47 (by decide)) sh_49 sh_47 (by decide) (by decide) (by decide) (by decide) (by decide) (Nat.le_of_ble_eq_true rfl) rfl ?_
        cases h
        exact q_return dX1_tryFrom_64 rfl hQ
      · rw [if_neg (show ¬ ((S 11 4) ≤ 4) from g)] at h
        refine q_iload_n dX1_tryFrom_34 rfl rfl ?_
        refine q_iconst dX1_tryFrom_35 rfl rfl ?_
        refine q_icmp_lt (tgt := 65) dX1_tryFrom_36 (by decide) rfl ⟨by decide, by decide⟩ ⟨by decide, by decide⟩ (fun g => absurd g (by decide)) (fun g => ?_)
        refine q_aload_n dX1_tryFrom_39 rfl rfl ?_
        refine q_iload_n dX1_tryFrom_40 rfl rfl ?_
        refine q_putI dX1_tryFrom_41 fl_X1_64 (hL 11 (by decide)) sh_11 (by decide) pf_1_5 pt_1_5 rfl rfl ?_
        refine q_aload_n dX1_tryFrom_44 rfl rfl ?_
        refine q_iload dX1_tryFrom_45 rfl rfl ?_
        refine q_putI dX1_tryFrom_47 fl_X1_67 (hL 11 (by decide)) sh_11 (by decide) pf_1_6 pt_1_6 rfl rfl ?_
        refine q_aload_n dX1_tryFrom_50 rfl rfl ?_
        refine q_getA dX1_tryFrom_51 fl_X1_18 (hL 11 (by decide)) sh_11 (by decide) rfl rfl ?_
        refine q_iconst dX1_tryFrom_54 rfl rfl ?_
        refine q_aload_n dX1_tryFrom_55 rfl rfl ?_
        refine q_getA dX1_tryFrom_56 fl_X1_9 (hL 11 (by decide)) sh_11 (by decide) rfl rfl ?_
        refine q_iconst dX1_tryFrom_59 rfl rfl ?_
        refine q_iconst dX1_tryFrom_60 rfl rfl ?_
        refine q_copy dX1_tryFrom_61 cw_X1_74 (hL 49 (by decide)) (hL 47 (by decide)) sh_49 sh_47 (by decide) (by decide) (by decide) (by decide) (by decide) (Nat.le_of_ble_eq_true rfl) rfl ?_
        cases h
        exact q_return dX1_tryFrom_64 rfl hQ
    · rw [if_pos (show a3 = (S 11 5) from g)] at h
      refine q_iload dX1_tryFrom_16 rfl rfl ?_
      refine q_aload_n dX1_tryFrom_18 rfl rfl ?_
      refine q_getI dX1_tryFrom_19 fl_X1_67 (hL 11 (by decide)) sh_11 (by decide) rfl rfl ?_
      obtain ⟨c1176, h⟩ := qk_some h
      obtain ⟨c1177, h⟩ := qk_some h
      refine q_icmp_lt (tgt := 26) dX1_tryFrom_22 (by decide) rfl (qRb_R c1176) (qRb_R c1177) (fun g => ?_) (fun g => ?_)
      · rw [if_pos (show a4 < (S 11 6) from g)] at h
        refine q_iload_n dX1_tryFrom_26 rfl rfl ?_
        refine q_aload_n dX1_tryFrom_27 rfl rfl ?_
        refine q_getI dX1_tryFrom_28 fl_X1_41 (hL 11 (by decide)) sh_11 (by decide) rfl rfl ?_
        obtain ⟨c1178, h⟩ := qk_some h
        refine q_icmp_ge (tgt := 39) dX1_tryFrom_31 (by decide) rfl ⟨by decide, by decide⟩ (qRb_R c1178) (fun g => ?_) (fun g => ?_)
        · rw [if_pos (show (S 11 4) ≤ 4 from g)] at h
          refine q_aload_n dX1_tryFrom_39 rfl rfl ?_
          refine q_iload_n dX1_tryFrom_40 rfl rfl ?_
          refine q_putI dX1_tryFrom_41 fl_X1_64 (hL 11 (by decide)) sh_11 (by decide) pf_1_5 pt_1_5 rfl rfl ?_
          refine q_aload_n dX1_tryFrom_44 rfl rfl ?_
          refine q_iload dX1_tryFrom_45 rfl rfl ?_
          refine q_putI dX1_tryFrom_47 fl_X1_67 (hL 11 (by decide)) sh_11 (by decide) pf_1_6 pt_1_6 rfl rfl ?_
          refine q_aload_n dX1_tryFrom_50 rfl rfl ?_
          refine q_getA dX1_tryFrom_51 fl_X1_18 (hL 11 (by decide)) sh_11 (by decide) rfl rfl ?_
          refine q_iconst dX1_tryFrom_54 rfl rfl ?_
          refine q_aload_n dX1_tryFrom_55 rfl rfl ?_
          refine q_getA dX1_tryFrom_56 fl_X1_9 (hL 11 (by decide)) sh_11 (by decide) rfl rfl ?_
          refine q_iconst dX1_tryFrom_59 rfl rfl ?_
          refine q_iconst dX1_tryFrom_60 rfl rfl ?_
          refine q_copy dX1_tryFrom_61 cw_X1_74 (hL 49 (by decide)) (hL 47 (by decide)) sh_49 sh_47 (by decide) (by decide) (by decide) (by decide) (by decide) (Nat.le_of_ble_eq_true rfl) rfl ?_
          cases h
          exact q_return dX1_tryFrom_64 rfl hQ
        · rw [if_neg (show ¬ ((S 11 4) ≤ 4) from g)] at h
          refine q_iload_n dX1_tryFrom_34 rfl rfl ?_
          refine q_iconst dX1_tryFrom_35 rfl rfl ?_
          refine q_icmp_lt (tgt := 65) dX1_tryFrom_36 (by decide) rfl ⟨by decide, by decide⟩ ⟨by decide, by decide⟩ (fun g => absurd g (by decide)) (fun g => ?_)
          refine q_aload_n dX1_tryFrom_39 rfl rfl ?_
          refine q_iload_n dX1_tryFrom_40 rfl rfl ?_
          refine q_putI dX1_tryFrom_41 fl_X1_64 (hL 11 (by decide)) sh_11 (by decide) pf_1_5 pt_1_5 rfl rfl ?_
          refine q_aload_n dX1_tryFrom_44 rfl rfl ?_
          refine q_iload dX1_tryFrom_45 rfl rfl ?_
          refine q_putI dX1_tryFrom_47 fl_X1_67 (hL 11 (by decide)) sh_11 (by decide) pf_1_6 pt_1_6 rfl rfl ?_
          refine q_aload_n dX1_tryFrom_50 rfl rfl ?_
          refine q_getA dX1_tryFrom_51 fl_X1_18 (hL 11 (by decide)) sh_11 (by decide) rfl rfl ?_
          refine q_iconst dX1_tryFrom_54 rfl rfl ?_
          refine q_aload_n dX1_tryFrom_55 rfl rfl ?_
          refine q_getA dX1_tryFrom_56 fl_X1_9 (hL 11 (by decide)) sh_11 (by decide) rfl rfl ?_
          refine q_iconst dX1_tryFrom_59 rfl rfl ?_
          refine q_iconst dX1_tryFrom_60 rfl rfl ?_
          refine q_copy dX1_tryFrom_61 cw_X1_74 (hL 49 (by decide)) (hL 47 (by decide)) sh_49 sh_47 (by decide) (by decide) (by decide) (by decide) (by decide) (Nat.le_of_ble_eq_true rfl) rfl ?_
          cases h
          exact q_return dX1_tryFrom_64 rfl hQ
      · rw [if_neg (show ¬ (a4 < (S 11 6)) from g)] at h
        cases h
        exact q_return dX1_tryFrom_25 rfl hQ
set_option maxRecDepth 20000 in
theorem FirstFour_tryFrom_n3_L68_ok {X : qX} (hL : ∀ c, c < 93 → c ∈ qLs X) (d : Nat) {Q : Option qV → qSto → Prop} : ∀ (n : Nat) (x2 : Int) (x3 : Int) (x4 : Int) (x5 : Int) (S : qSto) (o : qSto), FirstFour_tryFrom_n3_L68 n x2 x3 x4 x5 S = some o → (qW X (d + 5) yX1_tryFrom cX1_tryFrom 7 none 242 [] [] o Q) → qW X (d + 5) yX1_tryFrom cX1_tryFrom 7 none 68 [(0, qr 11), (1, qi 3), (2, qi x2), (3, qi x3), (4, qi x4), (5, qi x5)] [] S Q := by
  intro n
  induction n with
  | zero =>
    intro x2 x3 x4 x5 S o h
    simp [FirstFour_tryFrom_n3_L68] at h
  | succ n ih =>
    intro x2 x3 x4 x5 S o h hE
    rw [FirstFour_tryFrom_n3_L68] at h
    refine q_iload dX1_tryFrom_68 rfl rfl ?_
    refine q_aload_n dX1_tryFrom_70 rfl rfl ?_
    refine q_getI dX1_tryFrom_71 fl_X1_41 (hL 11 (by decide)) sh_11 (by decide) rfl rfl ?_
    obtain ⟨c1165, h⟩ := qk_some h
    obtain ⟨c1166, h⟩ := qk_some h
    refine q_icmp_ge (tgt := 242) dX1_tryFrom_74 (by decide) rfl (qRb_R c1165) (qRb_R c1166) (fun g => ?_) (fun g => ?_)
    · rw [if_pos (show (S 11 4) ≤ x5 from g)] at h
      cases h
      exact q_pick [] rfl (hE)
    · rw [if_neg (show ¬ ((S 11 4) ≤ x5) from g)] at h
      refine q_iload_n dX1_tryFrom_77 rfl rfl ?_
      refine q_iload dX1_tryFrom_78 rfl rfl ?_
      refine q_ishr dX1_tryFrom_80 rfl ?_
      refine q_iconst dX1_tryFrom_81 rfl rfl ?_
      refine q_iand dX1_tryFrom_82 rfl ?_
      refine q_jn (G := fun (t1198 : qSto) => qW X (d + 5) yX1_tryFrom cX1_tryFrom 7 none 236 [(0, qr 11), (1, qi 3), (2, qi x2), (3, qi x3), (4, qi x4), (5, qi x5)] [] t1198 Q) h (fun t1198 h => ?_) (fun t1198 h hk3798 => ?_)
      · try dsimp only at h
        refine q_iinc (lv' := [(5, qi (x5 + 1)), (0, qr 11), (1, qi 3), (2, qi x2), (3, qi x3), (4, qi x4)]) dX1_tryFrom_236 (by decide) rfl rfl rfl ?_
        refine q_goto (pc' := 68) dX1_tryFrom_239 (by decide) ?_
        exact q_pick [1, 2, 3, 4, 5, 0] rfl (ih x2 x3 x4 (x5 + 1) _ _ h hE)
      · skip
        obtain ⟨c1167, h⟩ := qk_some h
        refine q_if_eq (tgt := 89) dX1_tryFrom_83 (by decide) rfl (qRb_R c1167)  (fun g => ?_) (fun g => ?_)
        · rw [if_pos (show (qb_iand (qb_ishr x2 x5) 1) = 0 from g)] at h
          refine q_aload_n dX1_tryFrom_89 rfl rfl ?_
          refine q_getA dX1_tryFrom_90 fl_X1_15 (hL 11 (by decide)) sh_11 (by decide) rfl rfl ?_
          refine q_iload dX1_tryFrom_93 rfl rfl ?_
          obtain ⟨c1168, h⟩ := qk_some h
          refine q_iaload dX1_tryFrom_95 (hL 48 (by decide)) sh_48 (qIx_0 c1168) (qIx_1 c1168) rfl ?_
          refine q_istore (lv' := [(6, qi (S 48 (Int.toNat x5))), (0, qr 11), (1, qi 3), (2, qi x2), (3, qi x3), (4, qi x4), (5, qi x5)]) dX1_tryFrom_96 (by decide) rfl rfl ?_
          refine q_aload_n dX1_tryFrom_98 rfl rfl ?_
          refine q_getA dX1_tryFrom_99 fl_X1_18 (hL 11 (by decide)) sh_11 (by decide) rfl rfl ?_
          refine q_iload_n dX1_tryFrom_102 rfl rfl ?_
          refine q_iload dX1_tryFrom_103 rfl rfl ?_
          refine q_iastore dX1_tryFrom_105 (hL 49 (by decide)) sh_49 (by decide) (by decide) rfl ?_
          refine q_aload_n dX1_tryFrom_106 rfl rfl ?_
          refine q_getA dX1_tryFrom_107 fl_X1_21 (hL 11 (by decide)) sh_11 (by decide) rfl rfl ?_
          refine q_iload dX1_tryFrom_110 rfl rfl ?_
          obtain ⟨c1169, h⟩ := qk_some h
          refine q_zaload dX1_tryFrom_112 (hL 50 (by decide)) sh_50 (qIx_0 c1169) (qIx_1 c1169) rfl ?_
          obtain ⟨c1170, h⟩ := qk_some h
          refine q_if_eq (tgt := 218) dX1_tryFrom_113 (by decide) rfl (qRb_R c1170)  (fun g => ?_) (fun g => ?_)
          · rw [if_pos (show ((qup S 49 3 (S 48 (Int.toNat x5))) 50 (Int.toNat x5)) = 0 from g)] at h
            refine q_aload_n dX1_tryFrom_218 rfl rfl ?_
            refine q_iload_n dX1_tryFrom_219 rfl rfl ?_
            refine q_iconst dX1_tryFrom_220 rfl rfl ?_
            refine q_iadd dX1_tryFrom_221 rfl ?_
            refine q_iload_n dX1_tryFrom_222 rfl rfl ?_
            refine q_iconst dX1_tryFrom_223 rfl rfl ?_
            refine q_iload dX1_tryFrom_224 rfl rfl ?_
            refine q_ishl dX1_tryFrom_226 rfl ?_
            refine q_ior dX1_tryFrom_227 rfl ?_
            refine q_iload_n dX1_tryFrom_228 rfl rfl ?_
            refine q_iconst dX1_tryFrom_229 rfl rfl ?_
            refine q_iadd dX1_tryFrom_230 rfl ?_
            refine q_iload dX1_tryFrom_231 rfl rfl ?_
            obtain ⟨q1179, h1180, h⟩ := Option.bind_eq_some_iff.mp h
            refine q_callVv (as := [qi (3 + 1), qi (qb_ior x2 (qb_ishl 1 x5)), qi (x3 + 1), qi x4]) (c := 11) dX1_tryFrom_233 ml_X1_70 rfl rfl (hL 11 (by decide)) sh_11 rfl rfl (Nat.le_of_ble_eq_true rfl) (FirstFour_tryFrom_n4_ok hL (d + 4) (qb_ior x2 (qb_ishl 1 x5)) (x3 + 1) x4 _ _ h1180) rfl ?_
            cases h
            exact q_pick [1, 2, 3, 4, 5, 6] rfl hk3798
          · rw [if_neg (show ¬ (((qup S 49 3 (S 48 (Int.toNat x5))) 50 (Int.toNat x5)) = 0) from g)] at h
            refine q_aload_n dX1_tryFrom_116 rfl rfl ?_
            refine q_getA dX1_tryFrom_117 fl_X1_33 (hL 11 (by decide)) sh_11 (by decide) rfl rfl ?_
            refine q_iload dX1_tryFrom_120 rfl rfl ?_
            refine q_aload_n dX1_tryFrom_122 rfl rfl ?_
            refine q_getA dX1_tryFrom_123 fl_X1_25 (hL 11 (by decide)) sh_11 (by decide) rfl rfl ?_
            refine q_iload dX1_tryFrom_126 rfl rfl ?_
            refine q_bipush dX1_tryFrom_128 (by decide) rfl ?_
            obtain ⟨q1181, h1182, h⟩ := Option.bind_eq_some_iff.mp h
            refine q_callVi (as := [qi (S 48 (Int.toNat x5)), qi 8]) (c := 2) dX1_tryFrom_130 ml_X1_54 rfl rfl (hL 2 (by decide)) sh_2 rfl rfl (Nat.le_of_ble_eq_true rfl) (Told_contractOf_ok hL (d + 4) (S 48 (Int.toNat x5)) 8 _ _ h1182) rfl ?_
            refine q_aload_n dX1_tryFrom_133 rfl rfl ?_
            refine q_getA dX1_tryFrom_134 fl_X1_25 (hL 11 (by decide)) sh_11 (by decide) rfl rfl ?_
            refine q_iload dX1_tryFrom_137 rfl rfl ?_
            refine q_bipush dX1_tryFrom_139 (by decide) rfl ?_
            obtain ⟨q1183, h1184, h⟩ := Option.bind_eq_some_iff.mp h
            refine q_callVi (as := [qi (S 48 (Int.toNat x5)), qi 7]) (c := 2) dX1_tryFrom_141 ml_X1_54 rfl rfl (hL 2 (by decide)) sh_2 rfl rfl (Nat.le_of_ble_eq_true rfl) (Told_contractOf_ok hL (d + 4) (S 48 (Int.toNat x5)) 7 _ _ h1184) rfl ?_
            obtain ⟨q1185, h1186, h⟩ := Option.bind_eq_some_iff.mp h
            refine q_callVi (as := [qi (S 48 (Int.toNat x5)), qi q1181.1, qi q1183.1]) (c := 9) dX1_tryFrom_144 ml_X1_58 rfl rfl (hL 9 (by decide)) sh_9 rfl rfl (Nat.le_of_ble_eq_true rfl) (Search_find_ok hL d (S 48 (Int.toNat x5)) q1181.1 q1183.1 _ _ h1186) rfl ?_
            obtain ⟨c1187, h⟩ := qk_some h
            refine q_if_eq (tgt := 218) dX1_tryFrom_147 (by decide) rfl (qRb_R c1187)  (fun g => ?_) (fun g => ?_)
            · rw [if_pos (show q1185.1 = 0 from g)] at h
              refine q_aload_n dX1_tryFrom_218 rfl rfl ?_
              refine q_iload_n dX1_tryFrom_219 rfl rfl ?_
              refine q_iconst dX1_tryFrom_220 rfl rfl ?_
              refine q_iadd dX1_tryFrom_221 rfl ?_
              refine q_iload_n dX1_tryFrom_222 rfl rfl ?_
              refine q_iconst dX1_tryFrom_223 rfl rfl ?_
              refine q_iload dX1_tryFrom_224 rfl rfl ?_
              refine q_ishl dX1_tryFrom_226 rfl ?_
              refine q_ior dX1_tryFrom_227 rfl ?_
              refine q_iload_n dX1_tryFrom_228 rfl rfl ?_
              refine q_iconst dX1_tryFrom_229 rfl rfl ?_
              refine q_iadd dX1_tryFrom_230 rfl ?_
              refine q_iload dX1_tryFrom_231 rfl rfl ?_
              obtain ⟨q1188, h1189, h⟩ := Option.bind_eq_some_iff.mp h
              refine q_callVv (as := [qi (3 + 1), qi (qb_ior x2 (qb_ishl 1 x5)), qi (x3 + 1), qi x4]) (c := 11) dX1_tryFrom_233 ml_X1_70 rfl rfl (hL 11 (by decide)) sh_11 rfl rfl (Nat.le_of_ble_eq_true rfl) (FirstFour_tryFrom_n4_ok hL (d + 4) (qb_ior x2 (qb_ishl 1 x5)) (x3 + 1) x4 _ _ h1189) rfl ?_
              cases h
              exact q_pick [1, 2, 3, 4, 5, 6] rfl hk3798
            · rw [if_neg (show ¬ (q1185.1 = 0) from g)] at h
              refine q_aload_n dX1_tryFrom_150 rfl rfl ?_
              refine q_getA dX1_tryFrom_151 fl_X1_29 (hL 11 (by decide)) sh_11 (by decide) rfl rfl ?_
              refine q_iload dX1_tryFrom_154 rfl rfl ?_
              refine q_aload_n dX1_tryFrom_156 rfl rfl ?_
              refine q_getA dX1_tryFrom_157 fl_X1_33 (hL 11 (by decide)) sh_11 (by decide) rfl rfl ?_
              refine q_getI dX1_tryFrom_160 fl_X1_80 (hL 9 (by decide)) sh_9 (by decide) rfl rfl ?_
              refine q_aload_n dX1_tryFrom_163 rfl rfl ?_
              refine q_getA dX1_tryFrom_164 fl_X1_33 (hL 11 (by decide)) sh_11 (by decide) rfl rfl ?_
              refine q_getI dX1_tryFrom_167 fl_X1_83 (hL 9 (by decide)) sh_9 (by decide) rfl rfl ?_
              refine q_aload_n dX1_tryFrom_170 rfl rfl ?_
              refine q_getA dX1_tryFrom_171 fl_X1_33 (hL 11 (by decide)) sh_11 (by decide) rfl rfl ?_
              refine q_getI dX1_tryFrom_174 fl_X1_86 (hL 9 (by decide)) sh_9 (by decide) rfl rfl ?_
              obtain ⟨q1190, h1191, h⟩ := Option.bind_eq_some_iff.mp h
              refine q_callVv (as := [qi (S 48 (Int.toNat x5)), qi (q1185.2 9 5), qi (q1185.2 9 6), qi (q1185.2 9 7)]) (c := 6) dX1_tryFrom_177 ml_X1_89 rfl rfl (hL 6 (by decide)) sh_6 rfl rfl (Nat.le_of_ble_eq_true rfl) (Stays_lay_ok hL (d + 1) (S 48 (Int.toNat x5)) (q1185.2 9 5) (q1185.2 9 6) (q1185.2 9 7) _ _ h1191) rfl ?_
              refine q_aload_n dX1_tryFrom_180 rfl rfl ?_
              refine q_iload_n dX1_tryFrom_181 rfl rfl ?_
              refine q_iconst dX1_tryFrom_182 rfl rfl ?_
              refine q_iadd dX1_tryFrom_183 rfl ?_
              refine q_iload_n dX1_tryFrom_184 rfl rfl ?_
              refine q_iconst dX1_tryFrom_185 rfl rfl ?_
              refine q_iload dX1_tryFrom_186 rfl rfl ?_
              refine q_ishl dX1_tryFrom_188 rfl ?_
              refine q_ior dX1_tryFrom_189 rfl ?_
              refine q_iload_n dX1_tryFrom_190 rfl rfl ?_
              refine q_iload dX1_tryFrom_191 rfl rfl ?_
              refine q_aload_n dX1_tryFrom_193 rfl rfl ?_
              refine q_getA dX1_tryFrom_194 fl_X1_29 (hL 11 (by decide)) sh_11 (by decide) rfl rfl ?_
              refine q_iload dX1_tryFrom_197 rfl rfl ?_
              obtain ⟨q1192, h1193, h⟩ := Option.bind_eq_some_iff.mp h
              refine q_callVi (as := [qi (S 48 (Int.toNat x5))]) (c := 6) dX1_tryFrom_199 ml_X1_92 rfl rfl (hL 6 (by decide)) sh_6 rfl rfl (Nat.le_of_ble_eq_true rfl) (Stays_costOf_ok hL (d + 2) (S 48 (Int.toNat x5)) _ _ h1193) rfl ?_
              refine q_iadd dX1_tryFrom_202 rfl ?_
              obtain ⟨q1194, h1195, h⟩ := Option.bind_eq_some_iff.mp h
              refine q_callVv (as := [qi (3 + 1), qi (qb_ior x2 (qb_ishl 1 x5)), qi x3, qi (x4 + q1192.1)]) (c := 11) dX1_tryFrom_203 ml_X1_70 rfl rfl (hL 11 (by decide)) sh_11 rfl rfl (Nat.le_of_ble_eq_true rfl) (FirstFour_tryFrom_n4_ok hL (d + 4) (qb_ior x2 (qb_ishl 1 x5)) x3 (x4 + q1192.1) _ _ h1195) rfl ?_
              refine q_aload_n dX1_tryFrom_206 rfl rfl ?_
              refine q_getA dX1_tryFrom_207 fl_X1_29 (hL 11 (by decide)) sh_11 (by decide) rfl rfl ?_
              refine q_iload dX1_tryFrom_210 rfl rfl ?_
              obtain ⟨q1196, h1197, h⟩ := Option.bind_eq_some_iff.mp h
              refine q_callVv (as := [qi (S 48 (Int.toNat x5))]) (c := 6) dX1_tryFrom_212 ml_X1_96 rfl rfl (hL 6 (by decide)) sh_6 rfl rfl (Nat.le_of_ble_eq_true rfl) (Stays_lift_ok hL (d + 2) (S 48 (Int.toNat x5)) _ _ h1197) rfl ?_
              refine q_goto (pc' := 236) dX1_tryFrom_215 (by decide) ?_
              cases h
              exact q_pick [1, 2, 3, 4, 5, 6] rfl hk3798
        · rw [if_neg (show ¬ ((qb_iand (qb_ishr x2 x5) 1) = 0) from g)] at h
          refine q_goto (pc' := 236) dX1_tryFrom_86 (by decide) ?_
          cases h
          exact q_pick [0, 1, 2, 3, 4, 5] rfl hk3798
set_option maxRecDepth 20000 in
theorem FirstFour_tryFrom_n3_ok {X : qX} (hL : ∀ c, c < 93 → c ∈ qLs X) (d : Nat) (a2 : Int) (a3 : Int) (a4 : Int) (S : qSto) (o : qSto) (h : FirstFour_tryFrom_n3 a2 a3 a4 S = some o) (Q : Option qV → qSto → Prop) (hQ : Q none o) : qC X (d + 5) yX1_tryFrom cX1_tryFrom 7 none [qr 11, qi 3, qi a2, qi a3, qi a4] S Q := by
  refine q_entry (lv := [(0, qr 11), (1, qi 3), (2, qi a2), (3, qi a3), (4, qi a4)]) pn_X1 (Nat.le_of_ble_eq_true rfl) rfl ?_
  unfold FirstFour_tryFrom_n3 at h
  refine q_iload_n dX1_tryFrom_0 rfl rfl ?_
  refine q_aload_n dX1_tryFrom_1 rfl rfl ?_
  refine q_getI dX1_tryFrom_2 fl_X1_64 (hL 11 (by decide)) sh_11 (by decide) rfl rfl ?_
  obtain ⟨c1160, h⟩ := qk_some h
  obtain ⟨c1161, h⟩ := qk_some h
  refine q_icmp_gt (tgt := 25) dX1_tryFrom_5 (by decide) rfl (qRb_R c1160) (qRb_R c1161) (fun g => ?_) (fun g => ?_)
  · rw [if_pos (show (S 11 5) < a3 from g)] at h
    cases h
    exact q_return dX1_tryFrom_25 rfl hQ
  · rw [if_neg (show ¬ ((S 11 5) < a3) from g)] at h
    refine q_iload_n dX1_tryFrom_8 rfl rfl ?_
    refine q_aload_n dX1_tryFrom_9 rfl rfl ?_
    refine q_getI dX1_tryFrom_10 fl_X1_64 (hL 11 (by decide)) sh_11 (by decide) rfl rfl ?_
    obtain ⟨c1162, h⟩ := qk_some h
    obtain ⟨c1163, h⟩ := qk_some h
    refine q_icmp_ne (tgt := 26) dX1_tryFrom_13 (by decide) rfl (qRb_R c1162) (qRb_R c1163) (fun g => ?_) (fun g => ?_)
    · rw [if_neg (show ¬ (a3 = (S 11 5)) from g)] at h
      refine q_iload_n dX1_tryFrom_26 rfl rfl ?_
      refine q_aload_n dX1_tryFrom_27 rfl rfl ?_
      refine q_getI dX1_tryFrom_28 fl_X1_41 (hL 11 (by decide)) sh_11 (by decide) rfl rfl ?_
      obtain ⟨c1164, h⟩ := qk_some h
      refine q_icmp_ge (tgt := 39) dX1_tryFrom_31 (by decide) rfl ⟨by decide, by decide⟩ (qRb_R c1164) (fun g => ?_) (fun g => ?_)
      · rw [if_pos (show (S 11 4) ≤ 3 from g)] at h
        refine q_aload_n dX1_tryFrom_39 rfl rfl ?_
        refine q_iload_n dX1_tryFrom_40 rfl rfl ?_
        refine q_putI dX1_tryFrom_41 fl_X1_64 (hL 11 (by decide)) sh_11 (by decide) pf_1_5 pt_1_5 rfl rfl ?_
        refine q_aload_n dX1_tryFrom_44 rfl rfl ?_
        refine q_iload dX1_tryFrom_45 rfl rfl ?_
        refine q_putI dX1_tryFrom_47 fl_X1_67 (hL 11 (by decide)) sh_11 (by decide) pf_1_6 pt_1_6 rfl rfl ?_
        refine q_aload_n dX1_tryFrom_50 rfl rfl ?_
        refine q_getA dX1_tryFrom_51 fl_X1_18 (hL 11 (by decide)) sh_11 (by decide) rfl rfl ?_
        refine q_iconst dX1_tryFrom_54 rfl rfl ?_
        refine q_aload_n dX1_tryFrom_55 rfl rfl ?_
        refine q_getA dX1_tryFrom_56 fl_X1_9 (hL 11 (by decide)) sh_11 (by decide) rfl rfl ?_
        refine q_iconst dX1_tryFrom_59 rfl rfl ?_
        refine q_iconst dX1_tryFrom_60 rfl rfl ?_
        refine q_copy dX1_tryFrom_61 cw_X1_74 (hL 49 (by decide)) (hL 47 (by decide)) sh_49 sh_47 (by decide) (by decide) (by decide) (by decide) (by decide) (Nat.le_of_ble_eq_true rfl) rfl ?_
        cases h
        exact q_return dX1_tryFrom_64 rfl hQ
      · rw [if_neg (show ¬ ((S 11 4) ≤ 3) from g)] at h
        refine q_iload_n dX1_tryFrom_34 rfl rfl ?_
        refine q_iconst dX1_tryFrom_35 rfl rfl ?_
        refine q_icmp_lt (tgt := 65) dX1_tryFrom_36 (by decide) rfl ⟨by decide, by decide⟩ ⟨by decide, by decide⟩ (fun g => ?_) (fun g => absurd g (by decide))
        refine q_iconst dX1_tryFrom_65 rfl rfl ?_
        refine q_istore (lv' := [(5, qi 0), (0, qr 11), (1, qi 3), (2, qi a2), (3, qi a3), (4, qi a4)]) dX1_tryFrom_66 (by decide) rfl rfl ?_
        obtain ⟨q1199, h1200, h⟩ := Option.bind_eq_some_iff.mp h
        refine q_pick [1, 2, 3, 4, 5, 0] rfl (FirstFour_tryFrom_n3_L68_ok hL d qF a2 a3 a4 0 _ _ h1200 ?_)
        cases h
        exact q_return dX1_tryFrom_242 rfl hQ
    · rw [if_pos (show a3 = (S 11 5) from g)] at h
      refine q_iload dX1_tryFrom_16 rfl rfl ?_
      refine q_aload_n dX1_tryFrom_18 rfl rfl ?_
      refine q_getI dX1_tryFrom_19 fl_X1_67 (hL 11 (by decide)) sh_11 (by decide) rfl rfl ?_
      obtain ⟨c1201, h⟩ := qk_some h
      obtain ⟨c1202, h⟩ := qk_some h
      refine q_icmp_lt (tgt := 26) dX1_tryFrom_22 (by decide) rfl (qRb_R c1201) (qRb_R c1202) (fun g => ?_) (fun g => ?_)
      · rw [if_pos (show a4 < (S 11 6) from g)] at h
        refine q_iload_n dX1_tryFrom_26 rfl rfl ?_
        refine q_aload_n dX1_tryFrom_27 rfl rfl ?_
        refine q_getI dX1_tryFrom_28 fl_X1_41 (hL 11 (by decide)) sh_11 (by decide) rfl rfl ?_
        obtain ⟨c1203, h⟩ := qk_some h
        refine q_icmp_ge (tgt := 39) dX1_tryFrom_31 (by decide) rfl ⟨by decide, by decide⟩ (qRb_R c1203) (fun g => ?_) (fun g => ?_)
        · rw [if_pos (show (S 11 4) ≤ 3 from g)] at h
          refine q_aload_n dX1_tryFrom_39 rfl rfl ?_
          refine q_iload_n dX1_tryFrom_40 rfl rfl ?_
          refine q_putI dX1_tryFrom_41 fl_X1_64 (hL 11 (by decide)) sh_11 (by decide) pf_1_5 pt_1_5 rfl rfl ?_
          refine q_aload_n dX1_tryFrom_44 rfl rfl ?_
          refine q_iload dX1_tryFrom_45 rfl rfl ?_
          refine q_putI dX1_tryFrom_47 fl_X1_67 (hL 11 (by decide)) sh_11 (by decide) pf_1_6 pt_1_6 rfl rfl ?_
          refine q_aload_n dX1_tryFrom_50 rfl rfl ?_
          refine q_getA dX1_tryFrom_51 fl_X1_18 (hL 11 (by decide)) sh_11 (by decide) rfl rfl ?_
          refine q_iconst dX1_tryFrom_54 rfl rfl ?_
          refine q_aload_n dX1_tryFrom_55 rfl rfl ?_
          refine q_getA dX1_tryFrom_56 fl_X1_9 (hL 11 (by decide)) sh_11 (by decide) rfl rfl ?_
          refine q_iconst dX1_tryFrom_59 rfl rfl ?_
          refine q_iconst dX1_tryFrom_60 rfl rfl ?_
          refine q_copy dX1_tryFrom_61 cw_X1_74 (hL 49 (by decide)) (hL 47 (by decide)) sh_49 sh_47 (by decide) (by decide) (by decide) (by decide) (by decide) (Nat.le_of_ble_eq_true rfl) rfl ?_
          cases h
          exact q_return dX1_tryFrom_64 rfl hQ
        · rw [if_neg (show ¬ ((S 11 4) ≤ 3) from g)] at h
          refine q_iload_n dX1_tryFrom_34 rfl rfl ?_
          refine q_iconst dX1_tryFrom_35 rfl rfl ?_
          refine q_icmp_lt (tgt := 65) dX1_tryFrom_36 (by decide) rfl ⟨by decide, by decide⟩ ⟨by decide, by decide⟩ (fun g => ?_) (fun g => absurd g (by decide))
          refine q_iconst dX1_tryFrom_65 rfl rfl ?_
          refine q_istore (lv' := [(5, qi 0), (0, qr 11), (1, qi 3), (2, qi a2), (3, qi a3), (4, qi a4)]) dX1_tryFrom_66 (by decide) rfl rfl ?_
          obtain ⟨q1204, h1205, h⟩ := Option.bind_eq_some_iff.mp h
          refine q_pick [1, 2, 3, 4, 5, 0] rfl (FirstFour_tryFrom_n3_L68_ok hL d qF a2 a3 a4 0 _ _ h1205 ?_)
          cases h
          exact q_return dX1_tryFrom_242 rfl hQ
      · rw [if_neg (show ¬ (a4 < (S 11 6)) from g)] at h
        cases h
        exact q_return dX1_tryFrom_25 rfl hQ
set_option maxRecDepth 20000 in
theorem FirstFour_tryFrom_n2_L68_ok {X : qX} (hL : ∀ c, c < 93 → c ∈ qLs X) (d : Nat) {Q : Option qV → qSto → Prop} : ∀ (n : Nat) (x2 : Int) (x3 : Int) (x4 : Int) (x5 : Int) (S : qSto) (o : qSto), FirstFour_tryFrom_n2_L68 n x2 x3 x4 x5 S = some o → (qW X (d + 6) yX1_tryFrom cX1_tryFrom 7 none 242 [] [] o Q) → qW X (d + 6) yX1_tryFrom cX1_tryFrom 7 none 68 [(0, qr 11), (1, qi 2), (2, qi x2), (3, qi x3), (4, qi x4), (5, qi x5)] [] S Q := by
  intro n
  induction n with
  | zero =>
    intro x2 x3 x4 x5 S o h
    simp [FirstFour_tryFrom_n2_L68] at h
  | succ n ih =>
    intro x2 x3 x4 x5 S o h hE
    rw [FirstFour_tryFrom_n2_L68] at h
    refine q_iload dX1_tryFrom_68 rfl rfl ?_
    refine q_aload_n dX1_tryFrom_70 rfl rfl ?_
    refine q_getI dX1_tryFrom_71 fl_X1_41 (hL 11 (by decide)) sh_11 (by decide) rfl rfl ?_
    obtain ⟨c1154, h⟩ := qk_some h
    obtain ⟨c1155, h⟩ := qk_some h
    refine q_icmp_ge (tgt := 242) dX1_tryFrom_74 (by decide) rfl (qRb_R c1154) (qRb_R c1155) (fun g => ?_) (fun g => ?_)
    · rw [if_pos (show (S 11 4) ≤ x5 from g)] at h
      cases h
      exact q_pick [] rfl (hE)
    · rw [if_neg (show ¬ ((S 11 4) ≤ x5) from g)] at h
      refine q_iload_n dX1_tryFrom_77 rfl rfl ?_
      refine q_iload dX1_tryFrom_78 rfl rfl ?_
      refine q_ishr dX1_tryFrom_80 rfl ?_
      refine q_iconst dX1_tryFrom_81 rfl rfl ?_
      refine q_iand dX1_tryFrom_82 rfl ?_
      refine q_jn (G := fun (t1225 : qSto) => qW X (d + 6) yX1_tryFrom cX1_tryFrom 7 none 236 [(0, qr 11), (1, qi 2), (2, qi x2), (3, qi x3), (4, qi x4), (5, qi x5)] [] t1225 Q) h (fun t1225 h => ?_) (fun t1225 h hk3799 => ?_)
      · try dsimp only at h
        refine q_iinc (lv' := [(5, qi (x5 + 1)), (0, qr 11), (1, qi 2), (2, qi x2), (3, qi x3), (4, qi x4)]) dX1_tryFrom_236 (by decide) rfl rfl rfl ?_
        refine q_goto (pc' := 68) dX1_tryFrom_239 (by decide) ?_
        exact q_pick [1, 2, 3, 4, 5, 0] rfl (ih x2 x3 x4 (x5 + 1) _ _ h hE)
      · skip
        obtain ⟨c1156, h⟩ := qk_some h
        refine q_if_eq (tgt := 89) dX1_tryFrom_83 (by decide) rfl (qRb_R c1156)  (fun g => ?_) (fun g => ?_)
        · rw [if_pos (show (qb_iand (qb_ishr x2 x5) 1) = 0 from g)] at h
          refine q_aload_n dX1_tryFrom_89 rfl rfl ?_
          refine q_getA dX1_tryFrom_90 fl_X1_15 (hL 11 (by decide)) sh_11 (by decide) rfl rfl ?_
          refine q_iload dX1_tryFrom_93 rfl rfl ?_
          obtain ⟨c1157, h⟩ := qk_some h
          refine q_iaload dX1_tryFrom_95 (hL 48 (by decide)) sh_48 (qIx_0 c1157) (qIx_1 c1157) rfl ?_
          refine q_istore (lv' := [(6, qi (S 48 (Int.toNat x5))), (0, qr 11), (1, qi 2), (2, qi x2), (3, qi x3), (4, qi x4), (5, qi x5)]) dX1_tryFrom_96 (by decide) rfl rfl ?_
          refine q_aload_n dX1_tryFrom_98 rfl rfl ?_
          refine q_getA dX1_tryFrom_99 fl_X1_18 (hL 11 (by decide)) sh_11 (by decide) rfl rfl ?_
          refine q_iload_n dX1_tryFrom_102 rfl rfl ?_
          refine q_iload dX1_tryFrom_103 rfl rfl ?_
          refine q_iastore dX1_tryFrom_105 (hL 49 (by decide)) sh_49 (by decide) (by decide) rfl ?_
          refine q_aload_n dX1_tryFrom_106 rfl rfl ?_
          refine q_getA dX1_tryFrom_107 fl_X1_21 (hL 11 (by decide)) sh_11 (by decide) rfl rfl ?_
          refine q_iload dX1_tryFrom_110 rfl rfl ?_
          obtain ⟨c1158, h⟩ := qk_some h
          refine q_zaload dX1_tryFrom_112 (hL 50 (by decide)) sh_50 (qIx_0 c1158) (qIx_1 c1158) rfl ?_
          obtain ⟨c1159, h⟩ := qk_some h
          refine q_if_eq (tgt := 218) dX1_tryFrom_113 (by decide) rfl (qRb_R c1159)  (fun g => ?_) (fun g => ?_)
          · rw [if_pos (show ((qup S 49 2 (S 48 (Int.toNat x5))) 50 (Int.toNat x5)) = 0 from g)] at h
            refine q_aload_n dX1_tryFrom_218 rfl rfl ?_
            refine q_iload_n dX1_tryFrom_219 rfl rfl ?_
            refine q_iconst dX1_tryFrom_220 rfl rfl ?_
            refine q_iadd dX1_tryFrom_221 rfl ?_
            refine q_iload_n dX1_tryFrom_222 rfl rfl ?_
            refine q_iconst dX1_tryFrom_223 rfl rfl ?_
            refine q_iload dX1_tryFrom_224 rfl rfl ?_
            refine q_ishl dX1_tryFrom_226 rfl ?_
            refine q_ior dX1_tryFrom_227 rfl ?_
            refine q_iload_n dX1_tryFrom_228 rfl rfl ?_
            refine q_iconst dX1_tryFrom_229 rfl rfl ?_
            refine q_iadd dX1_tryFrom_230 rfl ?_
            refine q_iload dX1_tryFrom_231 rfl rfl ?_
            obtain ⟨q1206, h1207, h⟩ := Option.bind_eq_some_iff.mp h
            refine q_callVv (as := [qi (2 + 1), qi (qb_ior x2 (qb_ishl 1 x5)), qi (x3 + 1), qi x4]) (c := 11) dX1_tryFrom_233 ml_X1_70 rfl rfl (hL 11 (by decide)) sh_11 rfl rfl (Nat.le_of_ble_eq_true rfl) (FirstFour_tryFrom_n3_ok hL d (qb_ior x2 (qb_ishl 1 x5)) (x3 + 1) x4 _ _ h1207) rfl ?_
            cases h
            exact q_pick [1, 2, 3, 4, 5, 6] rfl hk3799
          · rw [if_neg (show ¬ (((qup S 49 2 (S 48 (Int.toNat x5))) 50 (Int.toNat x5)) = 0) from g)] at h
            refine q_aload_n dX1_tryFrom_116 rfl rfl ?_
            refine q_getA dX1_tryFrom_117 fl_X1_33 (hL 11 (by decide)) sh_11 (by decide) rfl rfl ?_
            refine q_iload dX1_tryFrom_120 rfl rfl ?_
            refine q_aload_n dX1_tryFrom_122 rfl rfl ?_
            refine q_getA dX1_tryFrom_123 fl_X1_25 (hL 11 (by decide)) sh_11 (by decide) rfl rfl ?_
            refine q_iload dX1_tryFrom_126 rfl rfl ?_
            refine q_bipush dX1_tryFrom_128 (by decide) rfl ?_
            obtain ⟨q1208, h1209, h⟩ := Option.bind_eq_some_iff.mp h
            refine q_callVi (as := [qi (S 48 (Int.toNat x5)), qi 8]) (c := 2) dX1_tryFrom_130 ml_X1_54 rfl rfl (hL 2 (by decide)) sh_2 rfl rfl (Nat.le_of_ble_eq_true rfl) (Told_contractOf_ok hL (d + 5) (S 48 (Int.toNat x5)) 8 _ _ h1209) rfl ?_
            refine q_aload_n dX1_tryFrom_133 rfl rfl ?_
            refine q_getA dX1_tryFrom_134 fl_X1_25 (hL 11 (by decide)) sh_11 (by decide) rfl rfl ?_
            refine q_iload dX1_tryFrom_137 rfl rfl ?_
            refine q_bipush dX1_tryFrom_139 (by decide) rfl ?_
            obtain ⟨q1210, h1211, h⟩ := Option.bind_eq_some_iff.mp h
            refine q_callVi (as := [qi (S 48 (Int.toNat x5)), qi 7]) (c := 2) dX1_tryFrom_141 ml_X1_54 rfl rfl (hL 2 (by decide)) sh_2 rfl rfl (Nat.le_of_ble_eq_true rfl) (Told_contractOf_ok hL (d + 5) (S 48 (Int.toNat x5)) 7 _ _ h1211) rfl ?_
            obtain ⟨q1212, h1213, h⟩ := Option.bind_eq_some_iff.mp h
            refine q_callVi (as := [qi (S 48 (Int.toNat x5)), qi q1208.1, qi q1210.1]) (c := 9) dX1_tryFrom_144 ml_X1_58 rfl rfl (hL 9 (by decide)) sh_9 rfl rfl (Nat.le_of_ble_eq_true rfl) (Search_find_ok hL (d + 1) (S 48 (Int.toNat x5)) q1208.1 q1210.1 _ _ h1213) rfl ?_
            obtain ⟨c1214, h⟩ := qk_some h
            refine q_if_eq (tgt := 218) dX1_tryFrom_147 (by decide) rfl (qRb_R c1214)  (fun g => ?_) (fun g => ?_)
            · rw [if_pos (show q1212.1 = 0 from g)] at h
              refine q_aload_n dX1_tryFrom_218 rfl rfl ?_
              refine q_iload_n dX1_tryFrom_219 rfl rfl ?_
              refine q_iconst dX1_tryFrom_220 rfl rfl ?_
              refine q_iadd dX1_tryFrom_221 rfl ?_
              refine q_iload_n dX1_tryFrom_222 rfl rfl ?_
              refine q_iconst dX1_tryFrom_223 rfl rfl ?_
              refine q_iload dX1_tryFrom_224 rfl rfl ?_
              refine q_ishl dX1_tryFrom_226 rfl ?_
              refine q_ior dX1_tryFrom_227 rfl ?_
              refine q_iload_n dX1_tryFrom_228 rfl rfl ?_
              refine q_iconst dX1_tryFrom_229 rfl rfl ?_
              refine q_iadd dX1_tryFrom_230 rfl ?_
              refine q_iload dX1_tryFrom_231 rfl rfl ?_
              obtain ⟨q1215, h1216, h⟩ := Option.bind_eq_some_iff.mp h
              refine q_callVv (as := [qi (2 + 1), qi (qb_ior x2 (qb_ishl 1 x5)), qi (x3 + 1), qi x4]) (c := 11) dX1_tryFrom_233 ml_X1_70 rfl rfl (hL 11 (by decide)) sh_11 rfl rfl (Nat.le_of_ble_eq_true rfl) (FirstFour_tryFrom_n3_ok hL d (qb_ior x2 (qb_ishl 1 x5)) (x3 + 1) x4 _ _ h1216) rfl ?_
              cases h
              exact q_pick [1, 2, 3, 4, 5, 6] rfl hk3799
            · rw [if_neg (show ¬ (q1212.1 = 0) from g)] at h
              refine q_aload_n dX1_tryFrom_150 rfl rfl ?_
              refine q_getA dX1_tryFrom_151 fl_X1_29 (hL 11 (by decide)) sh_11 (by decide) rfl rfl ?_
              refine q_iload dX1_tryFrom_154 rfl rfl ?_
              refine q_aload_n dX1_tryFrom_156 rfl rfl ?_
              refine q_getA dX1_tryFrom_157 fl_X1_33 (hL 11 (by decide)) sh_11 (by decide) rfl rfl ?_
              refine q_getI dX1_tryFrom_160 fl_X1_80 (hL 9 (by decide)) sh_9 (by decide) rfl rfl ?_
              refine q_aload_n dX1_tryFrom_163 rfl rfl ?_
              refine q_getA dX1_tryFrom_164 fl_X1_33 (hL 11 (by decide)) sh_11 (by decide) rfl rfl ?_
              refine q_getI dX1_tryFrom_167 fl_X1_83 (hL 9 (by decide)) sh_9 (by decide) rfl rfl ?_
              refine q_aload_n dX1_tryFrom_170 rfl rfl ?_
              refine q_getA dX1_tryFrom_171 fl_X1_33 (hL 11 (by decide)) sh_11 (by decide) rfl rfl ?_
              refine q_getI dX1_tryFrom_174 fl_X1_86 (hL 9 (by decide)) sh_9 (by decide) rfl rfl ?_
              obtain ⟨q1217, h1218, h⟩ := Option.bind_eq_some_iff.mp h
              refine q_callVv (as := [qi (S 48 (Int.toNat x5)), qi (q1212.2 9 5), qi (q1212.2 9 6), qi (q1212.2 9 7)]) (c := 6) dX1_tryFrom_177 ml_X1_89 rfl rfl (hL 6 (by decide)) sh_6 rfl rfl (Nat.le_of_ble_eq_true rfl) (Stays_lay_ok hL (d + 2) (S 48 (Int.toNat x5)) (q1212.2 9 5) (q1212.2 9 6) (q1212.2 9 7) _ _ h1218) rfl ?_
              refine q_aload_n dX1_tryFrom_180 rfl rfl ?_
              refine q_iload_n dX1_tryFrom_181 rfl rfl ?_
              refine q_iconst dX1_tryFrom_182 rfl rfl ?_
              refine q_iadd dX1_tryFrom_183 rfl ?_
              refine q_iload_n dX1_tryFrom_184 rfl rfl ?_
              refine q_iconst dX1_tryFrom_185 rfl rfl ?_
              refine q_iload dX1_tryFrom_186 rfl rfl ?_
              refine q_ishl dX1_tryFrom_188 rfl ?_
              refine q_ior dX1_tryFrom_189 rfl ?_
              refine q_iload_n dX1_tryFrom_190 rfl rfl ?_
              refine q_iload dX1_tryFrom_191 rfl rfl ?_
              refine q_aload_n dX1_tryFrom_193 rfl rfl ?_
              refine q_getA dX1_tryFrom_194 fl_X1_29 (hL 11 (by decide)) sh_11 (by decide) rfl rfl ?_
              refine q_iload dX1_tryFrom_197 rfl rfl ?_
              obtain ⟨q1219, h1220, h⟩ := Option.bind_eq_some_iff.mp h
              refine q_callVi (as := [qi (S 48 (Int.toNat x5))]) (c := 6) dX1_tryFrom_199 ml_X1_92 rfl rfl (hL 6 (by decide)) sh_6 rfl rfl (Nat.le_of_ble_eq_true rfl) (Stays_costOf_ok hL (d + 3) (S 48 (Int.toNat x5)) _ _ h1220) rfl ?_
              refine q_iadd dX1_tryFrom_202 rfl ?_
              obtain ⟨q1221, h1222, h⟩ := Option.bind_eq_some_iff.mp h
              refine q_callVv (as := [qi (2 + 1), qi (qb_ior x2 (qb_ishl 1 x5)), qi x3, qi (x4 + q1219.1)]) (c := 11) dX1_tryFrom_203 ml_X1_70 rfl rfl (hL 11 (by decide)) sh_11 rfl rfl (Nat.le_of_ble_eq_true rfl) (FirstFour_tryFrom_n3_ok hL d (qb_ior x2 (qb_ishl 1 x5)) x3 (x4 + q1219.1) _ _ h1222) rfl ?_
              refine q_aload_n dX1_tryFrom_206 rfl rfl ?_
              refine q_getA dX1_tryFrom_207 fl_X1_29 (hL 11 (by decide)) sh_11 (by decide) rfl rfl ?_
              refine q_iload dX1_tryFrom_210 rfl rfl ?_
              obtain ⟨q1223, h1224, h⟩ := Option.bind_eq_some_iff.mp h
              refine q_callVv (as := [qi (S 48 (Int.toNat x5))]) (c := 6) dX1_tryFrom_212 ml_X1_96 rfl rfl (hL 6 (by decide)) sh_6 rfl rfl (Nat.le_of_ble_eq_true rfl) (Stays_lift_ok hL (d + 3) (S 48 (Int.toNat x5)) _ _ h1224) rfl ?_
              refine q_goto (pc' := 236) dX1_tryFrom_215 (by decide) ?_
              cases h
              exact q_pick [1, 2, 3, 4, 5, 6] rfl hk3799
        · rw [if_neg (show ¬ ((qb_iand (qb_ishr x2 x5) 1) = 0) from g)] at h
          refine q_goto (pc' := 236) dX1_tryFrom_86 (by decide) ?_
          cases h
          exact q_pick [0, 1, 2, 3, 4, 5] rfl hk3799
set_option maxRecDepth 20000 in
theorem FirstFour_tryFrom_n2_ok {X : qX} (hL : ∀ c, c < 93 → c ∈ qLs X) (d : Nat) (a2 : Int) (a3 : Int) (a4 : Int) (S : qSto) (o : qSto) (h : FirstFour_tryFrom_n2 a2 a3 a4 S = some o) (Q : Option qV → qSto → Prop) (hQ : Q none o) : qC X (d + 6) yX1_tryFrom cX1_tryFrom 7 none [qr 11, qi 2, qi a2, qi a3, qi a4] S Q := by
  refine q_entry (lv := [(0, qr 11), (1, qi 2), (2, qi a2), (3, qi a3), (4, qi a4)]) pn_X1 (Nat.le_of_ble_eq_true rfl) rfl ?_
  unfold FirstFour_tryFrom_n2 at h
  refine q_iload_n dX1_tryFrom_0 rfl rfl ?_
  refine q_aload_n dX1_tryFrom_1 rfl rfl ?_
  refine q_getI dX1_tryFrom_2 fl_X1_64 (hL 11 (by decide)) sh_11 (by decide) rfl rfl ?_
  obtain ⟨c1149, h⟩ := qk_some h
  obtain ⟨c1150, h⟩ := qk_some h
  refine q_icmp_gt (tgt := 25) dX1_tryFrom_5 (by decide) rfl (qRb_R c1149) (qRb_R c1150) (fun g => ?_) (fun g => ?_)
  · rw [if_pos (show (S 11 5) < a3 from g)] at h
    cases h
    exact q_return dX1_tryFrom_25 rfl hQ
  · rw [if_neg (show ¬ ((S 11 5) < a3) from g)] at h
    refine q_iload_n dX1_tryFrom_8 rfl rfl ?_
    refine q_aload_n dX1_tryFrom_9 rfl rfl ?_
    refine q_getI dX1_tryFrom_10 fl_X1_64 (hL 11 (by decide)) sh_11 (by decide) rfl rfl ?_
    obtain ⟨c1151, h⟩ := qk_some h
    obtain ⟨c1152, h⟩ := qk_some h
    refine q_icmp_ne (tgt := 26) dX1_tryFrom_13 (by decide) rfl (qRb_R c1151) (qRb_R c1152) (fun g => ?_) (fun g => ?_)
    · rw [if_neg (show ¬ (a3 = (S 11 5)) from g)] at h
      refine q_iload_n dX1_tryFrom_26 rfl rfl ?_
      refine q_aload_n dX1_tryFrom_27 rfl rfl ?_
      refine q_getI dX1_tryFrom_28 fl_X1_41 (hL 11 (by decide)) sh_11 (by decide) rfl rfl ?_
      obtain ⟨c1153, h⟩ := qk_some h
      refine q_icmp_ge (tgt := 39) dX1_tryFrom_31 (by decide) rfl ⟨by decide, by decide⟩ (qRb_R c1153) (fun g => ?_) (fun g => ?_)
      · rw [if_pos (show (S 11 4) ≤ 2 from g)] at h
        refine q_aload_n dX1_tryFrom_39 rfl rfl ?_
        refine q_iload_n dX1_tryFrom_40 rfl rfl ?_
        refine q_putI dX1_tryFrom_41 fl_X1_64 (hL 11 (by decide)) sh_11 (by decide) pf_1_5 pt_1_5 rfl rfl ?_
        refine q_aload_n dX1_tryFrom_44 rfl rfl ?_
        refine q_iload dX1_tryFrom_45 rfl rfl ?_
        refine q_putI dX1_tryFrom_47 fl_X1_67 (hL 11 (by decide)) sh_11 (by decide) pf_1_6 pt_1_6 rfl rfl ?_
        refine q_aload_n dX1_tryFrom_50 rfl rfl ?_
        refine q_getA dX1_tryFrom_51 fl_X1_18 (hL 11 (by decide)) sh_11 (by decide) rfl rfl ?_
        refine q_iconst dX1_tryFrom_54 rfl rfl ?_
        refine q_aload_n dX1_tryFrom_55 rfl rfl ?_
        refine q_getA dX1_tryFrom_56 fl_X1_9 (hL 11 (by decide)) sh_11 (by decide) rfl rfl ?_
        refine q_iconst dX1_tryFrom_59 rfl rfl ?_
        refine q_iconst dX1_tryFrom_60 rfl rfl ?_
        refine q_copy dX1_tryFrom_61 cw_X1_74 (hL 49 (by decide)) (hL 47 (by decide)) sh_49 sh_47 (by decide) (by decide) (by decide) (by decide) (by decide) (Nat.le_of_ble_eq_true rfl) rfl ?_
        cases h
        exact q_return dX1_tryFrom_64 rfl hQ
      · rw [if_neg (show ¬ ((S 11 4) ≤ 2) from g)] at h
        refine q_iload_n dX1_tryFrom_34 rfl rfl ?_
        refine q_iconst dX1_tryFrom_35 rfl rfl ?_
        refine q_icmp_lt (tgt := 65) dX1_tryFrom_36 (by decide) rfl ⟨by decide, by decide⟩ ⟨by decide, by decide⟩ (fun g => ?_) (fun g => absurd g (by decide))
        refine q_iconst dX1_tryFrom_65 rfl rfl ?_
        refine q_istore (lv' := [(5, qi 0), (0, qr 11), (1, qi 2), (2, qi a2), (3, qi a3), (4, qi a4)]) dX1_tryFrom_66 (by decide) rfl rfl ?_
        obtain ⟨q1226, h1227, h⟩ := Option.bind_eq_some_iff.mp h
        refine q_pick [1, 2, 3, 4, 5, 0] rfl (FirstFour_tryFrom_n2_L68_ok hL d qF a2 a3 a4 0 _ _ h1227 ?_)
        cases h
        exact q_return dX1_tryFrom_242 rfl hQ
    · rw [if_pos (show a3 = (S 11 5) from g)] at h
      refine q_iload dX1_tryFrom_16 rfl rfl ?_
      refine q_aload_n dX1_tryFrom_18 rfl rfl ?_
      refine q_getI dX1_tryFrom_19 fl_X1_67 (hL 11 (by decide)) sh_11 (by decide) rfl rfl ?_
      obtain ⟨c1228, h⟩ := qk_some h
      obtain ⟨c1229, h⟩ := qk_some h
      refine q_icmp_lt (tgt := 26) dX1_tryFrom_22 (by decide) rfl (qRb_R c1228) (qRb_R c1229) (fun g => ?_) (fun g => ?_)
      · rw [if_pos (show a4 < (S 11 6) from g)] at h
        refine q_iload_n dX1_tryFrom_26 rfl rfl ?_
        refine q_aload_n dX1_tryFrom_27 rfl rfl ?_
        refine q_getI dX1_tryFrom_28 fl_X1_41 (hL 11 (by decide)) sh_11 (by decide) rfl rfl ?_
        obtain ⟨c1230, h⟩ := qk_some h
        refine q_icmp_ge (tgt := 39) dX1_tryFrom_31 (by decide) rfl ⟨by decide, by decide⟩ (qRb_R c1230) (fun g => ?_) (fun g => ?_)
        · rw [if_pos (show (S 11 4) ≤ 2 from g)] at h
          refine q_aload_n dX1_tryFrom_39 rfl rfl ?_
          refine q_iload_n dX1_tryFrom_40 rfl rfl ?_
          refine q_putI dX1_tryFrom_41 fl_X1_64 (hL 11 (by decide)) sh_11 (by decide) pf_1_5 pt_1_5 rfl rfl ?_
          refine q_aload_n dX1_tryFrom_44 rfl rfl ?_
          refine q_iload dX1_tryFrom_45 rfl rfl ?_
          refine q_putI dX1_tryFrom_47 fl_X1_67 (hL 11 (by decide)) sh_11 (by decide) pf_1_6 pt_1_6 rfl rfl ?_
          refine q_aload_n dX1_tryFrom_50 rfl rfl ?_
          refine q_getA dX1_tryFrom_51 fl_X1_18 (hL 11 (by decide)) sh_11 (by decide) rfl rfl ?_
          refine q_iconst dX1_tryFrom_54 rfl rfl ?_
          refine q_aload_n dX1_tryFrom_55 rfl rfl ?_
          refine q_getA dX1_tryFrom_56 fl_X1_9 (hL 11 (by decide)) sh_11 (by decide) rfl rfl ?_
          refine q_iconst dX1_tryFrom_59 rfl rfl ?_
          refine q_iconst dX1_tryFrom_60 rfl rfl ?_
          refine q_copy dX1_tryFrom_61 cw_X1_74 (hL 49 (by decide)) (hL 47 (by decide)) sh_49 sh_47 (by decide) (by decide) (by decide) (by decide) (by decide) (Nat.le_of_ble_eq_true rfl) rfl ?_
          cases h
          exact q_return dX1_tryFrom_64 rfl hQ
        · rw [if_neg (show ¬ ((S 11 4) ≤ 2) from g)] at h
          refine q_iload_n dX1_tryFrom_34 rfl rfl ?_
          refine q_iconst dX1_tryFrom_35 rfl rfl ?_
          refine q_icmp_lt (tgt := 65) dX1_tryFrom_36 (by decide) rfl ⟨by decide, by decide⟩ ⟨by decide, by decide⟩ (fun g => ?_) (fun g => absurd g (by decide))
          refine q_iconst dX1_tryFrom_65 rfl rfl ?_
          refine q_istore (lv' := [(5, qi 0), (0, qr 11), (1, qi 2), (2, qi a2), (3, qi a3), (4, qi a4)]) dX1_tryFrom_66 (by decide) rfl rfl ?_
          obtain ⟨q1231, h1232, h⟩ := Option.bind_eq_some_iff.mp h
          refine q_pick [1, 2, 3, 4, 5, 0] rfl (FirstFour_tryFrom_n2_L68_ok hL d qF a2 a3 a4 0 _ _ h1232 ?_)
          cases h
          exact q_return dX1_tryFrom_242 rfl hQ
      · rw [if_neg (show ¬ (a4 < (S 11 6)) from g)] at h
        cases h
        exact q_return dX1_tryFrom_25 rfl hQ
set_option maxRecDepth 20000 in
theorem FirstFour_tryFrom_n1_L68_ok {X : qX} (hL : ∀ c, c < 93 → c ∈ qLs X) (d : Nat) {Q : Option qV → qSto → Prop} : ∀ (n : Nat) (x2 : Int) (x3 : Int) (x4 : Int) (x5 : Int) (S : qSto) (o : qSto), FirstFour_tryFrom_n1_L68 n x2 x3 x4 x5 S = some o → (qW X (d + 7) yX1_tryFrom cX1_tryFrom 7 none 242 [] [] o Q) → qW X (d + 7) yX1_tryFrom cX1_tryFrom 7 none 68 [(0, qr 11), (1, qi 1), (2, qi x2), (3, qi x3), (4, qi x4), (5, qi x5)] [] S Q := by
  intro n
  induction n with
  | zero =>
    intro x2 x3 x4 x5 S o h
    simp [FirstFour_tryFrom_n1_L68] at h
  | succ n ih =>
    intro x2 x3 x4 x5 S o h hE
    rw [FirstFour_tryFrom_n1_L68] at h
    refine q_iload dX1_tryFrom_68 rfl rfl ?_
    refine q_aload_n dX1_tryFrom_70 rfl rfl ?_
    refine q_getI dX1_tryFrom_71 fl_X1_41 (hL 11 (by decide)) sh_11 (by decide) rfl rfl ?_
    obtain ⟨c1143, h⟩ := qk_some h
    obtain ⟨c1144, h⟩ := qk_some h
    refine q_icmp_ge (tgt := 242) dX1_tryFrom_74 (by decide) rfl (qRb_R c1143) (qRb_R c1144) (fun g => ?_) (fun g => ?_)
    · rw [if_pos (show (S 11 4) ≤ x5 from g)] at h
      cases h
      exact q_pick [] rfl (hE)
    · rw [if_neg (show ¬ ((S 11 4) ≤ x5) from g)] at h
      refine q_iload_n dX1_tryFrom_77 rfl rfl ?_
      refine q_iload dX1_tryFrom_78 rfl rfl ?_
      refine q_ishr dX1_tryFrom_80 rfl ?_
      refine q_iconst dX1_tryFrom_81 rfl rfl ?_
      refine q_iand dX1_tryFrom_82 rfl ?_
      refine q_jn (G := fun (t1252 : qSto) => qW X (d + 7) yX1_tryFrom cX1_tryFrom 7 none 236 [(0, qr 11), (1, qi 1), (2, qi x2), (3, qi x3), (4, qi x4), (5, qi x5)] [] t1252 Q) h (fun t1252 h => ?_) (fun t1252 h hk3800 => ?_)
      · try dsimp only at h
        refine q_iinc (lv' := [(5, qi (x5 + 1)), (0, qr 11), (1, qi 1), (2, qi x2), (3, qi x3), (4, qi x4)]) dX1_tryFrom_236 (by decide) rfl rfl rfl ?_
        refine q_goto (pc' := 68) dX1_tryFrom_239 (by decide) ?_
        exact q_pick [1, 2, 3, 4, 5, 0] rfl (ih x2 x3 x4 (x5 + 1) _ _ h hE)
      · skip
        obtain ⟨c1145, h⟩ := qk_some h
        refine q_if_eq (tgt := 89) dX1_tryFrom_83 (by decide) rfl (qRb_R c1145)  (fun g => ?_) (fun g => ?_)
        · rw [if_pos (show (qb_iand (qb_ishr x2 x5) 1) = 0 from g)] at h
          refine q_aload_n dX1_tryFrom_89 rfl rfl ?_
          refine q_getA dX1_tryFrom_90 fl_X1_15 (hL 11 (by decide)) sh_11 (by decide) rfl rfl ?_
          refine q_iload dX1_tryFrom_93 rfl rfl ?_
          obtain ⟨c1146, h⟩ := qk_some h
          refine q_iaload dX1_tryFrom_95 (hL 48 (by decide)) sh_48 (qIx_0 c1146) (qIx_1 c1146) rfl ?_
          refine q_istore (lv' := [(6, qi (S 48 (Int.toNat x5))), (0, qr 11), (1, qi 1), (2, qi x2), (3, qi x3), (4, qi x4), (5, qi x5)]) dX1_tryFrom_96 (by decide) rfl rfl ?_
          refine q_aload_n dX1_tryFrom_98 rfl rfl ?_
          refine q_getA dX1_tryFrom_99 fl_X1_18 (hL 11 (by decide)) sh_11 (by decide) rfl rfl ?_
          refine q_iload_n dX1_tryFrom_102 rfl rfl ?_
          refine q_iload dX1_tryFrom_103 rfl rfl ?_
          refine q_iastore dX1_tryFrom_105 (hL 49 (by decide)) sh_49 (by decide) (by decide) rfl ?_
          refine q_aload_n dX1_tryFrom_106 rfl rfl ?_
          refine q_getA dX1_tryFrom_107 fl_X1_21 (hL 11 (by decide)) sh_11 (by decide) rfl rfl ?_
          refine q_iload dX1_tryFrom_110 rfl rfl ?_
          obtain ⟨c1147, h⟩ := qk_some h
          refine q_zaload dX1_tryFrom_112 (hL 50 (by decide)) sh_50 (qIx_0 c1147) (qIx_1 c1147) rfl ?_
          obtain ⟨c1148, h⟩ := qk_some h
          refine q_if_eq (tgt := 218) dX1_tryFrom_113 (by decide) rfl (qRb_R c1148)  (fun g => ?_) (fun g => ?_)
          · rw [if_pos (show ((qup S 49 1 (S 48 (Int.toNat x5))) 50 (Int.toNat x5)) = 0 from g)] at h
            refine q_aload_n dX1_tryFrom_218 rfl rfl ?_
            refine q_iload_n dX1_tryFrom_219 rfl rfl ?_
            refine q_iconst dX1_tryFrom_220 rfl rfl ?_
            refine q_iadd dX1_tryFrom_221 rfl ?_
            refine q_iload_n dX1_tryFrom_222 rfl rfl ?_
            refine q_iconst dX1_tryFrom_223 rfl rfl ?_
            refine q_iload dX1_tryFrom_224 rfl rfl ?_
            refine q_ishl dX1_tryFrom_226 rfl ?_
            refine q_ior dX1_tryFrom_227 rfl ?_
            refine q_iload_n dX1_tryFrom_228 rfl rfl ?_
            refine q_iconst dX1_tryFrom_229 rfl rfl ?_
            refine q_iadd dX1_tryFrom_230 rfl ?_
            refine q_iload dX1_tryFrom_231 rfl rfl ?_
            obtain ⟨q1233, h1234, h⟩ := Option.bind_eq_some_iff.mp h
            refine q_callVv (as := [qi (1 + 1), qi (qb_ior x2 (qb_ishl 1 x5)), qi (x3 + 1), qi x4]) (c := 11) dX1_tryFrom_233 ml_X1_70 rfl rfl (hL 11 (by decide)) sh_11 rfl rfl (Nat.le_of_ble_eq_true rfl) (FirstFour_tryFrom_n2_ok hL d (qb_ior x2 (qb_ishl 1 x5)) (x3 + 1) x4 _ _ h1234) rfl ?_
            cases h
            exact q_pick [1, 2, 3, 4, 5, 6] rfl hk3800
          · rw [if_neg (show ¬ (((qup S 49 1 (S 48 (Int.toNat x5))) 50 (Int.toNat x5)) = 0) from g)] at h
            refine q_aload_n dX1_tryFrom_116 rfl rfl ?_
            refine q_getA dX1_tryFrom_117 fl_X1_33 (hL 11 (by decide)) sh_11 (by decide) rfl rfl ?_
            refine q_iload dX1_tryFrom_120 rfl rfl ?_
            refine q_aload_n dX1_tryFrom_122 rfl rfl ?_
            refine q_getA dX1_tryFrom_123 fl_X1_25 (hL 11 (by decide)) sh_11 (by decide) rfl rfl ?_
            refine q_iload dX1_tryFrom_126 rfl rfl ?_
            refine q_bipush dX1_tryFrom_128 (by decide) rfl ?_
            obtain ⟨q1235, h1236, h⟩ := Option.bind_eq_some_iff.mp h
            refine q_callVi (as := [qi (S 48 (Int.toNat x5)), qi 8]) (c := 2) dX1_tryFrom_130 ml_X1_54 rfl rfl (hL 2 (by decide)) sh_2 rfl rfl (Nat.le_of_ble_eq_true rfl) (Told_contractOf_ok hL (d + 6) (S 48 (Int.toNat x5)) 8 _ _ h1236) rfl ?_
            refine q_aload_n dX1_tryFrom_133 rfl rfl ?_
            refine q_getA dX1_tryFrom_134 fl_X1_25 (hL 11 (by decide)) sh_11 (by decide) rfl rfl ?_
            refine q_iload dX1_tryFrom_137 rfl rfl ?_
            refine q_bipush dX1_tryFrom_139 (by decide) rfl ?_
            obtain ⟨q1237, h1238, h⟩ := Option.bind_eq_some_iff.mp h
            refine q_callVi (as := [qi (S 48 (Int.toNat x5)), qi 7]) (c := 2) dX1_tryFrom_141 ml_X1_54 rfl rfl (hL 2 (by decide)) sh_2 rfl rfl (Nat.le_of_ble_eq_true rfl) (Told_contractOf_ok hL (d + 6) (S 48 (Int.toNat x5)) 7 _ _ h1238) rfl ?_
            obtain ⟨q1239, h1240, h⟩ := Option.bind_eq_some_iff.mp h
            refine q_callVi (as := [qi (S 48 (Int.toNat x5)), qi q1235.1, qi q1237.1]) (c := 9) dX1_tryFrom_144 ml_X1_58 rfl rfl (hL 9 (by decide)) sh_9 rfl rfl (Nat.le_of_ble_eq_true rfl) (Search_find_ok hL (d + 2) (S 48 (Int.toNat x5)) q1235.1 q1237.1 _ _ h1240) rfl ?_
            obtain ⟨c1241, h⟩ := qk_some h
            refine q_if_eq (tgt := 218) dX1_tryFrom_147 (by decide) rfl (qRb_R c1241)  (fun g => ?_) (fun g => ?_)
            · rw [if_pos (show q1239.1 = 0 from g)] at h
              refine q_aload_n dX1_tryFrom_218 rfl rfl ?_
              refine q_iload_n dX1_tryFrom_219 rfl rfl ?_
              refine q_iconst dX1_tryFrom_220 rfl rfl ?_
              refine q_iadd dX1_tryFrom_221 rfl ?_
              refine q_iload_n dX1_tryFrom_222 rfl rfl ?_
              refine q_iconst dX1_tryFrom_223 rfl rfl ?_
              refine q_iload dX1_tryFrom_224 rfl rfl ?_
              refine q_ishl dX1_tryFrom_226 rfl ?_
              refine q_ior dX1_tryFrom_227 rfl ?_
              refine q_iload_n dX1_tryFrom_228 rfl rfl ?_
              refine q_iconst dX1_tryFrom_229 rfl rfl ?_
              refine q_iadd dX1_tryFrom_230 rfl ?_
              refine q_iload dX1_tryFrom_231 rfl rfl ?_
              obtain ⟨q1242, h1243, h⟩ := Option.bind_eq_some_iff.mp h
              refine q_callVv (as := [qi (1 + 1), qi (qb_ior x2 (qb_ishl 1 x5)), qi (x3 + 1), qi x4]) (c := 11) dX1_tryFrom_233 ml_X1_70 rfl rfl (hL 11 (by decide)) sh_11 rfl rfl (Nat.le_of_ble_eq_true rfl) (FirstFour_tryFrom_n2_ok hL d (qb_ior x2 (qb_ishl 1 x5)) (x3 + 1) x4 _ _ h1243) rfl ?_
              cases h
              exact q_pick [1, 2, 3, 4, 5, 6] rfl hk3800
            · rw [if_neg (show ¬ (q1239.1 = 0) from g)] at h
              refine q_aload_n dX1_tryFrom_150 rfl rfl ?_
              refine q_getA dX1_tryFrom_151 fl_X1_29 (hL 11 (by decide)) sh_11 (by decide) rfl rfl ?_
              refine q_iload dX1_tryFrom_154 rfl rfl ?_
              refine q_aload_n dX1_tryFrom_156 rfl rfl ?_
              refine q_getA dX1_tryFrom_157 fl_X1_33 (hL 11 (by decide)) sh_11 (by decide) rfl rfl ?_
              refine q_getI dX1_tryFrom_160 fl_X1_80 (hL 9 (by decide)) sh_9 (by decide) rfl rfl ?_
              refine q_aload_n dX1_tryFrom_163 rfl rfl ?_
              refine q_getA dX1_tryFrom_164 fl_X1_33 (hL 11 (by decide)) sh_11 (by decide) rfl rfl ?_
              refine q_getI dX1_tryFrom_167 fl_X1_83 (hL 9 (by decide)) sh_9 (by decide) rfl rfl ?_
              refine q_aload_n dX1_tryFrom_170 rfl rfl ?_
              refine q_getA dX1_tryFrom_171 fl_X1_33 (hL 11 (by decide)) sh_11 (by decide) rfl rfl ?_
              refine q_getI dX1_tryFrom_174 fl_X1_86 (hL 9 (by decide)) sh_9 (by decide) rfl rfl ?_
              obtain ⟨q1244, h1245, h⟩ := Option.bind_eq_some_iff.mp h
              refine q_callVv (as := [qi (S 48 (Int.toNat x5)), qi (q1239.2 9 5), qi (q1239.2 9 6), qi (q1239.2 9 7)]) (c := 6) dX1_tryFrom_177 ml_X1_89 rfl rfl (hL 6 (by decide)) sh_6 rfl rfl (Nat.le_of_ble_eq_true rfl) (Stays_lay_ok hL (d + 3) (S 48 (Int.toNat x5)) (q1239.2 9 5) (q1239.2 9 6) (q1239.2 9 7) _ _ h1245) rfl ?_
              refine q_aload_n dX1_tryFrom_180 rfl rfl ?_
              refine q_iload_n dX1_tryFrom_181 rfl rfl ?_
              refine q_iconst dX1_tryFrom_182 rfl rfl ?_
              refine q_iadd dX1_tryFrom_183 rfl ?_
              refine q_iload_n dX1_tryFrom_184 rfl rfl ?_
              refine q_iconst dX1_tryFrom_185 rfl rfl ?_
              refine q_iload dX1_tryFrom_186 rfl rfl ?_
              refine q_ishl dX1_tryFrom_188 rfl ?_
              refine q_ior dX1_tryFrom_189 rfl ?_
              refine q_iload_n dX1_tryFrom_190 rfl rfl ?_
              refine q_iload dX1_tryFrom_191 rfl rfl ?_
              refine q_aload_n dX1_tryFrom_193 rfl rfl ?_
              refine q_getA dX1_tryFrom_194 fl_X1_29 (hL 11 (by decide)) sh_11 (by decide) rfl rfl ?_
              refine q_iload dX1_tryFrom_197 rfl rfl ?_
              obtain ⟨q1246, h1247, h⟩ := Option.bind_eq_some_iff.mp h
              refine q_callVi (as := [qi (S 48 (Int.toNat x5))]) (c := 6) dX1_tryFrom_199 ml_X1_92 rfl rfl (hL 6 (by decide)) sh_6 rfl rfl (Nat.le_of_ble_eq_true rfl) (Stays_costOf_ok hL (d + 4) (S 48 (Int.toNat x5)) _ _ h1247) rfl ?_
              refine q_iadd dX1_tryFrom_202 rfl ?_
              obtain ⟨q1248, h1249, h⟩ := Option.bind_eq_some_iff.mp h
              refine q_callVv (as := [qi (1 + 1), qi (qb_ior x2 (qb_ishl 1 x5)), qi x3, qi (x4 + q1246.1)]) (c := 11) dX1_tryFrom_203 ml_X1_70 rfl rfl (hL 11 (by decide)) sh_11 rfl rfl (Nat.le_of_ble_eq_true rfl) (FirstFour_tryFrom_n2_ok hL d (qb_ior x2 (qb_ishl 1 x5)) x3 (x4 + q1246.1) _ _ h1249) rfl ?_
              refine q_aload_n dX1_tryFrom_206 rfl rfl ?_
              refine q_getA dX1_tryFrom_207 fl_X1_29 (hL 11 (by decide)) sh_11 (by decide) rfl rfl ?_
              refine q_iload dX1_tryFrom_210 rfl rfl ?_
              obtain ⟨q1250, h1251, h⟩ := Option.bind_eq_some_iff.mp h
              refine q_callVv (as := [qi (S 48 (Int.toNat x5))]) (c := 6) dX1_tryFrom_212 ml_X1_96 rfl rfl (hL 6 (by decide)) sh_6 rfl rfl (Nat.le_of_ble_eq_true rfl) (Stays_lift_ok hL (d + 4) (S 48 (Int.toNat x5)) _ _ h1251) rfl ?_
              refine q_goto (pc' := 236) dX1_tryFrom_215 (by decide) ?_
              cases h
              exact q_pick [1, 2, 3, 4, 5, 6] rfl hk3800
        · rw [if_neg (show ¬ ((qb_iand (qb_ishr x2 x5) 1) = 0) from g)] at h
          refine q_goto (pc' := 236) dX1_tryFrom_86 (by decide) ?_
          cases h
          exact q_pick [0, 1, 2, 3, 4, 5] rfl hk3800
set_option maxRecDepth 20000 in
theorem FirstFour_tryFrom_n1_ok {X : qX} (hL : ∀ c, c < 93 → c ∈ qLs X) (d : Nat) (a2 : Int) (a3 : Int) (a4 : Int) (S : qSto) (o : qSto) (h : FirstFour_tryFrom_n1 a2 a3 a4 S = some o) (Q : Option qV → qSto → Prop) (hQ : Q none o) : qC X (d + 7) yX1_tryFrom cX1_tryFrom 7 none [qr 11, qi 1, qi a2, qi a3, qi a4] S Q := by
  refine q_entry (lv := [(0, qr 11), (1, qi 1), (2, qi a2), (3, qi a3), (4, qi a4)]) pn_X1 (Nat.le_of_ble_eq_true rfl) rfl ?_
  unfold FirstFour_tryFrom_n1 at h
  refine q_iload_n dX1_tryFrom_0 rfl rfl ?_
  refine q_aload_n dX1_tryFrom_1 rfl rfl ?_
  refine q_getI dX1_tryFrom_2 fl_X1_64 (hL 11 (by decide)) sh_11 (by decide) rfl rfl ?_
  obtain ⟨c1138, h⟩ := qk_some h
  obtain ⟨c1139, h⟩ := qk_some h
  refine q_icmp_gt (tgt := 25) dX1_tryFrom_5 (by decide) rfl (qRb_R c1138) (qRb_R c1139) (fun g => ?_) (fun g => ?_)
  · rw [if_pos (show (S 11 5) < a3 from g)] at h
    cases h
    exact q_return dX1_tryFrom_25 rfl hQ
  · rw [if_neg (show ¬ ((S 11 5) < a3) from g)] at h
    refine q_iload_n dX1_tryFrom_8 rfl rfl ?_
    refine q_aload_n dX1_tryFrom_9 rfl rfl ?_
    refine q_getI dX1_tryFrom_10 fl_X1_64 (hL 11 (by decide)) sh_11 (by decide) rfl rfl ?_
    obtain ⟨c1140, h⟩ := qk_some h
    obtain ⟨c1141, h⟩ := qk_some h
    refine q_icmp_ne (tgt := 26) dX1_tryFrom_13 (by decide) rfl (qRb_R c1140) (qRb_R c1141) (fun g => ?_) (fun g => ?_)
    · rw [if_neg (show ¬ (a3 = (S 11 5)) from g)] at h
      refine q_iload_n dX1_tryFrom_26 rfl rfl ?_
      refine q_aload_n dX1_tryFrom_27 rfl rfl ?_
      refine q_getI dX1_tryFrom_28 fl_X1_41 (hL 11 (by decide)) sh_11 (by decide) rfl rfl ?_
      obtain ⟨c1142, h⟩ := qk_some h
      refine q_icmp_ge (tgt := 39) dX1_tryFrom_31 (by decide) rfl ⟨by decide, by decide⟩ (qRb_R c1142) (fun g => ?_) (fun g => ?_)
      · rw [if_pos (show (S 11 4) ≤ 1 from g)] at h
        refine q_aload_n dX1_tryFrom_39 rfl rfl ?_
        refine q_iload_n dX1_tryFrom_40 rfl rfl ?_
        refine q_putI dX1_tryFrom_41 fl_X1_64 (hL 11 (by decide)) sh_11 (by decide) pf_1_5 pt_1_5 rfl rfl ?_
        refine q_aload_n dX1_tryFrom_44 rfl rfl ?_
        refine q_iload dX1_tryFrom_45 rfl rfl ?_
        refine q_putI dX1_tryFrom_47 fl_X1_67 (hL 11 (by decide)) sh_11 (by decide) pf_1_6 pt_1_6 rfl rfl ?_
        refine q_aload_n dX1_tryFrom_50 rfl rfl ?_
        refine q_getA dX1_tryFrom_51 fl_X1_18 (hL 11 (by decide)) sh_11 (by decide) rfl rfl ?_
        refine q_iconst dX1_tryFrom_54 rfl rfl ?_
        refine q_aload_n dX1_tryFrom_55 rfl rfl ?_
        refine q_getA dX1_tryFrom_56 fl_X1_9 (hL 11 (by decide)) sh_11 (by decide) rfl rfl ?_
        refine q_iconst dX1_tryFrom_59 rfl rfl ?_
        refine q_iconst dX1_tryFrom_60 rfl rfl ?_
        refine q_copy dX1_tryFrom_61 cw_X1_74 (hL 49 (by decide)) (hL 47 (by decide)) sh_49 sh_47 (by decide) (by decide) (by decide) (by decide) (by decide) (Nat.le_of_ble_eq_true rfl) rfl ?_
        cases h
        exact q_return dX1_tryFrom_64 rfl hQ
      · rw [if_neg (show ¬ ((S 11 4) ≤ 1) from g)] at h
        refine q_iload_n dX1_tryFrom_34 rfl rfl ?_
        refine q_iconst dX1_tryFrom_35 rfl rfl ?_
        refine q_icmp_lt (tgt := 65) dX1_tryFrom_36 (by decide) rfl ⟨by decide, by decide⟩ ⟨by decide, by decide⟩ (fun g => ?_) (fun g => absurd g (by decide))
        refine q_iconst dX1_tryFrom_65 rfl rfl ?_
        refine q_istore (lv' := [(5, qi 0), (0, qr 11), (1, qi 1), (2, qi a2), (3, qi a3), (4, qi a4)]) dX1_tryFrom_66 (by decide) rfl rfl ?_
        obtain ⟨q1253, h1254, h⟩ := Option.bind_eq_some_iff.mp h
        refine q_pick [1, 2, 3, 4, 5, 0] rfl (FirstFour_tryFrom_n1_L68_ok hL d qF a2 a3 a4 0 _ _ h1254 ?_)
        cases h
        exact q_return dX1_tryFrom_242 rfl hQ
    · rw [if_pos (show a3 = (S 11 5) from g)] at h
      refine q_iload dX1_tryFrom_16 rfl rfl ?_
      refine q_aload_n dX1_tryFrom_18 rfl rfl ?_
      refine q_getI dX1_tryFrom_19 fl_X1_67 (hL 11 (by decide)) sh_11 (by decide) rfl rfl ?_
      obtain ⟨c1255, h⟩ := qk_some h
      obtain ⟨c1256, h⟩ := qk_some h
      refine q_icmp_lt (tgt := 26) dX1_tryFrom_22 (by decide) rfl (qRb_R c1255) (qRb_R c1256) (fun g => ?_) (fun g => ?_)
      · rw [if_pos (show a4 < (S 11 6) from g)] at h
        refine q_iload_n dX1_tryFrom_26 rfl rfl ?_
        refine q_aload_n dX1_tryFrom_27 rfl rfl ?_
        refine q_getI dX1_tryFrom_28 fl_X1_41 (hL 11 (by decide)) sh_11 (by decide) rfl rfl ?_
        obtain ⟨c1257, h⟩ := qk_some h
        refine q_icmp_ge (tgt := 39) dX1_tryFrom_31 (by decide) rfl ⟨by decide, by decide⟩ (qRb_R c1257) (fun g => ?_) (fun g => ?_)
        · rw [if_pos (show (S 11 4) ≤ 1 from g)] at h
          refine q_aload_n dX1_tryFrom_39 rfl rfl ?_
          refine q_iload_n dX1_tryFrom_40 rfl rfl ?_
          refine q_putI dX1_tryFrom_41 fl_X1_64 (hL 11 (by decide)) sh_11 (by decide) pf_1_5 pt_1_5 rfl rfl ?_
          refine q_aload_n dX1_tryFrom_44 rfl rfl ?_
          refine q_iload dX1_tryFrom_45 rfl rfl ?_
          refine q_putI dX1_tryFrom_47 fl_X1_67 (hL 11 (by decide)) sh_11 (by decide) pf_1_6 pt_1_6 rfl rfl ?_
          refine q_aload_n dX1_tryFrom_50 rfl rfl ?_
          refine q_getA dX1_tryFrom_51 fl_X1_18 (hL 11 (by decide)) sh_11 (by decide) rfl rfl ?_
          refine q_iconst dX1_tryFrom_54 rfl rfl ?_
          refine q_aload_n dX1_tryFrom_55 rfl rfl ?_
          refine q_getA dX1_tryFrom_56 fl_X1_9 (hL 11 (by decide)) sh_11 (by decide) rfl rfl ?_
          refine q_iconst dX1_tryFrom_59 rfl rfl ?_
          refine q_iconst dX1_tryFrom_60 rfl rfl ?_
          refine q_copy dX1_tryFrom_61 cw_X1_74 (hL 49 (by decide)) (hL 47 (by decide)) sh_49 sh_47 (by decide) (by decide) (by decide) (by decide) (by decide) (Nat.le_of_ble_eq_true rfl) rfl ?_
          cases h
          exact q_return dX1_tryFrom_64 rfl hQ
        · rw [if_neg (show ¬ ((S 11 4) ≤ 1) from g)] at h
          refine q_iload_n dX1_tryFrom_34 rfl rfl ?_
          refine q_iconst dX1_tryFrom_35 rfl rfl ?_
          refine q_icmp_lt (tgt := 65) dX1_tryFrom_36 (by decide) rfl ⟨by decide, by decide⟩ ⟨by decide, by decide⟩ (fun g => ?_) (fun g => absurd g (by decide))
          refine q_iconst dX1_tryFrom_65 rfl rfl ?_
          refine q_istore (lv' := [(5, qi 0), (0, qr 11), (1, qi 1), (2, qi a2), (3, qi a3), (4, qi a4)]) dX1_tryFrom_66 (by decide) rfl rfl ?_
          obtain ⟨q1258, h1259, h⟩ := Option.bind_eq_some_iff.mp h
          refine q_pick [1, 2, 3, 4, 5, 0] rfl (FirstFour_tryFrom_n1_L68_ok hL d qF a2 a3 a4 0 _ _ h1259 ?_)
          cases h
          exact q_return dX1_tryFrom_242 rfl hQ
      · rw [if_neg (show ¬ (a4 < (S 11 6)) from g)] at h
        cases h
        exact q_return dX1_tryFrom_25 rfl hQ
set_option maxRecDepth 20000 in
theorem FirstFour_tryFrom_n0_L68_ok {X : qX} (hL : ∀ c, c < 93 → c ∈ qLs X) (d : Nat) {Q : Option qV → qSto → Prop} : ∀ (n : Nat) (x2 : Int) (x3 : Int) (x4 : Int) (x5 : Int) (S : qSto) (o : qSto), FirstFour_tryFrom_n0_L68 n x2 x3 x4 x5 S = some o → (qW X (d + 8) yX1_tryFrom cX1_tryFrom 7 none 242 [] [] o Q) → qW X (d + 8) yX1_tryFrom cX1_tryFrom 7 none 68 [(0, qr 11), (1, qi 0), (2, qi x2), (3, qi x3), (4, qi x4), (5, qi x5)] [] S Q := by
  intro n
  induction n with
  | zero =>
    intro x2 x3 x4 x5 S o h
    simp [FirstFour_tryFrom_n0_L68] at h
  | succ n ih =>
    intro x2 x3 x4 x5 S o h hE
    rw [FirstFour_tryFrom_n0_L68] at h
    refine q_iload dX1_tryFrom_68 rfl rfl ?_
    refine q_aload_n dX1_tryFrom_70 rfl rfl ?_
    refine q_getI dX1_tryFrom_71 fl_X1_41 (hL 11 (by decide)) sh_11 (by decide) rfl rfl ?_
    obtain ⟨c1132, h⟩ := qk_some h
    obtain ⟨c1133, h⟩ := qk_some h
    refine q_icmp_ge (tgt := 242) dX1_tryFrom_74 (by decide) rfl (qRb_R c1132) (qRb_R c1133) (fun g => ?_) (fun g => ?_)
    · rw [if_pos (show (S 11 4) ≤ x5 from g)] at h
      cases h
      exact q_pick [] rfl (hE)
    · rw [if_neg (show ¬ ((S 11 4) ≤ x5) from g)] at h
      refine q_iload_n dX1_tryFrom_77 rfl rfl ?_
      refine q_iload dX1_tryFrom_78 rfl rfl ?_
      refine q_ishr dX1_tryFrom_80 rfl ?_
      refine q_iconst dX1_tryFrom_81 rfl rfl ?_
      refine q_iand dX1_tryFrom_82 rfl ?_
      refine q_jn (G := fun (t1279 : qSto) => qW X (d + 8) yX1_tryFrom cX1_tryFrom 7 none 236 [(0, qr 11), (1, qi 0), (2, qi x2), (3, qi x3), (4, qi x4), (5, qi x5)] [] t1279 Q) h (fun t1279 h => ?_) (fun t1279 h hk3801 => ?_)
      · try dsimp only at h
        refine q_iinc (lv' := [(5, qi (x5 + 1)), (0, qr 11), (1, qi 0), (2, qi x2), (3, qi x3), (4, qi x4)]) dX1_tryFrom_236 (by decide) rfl rfl rfl ?_
        refine q_goto (pc' := 68) dX1_tryFrom_239 (by decide) ?_
        exact q_pick [1, 2, 3, 4, 5, 0] rfl (ih x2 x3 x4 (x5 + 1) _ _ h hE)
      · skip
        obtain ⟨c1134, h⟩ := qk_some h
        refine q_if_eq (tgt := 89) dX1_tryFrom_83 (by decide) rfl (qRb_R c1134)  (fun g => ?_) (fun g => ?_)
        · rw [if_pos (show (qb_iand (qb_ishr x2 x5) 1) = 0 from g)] at h
          refine q_aload_n dX1_tryFrom_89 rfl rfl ?_
          refine q_getA dX1_tryFrom_90 fl_X1_15 (hL 11 (by decide)) sh_11 (by decide) rfl rfl ?_
          refine q_iload dX1_tryFrom_93 rfl rfl ?_
          obtain ⟨c1135, h⟩ := qk_some h
          refine q_iaload dX1_tryFrom_95 (hL 48 (by decide)) sh_48 (qIx_0 c1135) (qIx_1 c1135) rfl ?_
          refine q_istore (lv' := [(6, qi (S 48 (Int.toNat x5))), (0, qr 11), (1, qi 0), (2, qi x2), (3, qi x3), (4, qi x4), (5, qi x5)]) dX1_tryFrom_96 (by decide) rfl rfl ?_
          refine q_aload_n dX1_tryFrom_98 rfl rfl ?_
          refine q_getA dX1_tryFrom_99 fl_X1_18 (hL 11 (by decide)) sh_11 (by decide) rfl rfl ?_
          refine q_iload_n dX1_tryFrom_102 rfl rfl ?_
          refine q_iload dX1_tryFrom_103 rfl rfl ?_
          refine q_iastore dX1_tryFrom_105 (hL 49 (by decide)) sh_49 (by decide) (by decide) rfl ?_
          refine q_aload_n dX1_tryFrom_106 rfl rfl ?_
          refine q_getA dX1_tryFrom_107 fl_X1_21 (hL 11 (by decide)) sh_11 (by decide) rfl rfl ?_
          refine q_iload dX1_tryFrom_110 rfl rfl ?_
          obtain ⟨c1136, h⟩ := qk_some h
          refine q_zaload dX1_tryFrom_112 (hL 50 (by decide)) sh_50 (qIx_0 c1136) (qIx_1 c1136) rfl ?_
          obtain ⟨c1137, h⟩ := qk_some h
          refine q_if_eq (tgt := 218) dX1_tryFrom_113 (by decide) rfl (qRb_R c1137)  (fun g => ?_) (fun g => ?_)
          · rw [if_pos (show ((qup S 49 0 (S 48 (Int.toNat x5))) 50 (Int.toNat x5)) = 0 from g)] at h
            refine q_aload_n dX1_tryFrom_218 rfl rfl ?_
            refine q_iload_n dX1_tryFrom_219 rfl rfl ?_
            refine q_iconst dX1_tryFrom_220 rfl rfl ?_
            refine q_iadd dX1_tryFrom_221 rfl ?_
            refine q_iload_n dX1_tryFrom_222 rfl rfl ?_
            refine q_iconst dX1_tryFrom_223 rfl rfl ?_
            refine q_iload dX1_tryFrom_224 rfl rfl ?_
            refine q_ishl dX1_tryFrom_226 rfl ?_
            refine q_ior dX1_tryFrom_227 rfl ?_
            refine q_iload_n dX1_tryFrom_228 rfl rfl ?_
            refine q_iconst dX1_tryFrom_229 rfl rfl ?_
            refine q_iadd dX1_tryFrom_230 rfl ?_
            refine q_iload dX1_tryFrom_231 rfl rfl ?_
            obtain ⟨q1260, h1261, h⟩ := Option.bind_eq_some_iff.mp h
            refine q_callVv (as := [qi (0 + 1), qi (qb_ior x2 (qb_ishl 1 x5)), qi (x3 + 1), qi x4]) (c := 11) dX1_tryFrom_233 ml_X1_70 rfl rfl (hL 11 (by decide)) sh_11 rfl rfl (Nat.le_of_ble_eq_true rfl) (FirstFour_tryFrom_n1_ok hL d (qb_ior x2 (qb_ishl 1 x5)) (x3 + 1) x4 _ _ h1261) rfl ?_
            cases h
            exact q_pick [1, 2, 3, 4, 5, 6] rfl hk3801
          · rw [if_neg (show ¬ (((qup S 49 0 (S 48 (Int.toNat x5))) 50 (Int.toNat x5)) = 0) from g)] at h
            refine q_aload_n dX1_tryFrom_116 rfl rfl ?_
            refine q_getA dX1_tryFrom_117 fl_X1_33 (hL 11 (by decide)) sh_11 (by decide) rfl rfl ?_
            refine q_iload dX1_tryFrom_120 rfl rfl ?_
            refine q_aload_n dX1_tryFrom_122 rfl rfl ?_
            refine q_getA dX1_tryFrom_123 fl_X1_25 (hL 11 (by decide)) sh_11 (by decide) rfl rfl ?_
            refine q_iload dX1_tryFrom_126 rfl rfl ?_
            refine q_bipush dX1_tryFrom_128 (by decide) rfl ?_
            obtain ⟨q1262, h1263, h⟩ := Option.bind_eq_some_iff.mp h
            refine q_callVi (as := [qi (S 48 (Int.toNat x5)), qi 8]) (c := 2) dX1_tryFrom_130 ml_X1_54 rfl rfl (hL 2 (by decide)) sh_2 rfl rfl (Nat.le_of_ble_eq_true rfl) (Told_contractOf_ok hL (d + 7) (S 48 (Int.toNat x5)) 8 _ _ h1263) rfl ?_
            refine q_aload_n dX1_tryFrom_133 rfl rfl ?_
            refine q_getA dX1_tryFrom_134 fl_X1_25 (hL 11 (by decide)) sh_11 (by decide) rfl rfl ?_
            refine q_iload dX1_tryFrom_137 rfl rfl ?_
            refine q_bipush dX1_tryFrom_139 (by decide) rfl ?_
            obtain ⟨q1264, h1265, h⟩ := Option.bind_eq_some_iff.mp h
            refine q_callVi (as := [qi (S 48 (Int.toNat x5)), qi 7]) (c := 2) dX1_tryFrom_141 ml_X1_54 rfl rfl (hL 2 (by decide)) sh_2 rfl rfl (Nat.le_of_ble_eq_true rfl) (Told_contractOf_ok hL (d + 7) (S 48 (Int.toNat x5)) 7 _ _ h1265) rfl ?_
            obtain ⟨q1266, h1267, h⟩ := Option.bind_eq_some_iff.mp h
            refine q_callVi (as := [qi (S 48 (Int.toNat x5)), qi q1262.1, qi q1264.1]) (c := 9) dX1_tryFrom_144 ml_X1_58 rfl rfl (hL 9 (by decide)) sh_9 rfl rfl (Nat.le_of_ble_eq_true rfl) (Search_find_ok hL (d + 3) (S 48 (Int.toNat x5)) q1262.1 q1264.1 _ _ h1267) rfl ?_
            obtain ⟨c1268, h⟩ := qk_some h
            refine q_if_eq (tgt := 218) dX1_tryFrom_147 (by decide) rfl (qRb_R c1268)  (fun g => ?_) (fun g => ?_)
            · rw [if_pos (show q1266.1 = 0 from g)] at h
              refine q_aload_n dX1_tryFrom_218 rfl rfl ?_
              refine q_iload_n dX1_tryFrom_219 rfl rfl ?_
              refine q_iconst dX1_tryFrom_220 rfl rfl ?_
              refine q_iadd dX1_tryFrom_221 rfl ?_
              refine q_iload_n dX1_tryFrom_222 rfl rfl ?_
              refine q_iconst dX1_tryFrom_223 rfl rfl ?_
              refine q_iload dX1_tryFrom_224 rfl rfl ?_
              refine q_ishl dX1_tryFrom_226 rfl ?_
              refine q_ior dX1_tryFrom_227 rfl ?_
              refine q_iload_n dX1_tryFrom_228 rfl rfl ?_
              refine q_iconst dX1_tryFrom_229 rfl rfl ?_
              refine q_iadd dX1_tryFrom_230 rfl ?_
              refine q_iload dX1_tryFrom_231 rfl rfl ?_
              obtain ⟨q1269, h1270, h⟩ := Option.bind_eq_some_iff.mp h
              refine q_callVv (as := [qi (0 + 1), qi (qb_ior x2 (qb_ishl 1 x5)), qi (x3 + 1), qi x4]) (c := 11) dX1_tryFrom_233 ml_X1_70 rfl rfl (hL 11 (by decide)) sh_11 rfl rfl (Nat.le_of_ble_eq_true rfl) (FirstFour_tryFrom_n1_ok hL d (qb_ior x2 (qb_ishl 1 x5)) (x3 + 1) x4 _ _ h1270) rfl ?_
              cases h
              exact q_pick [1, 2, 3, 4, 5, 6] rfl hk3801
            · rw [if_neg (show ¬ (q1266.1 = 0) from g)] at h
              refine q_aload_n dX1_tryFrom_150 rfl rfl ?_
              refine q_getA dX1_tryFrom_151 fl_X1_29 (hL 11 (by decide)) sh_11 (by decide) rfl rfl ?_
              refine q_iload dX1_tryFrom_154 rfl rfl ?_
              refine q_aload_n dX1_tryFrom_156 rfl rfl ?_
              refine q_getA dX1_tryFrom_157 fl_X1_33 (hL 11 (by decide)) sh_11 (by decide) rfl rfl ?_
              refine q_getI dX1_tryFrom_160 fl_X1_80 (hL 9 (by decide)) sh_9 (by decide) rfl rfl ?_
              refine q_aload_n dX1_tryFrom_163 rfl rfl ?_
              refine q_getA dX1_tryFrom_164 fl_X1_33 (hL 11 (by decide)) sh_11 (by decide) rfl rfl ?_
              refine q_getI dX1_tryFrom_167 fl_X1_83 (hL 9 (by decide)) sh_9 (by decide) rfl rfl ?_
              refine q_aload_n dX1_tryFrom_170 rfl rfl ?_
              refine q_getA dX1_tryFrom_171 fl_X1_33 (hL 11 (by decide)) sh_11 (by decide) rfl rfl ?_
              refine q_getI dX1_tryFrom_174 fl_X1_86 (hL 9 (by decide)) sh_9 (by decide) rfl rfl ?_
              obtain ⟨q1271, h1272, h⟩ := Option.bind_eq_some_iff.mp h
              refine q_callVv (as := [qi (S 48 (Int.toNat x5)), qi (q1266.2 9 5), qi (q1266.2 9 6), qi (q1266.2 9 7)]) (c := 6) dX1_tryFrom_177 ml_X1_89 rfl rfl (hL 6 (by decide)) sh_6 rfl rfl (Nat.le_of_ble_eq_true rfl) (Stays_lay_ok hL (d + 4) (S 48 (Int.toNat x5)) (q1266.2 9 5) (q1266.2 9 6) (q1266.2 9 7) _ _ h1272) rfl ?_
              refine q_aload_n dX1_tryFrom_180 rfl rfl ?_
              refine q_iload_n dX1_tryFrom_181 rfl rfl ?_
              refine q_iconst dX1_tryFrom_182 rfl rfl ?_
              refine q_iadd dX1_tryFrom_183 rfl ?_
              refine q_iload_n dX1_tryFrom_184 rfl rfl ?_
              refine q_iconst dX1_tryFrom_185 rfl rfl ?_
              refine q_iload dX1_tryFrom_186 rfl rfl ?_
              refine q_ishl dX1_tryFrom_188 rfl ?_
              refine q_ior dX1_tryFrom_189 rfl ?_
              refine q_iload_n dX1_tryFrom_190 rfl rfl ?_
              refine q_iload dX1_tryFrom_191 rfl rfl ?_
              refine q_aload_n dX1_tryFrom_193 rfl rfl ?_
              refine q_getA dX1_tryFrom_194 fl_X1_29 (hL 11 (by decide)) sh_11 (by decide) rfl rfl ?_
              refine q_iload dX1_tryFrom_197 rfl rfl ?_
              obtain ⟨q1273, h1274, h⟩ := Option.bind_eq_some_iff.mp h
              refine q_callVi (as := [qi (S 48 (Int.toNat x5))]) (c := 6) dX1_tryFrom_199 ml_X1_92 rfl rfl (hL 6 (by decide)) sh_6 rfl rfl (Nat.le_of_ble_eq_true rfl) (Stays_costOf_ok hL (d + 5) (S 48 (Int.toNat x5)) _ _ h1274) rfl ?_
              refine q_iadd dX1_tryFrom_202 rfl ?_
              obtain ⟨q1275, h1276, h⟩ := Option.bind_eq_some_iff.mp h
              refine q_callVv (as := [qi (0 + 1), qi (qb_ior x2 (qb_ishl 1 x5)), qi x3, qi (x4 + q1273.1)]) (c := 11) dX1_tryFrom_203 ml_X1_70 rfl rfl (hL 11 (by decide)) sh_11 rfl rfl (Nat.le_of_ble_eq_true rfl) (FirstFour_tryFrom_n1_ok hL d (qb_ior x2 (qb_ishl 1 x5)) x3 (x4 + q1273.1) _ _ h1276) rfl ?_
              refine q_aload_n dX1_tryFrom_206 rfl rfl ?_
              refine q_getA dX1_tryFrom_207 fl_X1_29 (hL 11 (by decide)) sh_11 (by decide) rfl rfl ?_
              refine q_iload dX1_tryFrom_210 rfl rfl ?_
              obtain ⟨q1277, h1278, h⟩ := Option.bind_eq_some_iff.mp h
              refine q_callVv (as := [qi (S 48 (Int.toNat x5))]) (c := 6) dX1_tryFrom_212 ml_X1_96 rfl rfl (hL 6 (by decide)) sh_6 rfl rfl (Nat.le_of_ble_eq_true rfl) (Stays_lift_ok hL (d + 5) (S 48 (Int.toNat x5)) _ _ h1278) rfl ?_
              refine q_goto (pc' := 236) dX1_tryFrom_215 (by decide) ?_
              cases h
              exact q_pick [1, 2, 3, 4, 5, 6] rfl hk3801
        · rw [if_neg (show ¬ ((qb_iand (qb_ishr x2 x5) 1) = 0) from g)] at h
          refine q_goto (pc' := 236) dX1_tryFrom_86 (by decide) ?_
          cases h
          exact q_pick [0, 1, 2, 3, 4, 5] rfl hk3801
set_option maxRecDepth 20000 in
theorem FirstFour_tryFrom_n0_ok {X : qX} (hL : ∀ c, c < 93 → c ∈ qLs X) (d : Nat) (a2 : Int) (a3 : Int) (a4 : Int) (S : qSto) (o : qSto) (h : FirstFour_tryFrom_n0 a2 a3 a4 S = some o) (Q : Option qV → qSto → Prop) (hQ : Q none o) : qC X (d + 8) yX1_tryFrom cX1_tryFrom 7 none [qr 11, qi 0, qi a2, qi a3, qi a4] S Q := by
  refine q_entry (lv := [(0, qr 11), (1, qi 0), (2, qi a2), (3, qi a3), (4, qi a4)]) pn_X1 (Nat.le_of_ble_eq_true rfl) rfl ?_
  unfold FirstFour_tryFrom_n0 at h
  refine q_iload_n dX1_tryFrom_0 rfl rfl ?_
  refine q_aload_n dX1_tryFrom_1 rfl rfl ?_
  refine q_getI dX1_tryFrom_2 fl_X1_64 (hL 11 (by decide)) sh_11 (by decide) rfl rfl ?_
  obtain ⟨c1127, h⟩ := qk_some h
  obtain ⟨c1128, h⟩ := qk_some h
  refine q_icmp_gt (tgt := 25) dX1_tryFrom_5 (by decide) rfl (qRb_R c1127) (qRb_R c1128) (fun g => ?_) (fun g => ?_)
  · rw [if_pos (show (S 11 5) < a3 from g)] at h
    cases h
    exact q_return dX1_tryFrom_25 rfl hQ
  · rw [if_neg (show ¬ ((S 11 5) < a3) from g)] at h
    refine q_iload_n dX1_tryFrom_8 rfl rfl ?_
    refine q_aload_n dX1_tryFrom_9 rfl rfl ?_
    refine q_getI dX1_tryFrom_10 fl_X1_64 (hL 11 (by decide)) sh_11 (by decide) rfl rfl ?_
    obtain ⟨c1129, h⟩ := qk_some h
    obtain ⟨c1130, h⟩ := qk_some h
    refine q_icmp_ne (tgt := 26) dX1_tryFrom_13 (by decide) rfl (qRb_R c1129) (qRb_R c1130) (fun g => ?_) (fun g => ?_)
    · rw [if_neg (show ¬ (a3 = (S 11 5)) from g)] at h
      refine q_iload_n dX1_tryFrom_26 rfl rfl ?_
      refine q_aload_n dX1_tryFrom_27 rfl rfl ?_
      refine q_getI dX1_tryFrom_28 fl_X1_41 (hL 11 (by decide)) sh_11 (by decide) rfl rfl ?_
      obtain ⟨c1131, h⟩ := qk_some h
      refine q_icmp_ge (tgt := 39) dX1_tryFrom_31 (by decide) rfl ⟨by decide, by decide⟩ (qRb_R c1131) (fun g => ?_) (fun g => ?_)
      · rw [if_pos (show (S 11 4) ≤ 0 from g)] at h
        refine q_aload_n dX1_tryFrom_39 rfl rfl ?_
        refine q_iload_n dX1_tryFrom_40 rfl rfl ?_
        refine q_putI dX1_tryFrom_41 fl_X1_64 (hL 11 (by decide)) sh_11 (by decide) pf_1_5 pt_1_5 rfl rfl ?_
        refine q_aload_n dX1_tryFrom_44 rfl rfl ?_
        refine q_iload dX1_tryFrom_45 rfl rfl ?_
        refine q_putI dX1_tryFrom_47 fl_X1_67 (hL 11 (by decide)) sh_11 (by decide) pf_1_6 pt_1_6 rfl rfl ?_
        refine q_aload_n dX1_tryFrom_50 rfl rfl ?_
        refine q_getA dX1_tryFrom_51 fl_X1_18 (hL 11 (by decide)) sh_11 (by decide) rfl rfl ?_
        refine q_iconst dX1_tryFrom_54 rfl rfl ?_
        refine q_aload_n dX1_tryFrom_55 rfl rfl ?_
        refine q_getA dX1_tryFrom_56 fl_X1_9 (hL 11 (by decide)) sh_11 (by decide) rfl rfl ?_
        refine q_iconst dX1_tryFrom_59 rfl rfl ?_
        refine q_iconst dX1_tryFrom_60 rfl rfl ?_
        refine q_copy dX1_tryFrom_61 cw_X1_74 (hL 49 (by decide)) (hL 47 (by decide)) sh_49 sh_47 (by decide) (by decide) (by decide) (by decide) (by decide) (Nat.le_of_ble_eq_true rfl) rfl ?_
        cases h
        exact q_return dX1_tryFrom_64 rfl hQ
      · rw [if_neg (show ¬ ((S 11 4) ≤ 0) from g)] at h
        refine q_iload_n dX1_tryFrom_34 rfl rfl ?_
        refine q_iconst dX1_tryFrom_35 rfl rfl ?_
        refine q_icmp_lt (tgt := 65) dX1_tryFrom_36 (by decide) rfl ⟨by decide, by decide⟩ ⟨by decide, by decide⟩ (fun g => ?_) (fun g => absurd g (by decide))
        refine q_iconst dX1_tryFrom_65 rfl rfl ?_
        refine q_istore (lv' := [(5, qi 0), (0, qr 11), (1, qi 0), (2, qi a2), (3, qi a3), (4, qi a4)]) dX1_tryFrom_66 (by decide) rfl rfl ?_
        obtain ⟨q1280, h1281, h⟩ := Option.bind_eq_some_iff.mp h
        refine q_pick [1, 2, 3, 4, 5, 0] rfl (FirstFour_tryFrom_n0_L68_ok hL d qF a2 a3 a4 0 _ _ h1281 ?_)
        cases h
        exact q_return dX1_tryFrom_242 rfl hQ
    · rw [if_pos (show a3 = (S 11 5) from g)] at h
      refine q_iload dX1_tryFrom_16 rfl rfl ?_
      refine q_aload_n dX1_tryFrom_18 rfl rfl ?_
      refine q_getI dX1_tryFrom_19 fl_X1_67 (hL 11 (by decide)) sh_11 (by decide) rfl rfl ?_
      obtain ⟨c1282, h⟩ := qk_some h
      obtain ⟨c1283, h⟩ := qk_some h
      refine q_icmp_lt (tgt := 26) dX1_tryFrom_22 (by decide) rfl (qRb_R c1282) (qRb_R c1283) (fun g => ?_) (fun g => ?_)
      · rw [if_pos (show a4 < (S 11 6) from g)] at h
        refine q_iload_n dX1_tryFrom_26 rfl rfl ?_
        refine q_aload_n dX1_tryFrom_27 rfl rfl ?_
        refine q_getI dX1_tryFrom_28 fl_X1_41 (hL 11 (by decide)) sh_11 (by decide) rfl rfl ?_
        obtain ⟨c1284, h⟩ := qk_some h
        refine q_icmp_ge (tgt := 39) dX1_tryFrom_31 (by decide) rfl ⟨by decide, by decide⟩ (qRb_R c1284) (fun g => ?_) (fun g => ?_)
        · rw [if_pos (show (S 11 4) ≤ 0 from g)] at h
          refine q_aload_n dX1_tryFrom_39 rfl rfl ?_
          refine q_iload_n dX1_tryFrom_40 rfl rfl ?_
          refine q_putI dX1_tryFrom_41 fl_X1_64 (hL 11 (by decide)) sh_11 (by decide) pf_1_5 pt_1_5 rfl rfl ?_
          refine q_aload_n dX1_tryFrom_44 rfl rfl ?_
          refine q_iload dX1_tryFrom_45 rfl rfl ?_
          refine q_putI dX1_tryFrom_47 fl_X1_67 (hL 11 (by decide)) sh_11 (by decide) pf_1_6 pt_1_6 rfl rfl ?_
          refine q_aload_n dX1_tryFrom_50 rfl rfl ?_
          refine q_getA dX1_tryFrom_51 fl_X1_18 (hL 11 (by decide)) sh_11 (by decide) rfl rfl ?_
          refine q_iconst dX1_tryFrom_54 rfl rfl ?_
          refine q_aload_n dX1_tryFrom_55 rfl rfl ?_
          refine q_getA dX1_tryFrom_56 fl_X1_9 (hL 11 (by decide)) sh_11 (by decide) rfl rfl ?_
          refine q_iconst dX1_tryFrom_59 rfl rfl ?_
          refine q_iconst dX1_tryFrom_60 rfl rfl ?_
          refine q_copy dX1_tryFrom_61 cw_X1_74 (hL 49 (by decide)) (hL 47 (by decide)) sh_49 sh_47 (by decide) (by decide) (by decide) (by decide) (by decide) (Nat.le_of_ble_eq_true rfl) rfl ?_
          cases h
          exact q_return dX1_tryFrom_64 rfl hQ
        · rw [if_neg (show ¬ ((S 11 4) ≤ 0) from g)] at h
          refine q_iload_n dX1_tryFrom_34 rfl rfl ?_
          refine q_iconst dX1_tryFrom_35 rfl rfl ?_
          refine q_icmp_lt (tgt := 65) dX1_tryFrom_36 (by decide) rfl ⟨by decide, by decide⟩ ⟨by decide, by decide⟩ (fun g => ?_) (fun g => absurd g (by decide))
          refine q_iconst dX1_tryFrom_65 rfl rfl ?_
          refine q_istore (lv' := [(5, qi 0), (0, qr 11), (1, qi 0), (2, qi a2), (3, qi a3), (4, qi a4)]) dX1_tryFrom_66 (by decide) rfl rfl ?_
          obtain ⟨q1285, h1286, h⟩ := Option.bind_eq_some_iff.mp h
          refine q_pick [1, 2, 3, 4, 5, 0] rfl (FirstFour_tryFrom_n0_L68_ok hL d qF a2 a3 a4 0 _ _ h1286 ?_)
          cases h
          exact q_return dX1_tryFrom_242 rfl hQ
      · rw [if_neg (show ¬ (a4 < (S 11 6)) from g)] at h
        cases h
        exact q_return dX1_tryFrom_25 rfl hQ
