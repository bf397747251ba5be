set_option maxRecDepth 20000 in
theorem C_drawEarlier_L50_ok {X : qX} (hL : ∀ c, c < 93 → c ∈ qLs X) (d : Nat) {Q : Option qV → qSto → Prop} : ∀ (n : Nat) (x1 : Int) (x2 : Int) (x3 : Int) (x4 : Int) (x5 : Int) (S : qSto) (o : (qSto ⊕ (Int × qSto))), C_drawEarlier_L50 n x1 x2 x3 x4 x5 S = some o → (∀ t, o = Sum.inl t → qW X (d + 6) yX11_drawEarlier cX11_drawEarlier 6 (some .boolean) 77 [(0, qr 0), (1, qi x1)] [] t Q) → (∀ w, o = Sum.inr w → Q (some (qi w.1)) w.2) → qW X (d + 6) yX11_drawEarlier cX11_drawEarlier 6 (some .boolean) 50 [(0, qr 0), (1, qi x1), (2, qi x2), (3, qi x3), (4, qi x4), (5, qi x5)] [] S Q := by
  intro n
  induction n with
  | zero =>
    intro x1 x2 x3 x4 x5 S o h
    simp [C_drawEarlier_L50] at h
  | succ n ih =>
    intro x1 x2 x3 x4 x5 S o h hE hR
    rw [C_drawEarlier_L50] at h
    refine q_iload dX11_drawEarlier_50 rfl rfl ?_
    refine q_iload dX11_drawEarlier_52 rfl rfl ?_
    obtain ⟨c1237, h⟩ := qk_some h
    obtain ⟨c1238, h⟩ := qk_some h
    refine q_icmp_ge (tgt := 77) dX11_drawEarlier_54 (by decide) rfl (qRb_R c1237) (qRb_R c1238) (fun g => ?_) (fun g => ?_)
    · rw [if_pos (show x4 ≤ x5 from g)] at h
      cases h
      exact q_pick [0, 1] rfl (hE _ rfl)
    · rw [if_neg (show ¬ (x4 ≤ x5) from g)] at h
      refine q_aload_n dX11_drawEarlier_57 rfl rfl ?_
      refine q_iload_n dX11_drawEarlier_58 rfl rfl ?_
      refine q_iload_n dX11_drawEarlier_59 rfl rfl ?_
      refine q_iload dX11_drawEarlier_60 rfl rfl ?_
      refine q_iload_n dX11_drawEarlier_62 rfl rfl ?_
      obtain ⟨q1239, h1240, h⟩ := Option.bind_eq_some_iff.mp h
      refine q_callVi (as := [qi x1, qi x2, qi x5, qi x3]) (c := 0) dX11_drawEarlier_63 ml_X11_332 rfl rfl (hL 0 (by decide)) sh_0 rfl rfl (Nat.le_of_ble_eq_true rfl) (C_layLawful_ok hL d x1 x2 x5 x3 _ _ h1240) rfl ?_
      obtain ⟨c1241, h⟩ := qk_some h
      refine q_if_ne (tgt := 71) dX11_drawEarlier_66 (by decide) rfl (qRb_R c1241)  (fun g => ?_) (fun g => ?_)
      · rw [if_neg (show ¬ (q1239.1 = 0) from g)] at h
        refine q_iinc (lv' := [(5, qi (x5 + 1)), (0, qr 0), (1, qi x1), (2, qi x2), (3, qi x3), (4, qi x4)]) dX11_drawEarlier_71 (by decide) rfl rfl rfl ?_
        refine q_goto (pc' := 50) dX11_drawEarlier_74 (by decide) ?_
        exact q_pick [1, 2, 3, 4, 5, 0] rfl (ih x1 x2 x3 x4 (x5 + 1) _ _ h hE hR)
      · rw [if_pos (show q1239.1 = 0 from g)] at h
        refine q_iconst dX11_drawEarlier_69 rfl rfl ?_
        cases h
        exact q_zreturn dX11_drawEarlier_70 rfl (by decide) (hR _ rfl)
set_option maxRecDepth 20000 in
theorem C_drawEarlier_ok {X : qX} (hL : ∀ c, c < 93 → c ∈ qLs X) (d : Nat) (a1 : Int) (S : qSto) (o : (Int × qSto)) (h : C_drawEarlier a1 S = some o) (Q : Option qV → qSto → Prop) (hQ : Q (some (qi o.1)) o.2) : qC X (d + 6) yX11_drawEarlier cX11_drawEarlier 6 (some .boolean) [qr 0, qi a1] S Q := by
  refine q_entry (lv := [(0, qr 0), (1, qi a1)]) pn_X11 (Nat.le_of_ble_eq_true rfl) rfl ?_
  unfold C_drawEarlier at h
  refine q_aload_n dX11_drawEarlier_0 rfl rfl ?_
  refine q_getA dX11_drawEarlier_1 fl_X11_49 (hL 0 (by decide)) sh_0 (by decide) rfl rfl ?_
  refine q_getA dX11_drawEarlier_4 fl_X11_225 (hL 6 (by decide)) sh_6 (by decide) rfl rfl ?_
  refine q_iload_n dX11_drawEarlier_7 rfl rfl ?_
  obtain ⟨c1230, h⟩ := qk_some h
  refine q_iaload dX11_drawEarlier_8 (hL 37 (by decide)) sh_37 (qIx_0 c1230) (qIx_1 c1230) rfl ?_
  refine q_istore_n (lv' := [(2, qi (S 37 (Int.toNat a1))), (0, qr 0), (1, qi a1)]) dX11_drawEarlier_9 (by decide) rfl rfl ?_
  refine q_aload_n dX11_drawEarlier_10 rfl rfl ?_
  refine q_getA dX11_drawEarlier_11 fl_X11_49 (hL 0 (by decide)) sh_0 (by decide) rfl rfl ?_
  refine q_getA dX11_drawEarlier_14 fl_X11_231 (hL 6 (by decide)) sh_6 (by decide) rfl rfl ?_
  refine q_iload_n dX11_drawEarlier_17 rfl rfl ?_
  obtain ⟨c1231, h⟩ := qk_some h
  refine q_iaload dX11_drawEarlier_18 (hL 40 (by decide)) sh_40 (qIx_0 c1231) (qIx_1 c1231) rfl ?_
  refine q_istore_n (lv' := [(3, qi (S 40 (Int.toNat a1))), (2, qi (S 37 (Int.toNat a1))), (0, qr 0), (1, qi a1)]) dX11_drawEarlier_19 (by decide) rfl rfl ?_
  refine q_aload_n dX11_drawEarlier_20 rfl rfl ?_
  refine q_getA dX11_drawEarlier_21 fl_X11_49 (hL 0 (by decide)) sh_0 (by decide) rfl rfl ?_
  refine q_getA dX11_drawEarlier_24 fl_X11_228 (hL 6 (by decide)) sh_6 (by decide) rfl rfl ?_
  refine q_iload_n dX11_drawEarlier_27 rfl rfl ?_
  obtain ⟨c1232, h⟩ := qk_some h
  refine q_iaload dX11_drawEarlier_28 (hL 39 (by decide)) sh_39 (qIx_0 c1232) (qIx_1 c1232) rfl ?_
  refine q_istore (lv' := [(4, qi (S 39 (Int.toNat a1))), (3, qi (S 40 (Int.toNat a1))), (2, qi (S 37 (Int.toNat a1))), (0, qr 0), (1, qi a1)]) dX11_drawEarlier_29 (by decide) rfl rfl ?_
  refine q_aload_n dX11_drawEarlier_31 rfl rfl ?_
  refine q_getA dX11_drawEarlier_32 fl_X11_49 (hL 0 (by decide)) sh_0 (by decide) rfl rfl ?_
  refine q_iload_n dX11_drawEarlier_35 rfl rfl ?_
  obtain ⟨q1233, h1234, h⟩ := Option.bind_eq_some_iff.mp h
  refine q_callVv (as := [qi a1]) (c := 6) dX11_drawEarlier_36 ml_X11_260 rfl rfl (hL 6 (by decide)) sh_6 rfl rfl (Nat.le_of_ble_eq_true rfl) (Stays_takeUp_ok hL (d + 2) a1 _ _ h1234) rfl ?_
  refine q_aload_n dX11_drawEarlier_39 rfl rfl ?_
  refine q_getA dX11_drawEarlier_40 fl_X11_16 (hL 0 (by decide)) sh_0 (by decide) rfl rfl ?_
  refine q_iload_n dX11_drawEarlier_43 rfl rfl ?_
  refine q_iconst dX11_drawEarlier_44 rfl rfl ?_
  obtain ⟨q1235, h1236, h⟩ := Option.bind_eq_some_iff.mp h
  refine q_callVi (as := [qi a1, qi 4]) (c := 2) dX11_drawEarlier_45 ml_X11_219 rfl rfl (hL 2 (by decide)) sh_2 rfl rfl (Nat.le_of_ble_eq_true rfl) (Told_contractOf_ok hL (d + 5) a1 4 _ _ h1236) rfl ?_
  refine q_istore (lv' := [(5, qi q1235.1), (4, qi (S 39 (Int.toNat a1))), (3, qi (S 40 (Int.toNat a1))), (2, qi (S 37 (Int.toNat a1))), (0, qr 0), (1, qi a1)]) dX11_drawEarlier_48 (by decide) rfl rfl ?_
  obtain ⟨q1242, h1243, h⟩ := Option.bind_eq_some_iff.mp h
  refine q_pick [4, 5, 3, 2, 1, 0] rfl (C_drawEarlier_L50_ok hL d qF a1 (S 37 (Int.toNat a1)) (S 40 (Int.toNat a1)) (S 39 (Int.toNat a1)) q1235.1 _ _ h1243 (fun t1244 e4126 => ?_) (fun w e4126 => ?_))
  · subst e4126
    simp only [Sum.elim_inl] at h
    refine q_aload_n dX11_drawEarlier_77 rfl rfl ?_
    refine q_getA dX11_drawEarlier_78 fl_X11_49 (hL 0 (by decide)) sh_0 (by decide) rfl rfl ?_
    refine q_iload_n dX11_drawEarlier_81 rfl rfl ?_
    obtain ⟨q1245, h1246, h⟩ := Option.bind_eq_some_iff.mp h
    refine q_callVv (as := [qi a1]) (c := 6) dX11_drawEarlier_82 ml_X11_267 rfl rfl (hL 6 (by decide)) sh_6 rfl rfl (Nat.le_of_ble_eq_true rfl) (Stays_layBack_ok hL (d + 1) a1 _ _ h1246) rfl ?_
    refine q_iconst dX11_drawEarlier_85 rfl rfl ?_
    cases h
    exact q_zreturn dX11_drawEarlier_86 rfl (by decide) hQ
  · subst e4126
    simp only [Sum.elim_inr] at h
    cases h
    exact hQ
set_option maxRecDepth 20000 in
theorem C_squeeze_L20_ok {X : qX} (hL : ∀ c, c < 93 → c ∈ qLs X) (d : Nat) {Q : Option qV → qSto → Prop} : ∀ (n : Nat) (x1 : Int) (x2 : Int) (x3 : Int) (x4 : Int) (S : qSto) (o : (Int × qSto)), C_squeeze_L20 n x1 x2 x3 x4 S = some o → (qW X (d + 7) yX11_squeeze cX11_squeeze 6 (some .int) 82 [(0, qr 0), (1, qi o.1)] [] o.2 Q) → qW X (d + 7) yX11_squeeze cX11_squeeze 6 (some .int) 20 [(0, qr 0), (1, qi x1), (2, qi x2), (3, qi x3), (4, qi x4)] [] S Q := by
  intro n
  induction n with
  | zero =>
    intro x1 x2 x3 x4 S o h
    simp [C_squeeze_L20] at h
  | succ n ih =>
    intro x1 x2 x3 x4 S o h hE
    rw [C_squeeze_L20] at h
    refine q_iload dX11_squeeze_20 rfl rfl ?_
    refine q_aload_n dX11_squeeze_22 rfl rfl ?_
    refine q_getA dX11_squeeze_23 fl_X11_16 (hL 0 (by decide)) sh_0 (by decide) rfl rfl ?_
    refine q_getI dX11_squeeze_26 fl_X11_158 (hL 2 (by decide)) sh_2 (by decide) rfl rfl ?_
    obtain ⟨c1206, h⟩ := qk_some h
    obtain ⟨c1207, h⟩ := qk_some h
    refine q_icmp_ge (tgt := 82) dX11_squeeze_29 (by decide) rfl (qRb_R c1206) (qRb_R c1207) (fun g => ?_) (fun g => ?_)
    · rw [if_pos (show (S 2 12) ≤ x4 from g)] at h
      cases h
      exact q_pick [0, 1] rfl (hE)
    · rw [if_neg (show ¬ ((S 2 12) ≤ x4) from g)] at h
      refine q_aload_n dX11_squeeze_32 rfl rfl ?_
      refine q_iload_n dX11_squeeze_33 rfl rfl ?_
      refine q_iload_n dX11_squeeze_34 rfl rfl ?_
      obtain ⟨q1226, h1227, h⟩ := Option.bind_eq_some_iff.mp h
      refine q_callVi (as := [qi x2, qi x3]) (c := 0) dX11_squeeze_35 ml_X11_338 rfl rfl (hL 0 (by decide)) sh_0 rfl rfl (Nat.le_of_ble_eq_true rfl) (C_nextByOldSlot_ok hL (d + 6) x2 x3 _ _ h1227) rfl ?_
      refine q_istore (lv' := [(5, qi q1226.1), (0, qr 0), (1, qi x1), (2, qi x2), (3, qi x3), (4, qi x4)]) dX11_squeeze_38 (by decide) rfl rfl ?_
      refine q_iload dX11_squeeze_40 rfl rfl ?_
      refine q_iconst dX11_squeeze_42 rfl rfl ?_
      obtain ⟨c1228, h⟩ := qk_some h
      refine q_icmp_ne (tgt := 49) dX11_squeeze_43 (by decide) rfl (qRb_R c1228) ⟨by decide, by decide⟩ (fun g => ?_) (fun g => ?_)
      · rw [if_neg (show ¬ (q1226.1 = (-1)) from g)] at h
        refine q_aload_n dX11_squeeze_49 rfl rfl ?_
        refine q_getA dX11_squeeze_50 fl_X11_110 (hL 0 (by decide)) sh_0 (by decide) rfl rfl ?_
        refine q_iload dX11_squeeze_53 rfl rfl ?_
        refine q_iconst dX11_squeeze_55 rfl rfl ?_
        refine q_imul dX11_squeeze_56 rfl ?_
        refine q_iconst dX11_squeeze_57 rfl rfl ?_
        refine q_iadd dX11_squeeze_58 rfl ?_
        obtain ⟨c1229, h⟩ := qk_some h
        refine q_iaload dX11_squeeze_59 (hL 14 (by decide)) sh_14 (qIx_0 c1229) (qIx_1 c1229) rfl ?_
        refine q_istore_n (lv' := [(2, qi (q1226.2 14 (Int.toNat ((q1226.1 * 3) + 1)))), (5, qi q1226.1), (0, qr 0), (1, qi x1), (3, qi x3), (4, qi x4)]) dX11_squeeze_60 (by decide) rfl rfl ?_
        refine q_iload dX11_squeeze_61 rfl rfl ?_
        refine q_istore_n (lv' := [(3, qi q1226.1), (2, qi (q1226.2 14 (Int.toNat ((q1226.1 * 3) + 1)))), (5, qi q1226.1), (0, qr 0), (1, qi x1), (4, qi x4)]) dX11_squeeze_63 (by decide) rfl rfl ?_
        refine q_aload_n dX11_squeeze_64 rfl rfl ?_
        refine q_iload dX11_squeeze_65 rfl rfl ?_
        obtain ⟨q1247, h1248, h⟩ := Option.bind_eq_some_iff.mp h
        refine q_callVi (as := [qi q1226.1]) (c := 0) dX11_squeeze_67 ml_X11_341 rfl rfl (hL 0 (by decide)) sh_0 rfl rfl (Nat.le_of_ble_eq_true rfl) (C_drawEarlier_ok hL d q1226.1 _ _ h1248) rfl ?_
        refine q_jn (G := fun (t1250 : Int) => qW X (d + 7) yX11_squeeze cX11_squeeze 6 (some .int) 76 [(0, qr 0), (1, qi t1250), (2, qi (q1226.2 14 (Int.toNat ((q1226.1 * 3) + 1)))), (3, qi q1226.1), (4, qi x4)] [] q1247.2 Q) h (fun t1250 h => ?_) (fun t1250 h hk4127 => ?_)
        · try dsimp only at h
          refine q_iinc (lv' := [(4, qi (x4 + 1)), (0, qr 0), (1, qi t1250), (2, qi (q1226.2 14 (Int.toNat ((q1226.1 * 3) + 1)))), (3, qi q1226.1)]) dX11_squeeze_76 (by decide) rfl rfl rfl ?_
          refine q_goto (pc' := 20) dX11_squeeze_79 (by decide) ?_
          exact q_pick [1, 2, 3, 4, 0] rfl (ih t1250 (q1226.2 14 (Int.toNat ((q1226.1 * 3) + 1))) q1226.1 (x4 + 1) _ _ h hE)
        · skip
          obtain ⟨c1249, h⟩ := qk_some h
          refine q_if_eq (tgt := 76) dX11_squeeze_70 (by decide) rfl (qRb_R c1249)  (fun g => ?_) (fun g => ?_)
          · rw [if_pos (show q1247.1 = 0 from g)] at h
            cases h
            exact q_pick [3, 4, 1, 0, 5] rfl hk4127
          · rw [if_neg (show ¬ (q1247.1 = 0) from g)] at h
            refine q_iinc (lv' := [(1, qi (x1 + 1)), (3, qi q1226.1), (2, qi (q1226.2 14 (Int.toNat ((q1226.1 * 3) + 1)))), (5, qi q1226.1), (0, qr 0), (4, qi x4)]) dX11_squeeze_73 (by decide) rfl rfl rfl ?_
            cases h
            exact q_pick [4, 0, 2, 1, 5] rfl hk4127
      · rw [if_pos (show q1226.1 = (-1) from g)] at h
        refine q_goto (pc' := 82) dX11_squeeze_46 (by decide) ?_
        cases h
        exact q_pick [1, 2] rfl (hE)
set_option maxRecDepth 20000 in
theorem C_squeeze_ok {X : qX} (hL : ∀ c, c < 93 → c ∈ qLs X) (d : Nat) (S : qSto) (o : (Int × qSto)) (h : C_squeeze S = some o) (Q : Option qV → qSto → Prop) (hQ : Q (some (qi o.1)) o.2) : qC X (d + 7) yX11_squeeze cX11_squeeze 6 (some .int) [qr 0] S Q := by
  refine q_entry (lv := [(0, qr 0)]) pn_X11 (Nat.le_of_ble_eq_true rfl) rfl ?_
  unfold C_squeeze at h
  refine q_aload_n dX11_squeeze_0 rfl rfl ?_
  refine q_getA dX11_squeeze_1 fl_X11_49 (hL 0 (by decide)) sh_0 (by decide) rfl rfl ?_
  refine q_aload_n dX11_squeeze_4 rfl rfl ?_
  refine q_getA dX11_squeeze_5 fl_X11_110 (hL 0 (by decide)) sh_0 (by decide) rfl rfl ?_
  obtain ⟨q1204, h1205, h⟩ := Option.bind_eq_some_iff.mp h
  refine q_callVv (as := [qr 14]) (c := 6) dX11_squeeze_8 ml_X11_295 rfl rfl (hL 6 (by decide)) sh_6 rfl rfl (Nat.le_of_ble_eq_true rfl) (Stays_save_14_ok hL (d + 6) _ _ h1205) rfl ?_
  refine q_iconst dX11_squeeze_11 rfl rfl ?_
  refine q_istore_n (lv' := [(1, qi 0), (0, qr 0)]) dX11_squeeze_12 (by decide) rfl rfl ?_
  refine q_iconst dX11_squeeze_13 rfl rfl ?_
  refine q_istore_n (lv' := [(2, qi (-1)), (1, qi 0), (0, qr 0)]) dX11_squeeze_14 (by decide) rfl rfl ?_
  refine q_iconst dX11_squeeze_15 rfl rfl ?_
  refine q_istore_n (lv' := [(3, qi (-1)), (2, qi (-1)), (1, qi 0), (0, qr 0)]) dX11_squeeze_16 (by decide) rfl rfl ?_
  refine q_iconst dX11_squeeze_17 rfl rfl ?_
  refine q_istore (lv' := [(4, qi 0), (3, qi (-1)), (2, qi (-1)), (1, qi 0), (0, qr 0)]) dX11_squeeze_18 (by decide) rfl rfl ?_
  obtain ⟨q1251, h1252, h⟩ := Option.bind_eq_some_iff.mp h
  refine q_pick [4, 3, 2, 1, 0] rfl (C_squeeze_L20_ok hL d qF 0 (-1) (-1) 0 _ _ h1252 ?_)
  refine q_iload_n dX11_squeeze_82 rfl rfl ?_
  obtain ⟨c1253, h⟩ := qk_some h
  refine q_if_ne (tgt := 88) dX11_squeeze_83 (by decide) rfl (qRb_R c1253)  (fun g => ?_) (fun g => ?_)
  · rw [if_neg (show ¬ (q1251.1 = 0) from g)] at h
    refine q_aload_n dX11_squeeze_88 rfl rfl ?_
    obtain ⟨q1254, h1255, h⟩ := Option.bind_eq_some_iff.mp h
    refine q_callVv (as := []) (c := 0) dX11_squeeze_89 ml_X11_303 rfl rfl (hL 0 (by decide)) sh_0 rfl rfl (Nat.le_of_ble_eq_true rfl) (C_keepAct_ok hL (d + 5) _ _ h1255) rfl ?_
    refine q_iload_n dX11_squeeze_92 rfl rfl ?_
    cases h
    exact q_ireturn dX11_squeeze_93 rfl hQ
  · rw [if_pos (show q1251.1 = 0 from g)] at h
    refine q_iconst dX11_squeeze_86 rfl rfl ?_
    cases h
    exact q_ireturn dX11_squeeze_87 rfl hQ
set_option maxRecDepth 20000 in
theorem C_places_L55_ok {X : qX} (hL : ∀ c, c < 93 → c ∈ qLs X) (d : Nat) {Q : Option qV → qSto → Prop} : ∀ (n : Nat) (x1 : Int) (x2 : Int) (x3 : Int) (x4 : Int) (x5 : Int) (x6 : Int) (x7 : Int) (x8 : Int) (S : qSto) (o : (Int × Int × qSto)), C_places_L55 n x1 x2 x3 x4 x5 x6 x7 x8 S = some o → (qW X (d + 5) yX11_places cX11_places 9 (some .int) 97 [(0, qr 0), (1, qi x1), (4, qi x4), (5, qi o.1), (6, qi o.2.1)] [] o.2.2 Q) → qW X (d + 5) yX11_places cX11_places 9 (some .int) 55 [(0, qr 0), (1, qi x1), (2, qi x2), (3, qi x3), (4, qi x4), (5, qi x5), (6, qi x6), (7, qi x7), (8, qi x8)] [] S Q := by
  intro n
  induction n with
  | zero =>
    intro x1 x2 x3 x4 x5 x6 x7 x8 S o h
    simp [C_places_L55] at h
  | succ n ih =>
    intro x1 x2 x3 x4 x5 x6 x7 x8 S o h hE
    rw [C_places_L55] at h
    refine q_iload dX11_places_55 rfl rfl ?_
    refine q_iload dX11_places_57 rfl rfl ?_
    obtain ⟨c1264, h⟩ := qk_some h
    obtain ⟨c1265, h⟩ := qk_some h
    refine q_icmp_gt (tgt := 97) dX11_places_59 (by decide) rfl (qRb_R c1264) (qRb_R c1265) (fun g => ?_) (fun g => ?_)
    · rw [if_pos (show x7 < x8 from g)] at h
      cases h
      exact q_pick [0, 1, 4, 5, 6] rfl (hE)
    · rw [if_neg (show ¬ (x7 < x8) from g)] at h
      refine q_aload_n dX11_places_62 rfl rfl ?_
      refine q_getA dX11_places_63 fl_X11_67 (hL 0 (by decide)) sh_0 (by decide) rfl rfl ?_
      refine q_iload_n dX11_places_66 rfl rfl ?_
      refine q_iload dX11_places_67 rfl rfl ?_
      refine q_iload_n dX11_places_69 rfl rfl ?_
      refine q_iload_n dX11_places_70 rfl rfl ?_
      obtain ⟨q1266, h1267, h⟩ := Option.bind_eq_some_iff.mp h
      refine q_callVi (as := [qi x1, qi x8, qi x2, qi x3]) (c := 8) dX11_places_71 ml_X11_263 rfl rfl (hL 8 (by decide)) sh_8 rfl rfl (Nat.le_of_ble_eq_true rfl) (Laws_firstBroken_ok hL d x1 x8 x2 x3 _ _ h1267) rfl ?_
      refine q_jn (G := fun (t1272 : (Int × Int)) => qW X (d + 5) yX11_places cX11_places 9 (some .int) 91 [(0, qr 0), (1, qi x1), (2, qi x2), (3, qi x3), (4, qi x4), (5, qi t1272.1), (6, qi t1272.2), (7, qi x7), (8, qi x8)] [] q1266.2 Q) h (fun t1272 h => ?_) (fun t1272 h hk4128 => ?_)
      · try dsimp only at h
        refine q_iinc (lv' := [(8, qi (x8 + 10)), (0, qr 0), (1, qi x1), (2, qi x2), (3, qi x3), (4, qi x4), (5, qi t1272.1), (6, qi t1272.2), (7, qi x7)]) dX11_places_91 (by decide) rfl rfl rfl ?_
        refine q_goto (pc' := 55) dX11_places_94 (by decide) ?_
        exact q_pick [1, 2, 3, 4, 5, 6, 7, 8, 0] rfl (ih x1 x2 x3 x4 t1272.1 t1272.2 x7 (x8 + 10) _ _ h hE)
      · skip
        obtain ⟨c1268, h⟩ := qk_some h
        refine q_if_ne (tgt := 91) dX11_places_74 (by decide) rfl (qRb_R c1268)  (fun g => ?_) (fun g => ?_)
        · rw [if_neg (show ¬ (q1266.1 = 0) from g)] at h
          cases h
          exact q_pick [0, 1, 2, 3, 4, 5, 6, 7, 8] rfl hk4128
        · rw [if_pos (show q1266.1 = 0 from g)] at h
          refine q_iload dX11_places_77 rfl rfl ?_
          refine q_iload dX11_places_79 rfl rfl ?_
          refine q_jn (G := fun (t1271 : Int) => qW X (d + 5) yX11_places cX11_places 9 (some .int) 88 [(0, qr 0), (1, qi x1), (2, qi x2), (3, qi x3), (4, qi x4), (5, qi x5), (6, qi t1271), (7, qi x7), (8, qi x8)] [] q1266.2 Q) h (fun t1271 h => ?_) (fun t1271 h hk4129 => ?_)
          · try dsimp only at h
            refine q_iinc (lv' := [(5, qi (x5 + 1)), (0, qr 0), (1, qi x1), (2, qi x2), (3, qi x3), (4, qi x4), (6, qi t1271), (7, qi x7), (8, qi x8)]) dX11_places_88 (by decide) rfl rfl rfl ?_
            cases h
            exact q_pick [1, 2, 3, 4, 5, 0, 6, 7, 8] rfl hk4128
          · skip
            obtain ⟨c1269, h⟩ := qk_some h
            obtain ⟨c1270, h⟩ := qk_some h
            refine q_icmp_ne (tgt := 88) dX11_places_81 (by decide) rfl (qRb_R c1269) (qRb_R c1270) (fun g => ?_) (fun g => ?_)
            · rw [if_neg (show ¬ (x5 = x4) from g)] at h
              cases h
              exact q_pick [0, 1, 2, 3, 4, 5, 6, 7, 8] rfl hk4129
            · rw [if_pos (show x5 = x4 from g)] at h
              refine q_iload dX11_places_84 rfl rfl ?_
              refine q_istore (lv' := [(6, qi x8), (0, qr 0), (1, qi x1), (2, qi x2), (3, qi x3), (4, qi x4), (5, qi x5), (7, qi x7), (8, qi x8)]) dX11_places_86 (by decide) rfl rfl ?_
              cases h
              exact q_pick [1, 2, 3, 4, 5, 6, 0, 7, 8] rfl hk4129
set_option maxRecDepth 20000 in
theorem C_places_ok {X : qX} (hL : ∀ c, c < 93 → c ∈ qLs X) (d : Nat) (a1 : Int) (a2 : Int) (a3 : Int) (a4 : Int) (S : qSto) (o : (Int × qSto)) (h : C_places a1 a2 a3 a4 S = some o) (Q : Option qV → qSto → Prop) (hQ : Q (some (qi o.1)) o.2) : qC X (d + 5) yX11_places cX11_places 9 (some .int) [qr 0, qi a1, qi a2, qi a3, qi a4] S Q := by
  refine q_entry (lv := [(0, qr 0), (1, qi a1), (2, qi a2), (3, qi a3), (4, qi a4)]) pn_X11 (Nat.le_of_ble_eq_true rfl) rfl ?_
  unfold C_places at h
  refine q_aload_n dX11_places_0 rfl rfl ?_
  refine q_iload_n dX11_places_1 rfl rfl ?_
  obtain ⟨q1256, h1257, h⟩ := Option.bind_eq_some_iff.mp h
  refine q_callVi (as := [qi a1]) (c := 0) dX11_places_2 ml_X11_216 rfl rfl (hL 0 (by decide)) sh_0 rfl rfl (Nat.le_of_ble_eq_true rfl) (C_isShip_ok hL (d + 4) a1 _ _ h1257) rfl ?_
  obtain ⟨c1258, h⟩ := qk_some h
  refine q_if_eq (tgt := 14) dX11_places_5 (by decide) rfl (qRb_R c1258)  (fun g => ?_) (fun g => ?_)
  · rw [if_pos (show q1256.1 = 0 from g)] at h
    refine q_iconst dX11_places_14 rfl rfl ?_
    cases h
    exact q_ireturn dX11_places_15 rfl hQ
  · rw [if_neg (show ¬ (q1256.1 = 0) from g)] at h
    refine q_iload dX11_places_8 rfl rfl ?_
    refine q_iconst dX11_places_10 rfl rfl ?_
    obtain ⟨c1259, h⟩ := qk_some h
    refine q_icmp_ge (tgt := 16) dX11_places_11 (by decide) rfl (qRb_R c1259) ⟨by decide, by decide⟩ (fun g => ?_) (fun g => ?_)
    · rw [if_pos (show (-1) ≤ a4 from g)] at h
      refine q_aload_n dX11_places_16 rfl rfl ?_
      refine q_getA dX11_places_17 fl_X11_49 (hL 0 (by decide)) sh_0 (by decide) rfl rfl ?_
      refine q_iload_n dX11_places_20 rfl rfl ?_
      obtain ⟨q1260, h1261, h⟩ := Option.bind_eq_some_iff.mp h
      refine q_callVv (as := [qi a1]) (c := 6) dX11_places_21 ml_X11_260 rfl rfl (hL 6 (by decide)) sh_6 rfl rfl (Nat.le_of_ble_eq_true rfl) (Stays_takeUp_ok hL (d + 1) a1 _ _ h1261) rfl ?_
      refine q_iconst dX11_places_24 rfl rfl ?_
      refine q_istore (lv' := [(5, qi 0), (0, qr 0), (1, qi a1), (2, qi a2), (3, qi a3), (4, qi a4)]) dX11_places_25 (by decide) rfl rfl ?_
      refine q_bipush dX11_places_27 (by decide) rfl ?_
      refine q_istore (lv' := [(6, qi (-2)), (5, qi 0), (0, qr 0), (1, qi a1), (2, qi a2), (3, qi a3), (4, qi a4)]) dX11_places_29 (by decide) rfl rfl ?_
      refine q_aload_n dX11_places_31 rfl rfl ?_
      refine q_getA dX11_places_32 fl_X11_16 (hL 0 (by decide)) sh_0 (by decide) rfl rfl ?_
      refine q_getA dX11_places_35 fl_X11_146 (hL 2 (by decide)) sh_2 (by decide) rfl rfl ?_
      refine q_iconst dX11_places_38 rfl rfl ?_
      refine q_iaload dX11_places_39 (hL 15 (by decide)) sh_15 (by decide) (by decide) rfl ?_
      refine q_aload_n dX11_places_40 rfl rfl ?_
      refine q_getA dX11_places_41 fl_X11_16 (hL 0 (by decide)) sh_0 (by decide) rfl rfl ?_
      refine q_iload_n dX11_places_44 rfl rfl ?_
      refine q_iconst dX11_places_45 rfl rfl ?_
      obtain ⟨q1262, h1263, h⟩ := Option.bind_eq_some_iff.mp h
      refine q_callVi (as := [qi a1, qi 0]) (c := 2) dX11_places_46 ml_X11_219 rfl rfl (hL 2 (by decide)) sh_2 rfl rfl (Nat.le_of_ble_eq_true rfl) (Told_contractOf_ok hL (d + 4) a1 0 _ _ h1263) rfl ?_
      refine q_isub dX11_places_49 rfl ?_
      refine q_istore (lv' := [(7, qi ((q1260 15 0) - q1262.1)), (6, qi (-2)), (5, qi 0), (0, qr 0), (1, qi a1), (2, qi a2), (3, qi a3), (4, qi a4)]) dX11_places_50 (by decide) rfl rfl ?_
      refine q_iconst dX11_places_52 rfl rfl ?_
      refine q_istore (lv' := [(8, qi 0), (7, qi ((q1260 15 0) - q1262.1)), (6, qi (-2)), (5, qi 0), (0, qr 0), (1, qi a1), (2, qi a2), (3, qi a3), (4, qi a4)]) dX11_places_53 (by decide) rfl rfl ?_
      obtain ⟨q1273, h1274, h⟩ := Option.bind_eq_some_iff.mp h
      refine q_pick [4, 5, 6, 7, 8, 3, 2, 1, 0] rfl (C_places_L55_ok hL d qF a1 a2 a3 a4 0 (-2) ((q1260 15 0) - q1262.1) 0 _ _ h1274 ?_)
      refine q_aload_n dX11_places_97 rfl rfl ?_
      refine q_getA dX11_places_98 fl_X11_49 (hL 0 (by decide)) sh_0 (by decide) rfl rfl ?_
      refine q_iload_n dX11_places_101 rfl rfl ?_
      obtain ⟨q1275, h1276, h⟩ := Option.bind_eq_some_iff.mp h
      refine q_callVv (as := [qi a1]) (c := 6) dX11_places_102 ml_X11_267 rfl rfl (hL 6 (by decide)) sh_6 rfl rfl (Nat.le_of_ble_eq_true rfl) (Stays_layBack_ok hL d a1 _ _ h1276) rfl ?_
      refine q_iload dX11_places_105 rfl rfl ?_
      refine q_iconst dX11_places_107 rfl rfl ?_
      obtain ⟨c1277, h⟩ := qk_some h
      refine q_icmp_ne (tgt := 116) dX11_places_108 (by decide) rfl (qRb_R c1277) ⟨by decide, by decide⟩ (fun g => ?_) (fun g => ?_)
      · rw [if_neg (show ¬ (a4 = (-1)) from g)] at h
        refine q_iload dX11_places_116 rfl rfl ?_
        cases h
        exact q_ireturn dX11_places_118 rfl hQ
      · rw [if_pos (show a4 = (-1) from g)] at h
        refine q_iload dX11_places_111 rfl rfl ?_
        refine q_goto (pc' := 118) dX11_places_113 (by decide) ?_
        cases h
        exact q_ireturn dX11_places_118 rfl hQ
    · rw [if_neg (show ¬ ((-1) ≤ a4) from g)] at h
      refine q_iconst dX11_places_14 rfl rfl ?_
      cases h
      exact q_ireturn dX11_places_15 rfl hQ
set_option maxRecDepth 20000 in
theorem C_hopeless_L22_ok {X : qX} (hL : ∀ c, c < 93 → c ∈ qLs X) (d : Nat) {Q : Option qV → qSto → Prop} : ∀ (n : Nat) (x1 : Int) (x2 : Int) (S : qSto) (o : (Int × qSto)), C_hopeless_L22 n x1 x2 S = some o → (qW X (d + 5) yX11_hopeless cX11_hopeless 3 (some .int) 76 [(0, qr 0), (1, qi o.1)] [] o.2 Q) → qW X (d + 5) yX11_hopeless cX11_hopeless 3 (some .int) 22 [(0, qr 0), (1, qi x1), (2, qi x2)] [] S Q := by
  intro n
  induction n with
  | zero =>
    intro x1 x2 S o h
    simp [C_hopeless_L22] at h
  | succ n ih =>
    intro x1 x2 S o h hE
    rw [C_hopeless_L22] at h
    refine q_iload_n dX11_hopeless_22 rfl rfl ?_
    refine q_aload_n dX11_hopeless_23 rfl rfl ?_
    refine q_getA dX11_hopeless_24 fl_X11_16 (hL 0 (by decide)) sh_0 (by decide) rfl rfl ?_
    refine q_getI dX11_hopeless_27 fl_X11_158 (hL 2 (by decide)) sh_2 (by decide) rfl rfl ?_
    obtain ⟨c1282, h⟩ := qk_some h
    obtain ⟨c1283, h⟩ := qk_some h
    refine q_icmp_ge (tgt := 76) dX11_hopeless_30 (by decide) rfl (qRb_R c1282) (qRb_R c1283) (fun g => ?_) (fun g => ?_)
    · rw [if_pos (show (S 2 12) ≤ x2 from g)] at h
      cases h
      exact q_pick [0, 1] rfl (hE)
    · rw [if_neg (show ¬ ((S 2 12) ≤ x2) from g)] at h
      refine q_aload_n dX11_hopeless_33 rfl rfl ?_
      refine q_getA dX11_hopeless_34 fl_X11_76 (hL 0 (by decide)) sh_0 (by decide) rfl rfl ?_
      refine q_iload_n dX11_hopeless_37 rfl rfl ?_
      refine q_aload_n dX11_hopeless_38 rfl rfl ?_
      refine q_getA dX11_hopeless_39 fl_X11_16 (hL 0 (by decide)) sh_0 (by decide) rfl rfl ?_
      refine q_iload_n dX11_hopeless_42 rfl rfl ?_
      refine q_bipush dX11_hopeless_43 (by decide) rfl ?_
      obtain ⟨q1284, h1285, h⟩ := Option.bind_eq_some_iff.mp h
      refine q_callVi (as := [qi x2, qi 8]) (c := 2) dX11_hopeless_45 ml_X11_219 rfl rfl (hL 2 (by decide)) sh_2 rfl rfl (Nat.le_of_ble_eq_true rfl) (Told_contractOf_ok hL (d + 4) x2 8 _ _ h1285) rfl ?_
      refine q_aload_n dX11_hopeless_48 rfl rfl ?_
      refine q_getA dX11_hopeless_49 fl_X11_16 (hL 0 (by decide)) sh_0 (by decide) rfl rfl ?_
      refine q_iload_n dX11_hopeless_52 rfl rfl ?_
      refine q_bipush dX11_hopeless_53 (by decide) rfl ?_
      obtain ⟨q1286, h1287, h⟩ := Option.bind_eq_some_iff.mp h
      refine q_callVi (as := [qi x2, qi 7]) (c := 2) dX11_hopeless_55 ml_X11_219 rfl rfl (hL 2 (by decide)) sh_2 rfl rfl (Nat.le_of_ble_eq_true rfl) (Told_contractOf_ok hL (d + 4) x2 7 _ _ h1287) rfl ?_
      obtain ⟨q1288, h1289, h⟩ := Option.bind_eq_some_iff.mp h
      refine q_callVi (as := [qi x2, qi q1284.1, qi q1286.1]) (c := 9) dX11_hopeless_58 ml_X11_281 rfl rfl (hL 9 (by decide)) sh_9 rfl rfl (Nat.le_of_ble_eq_true rfl) (Search_find_ok hL d x2 q1284.1 q1286.1 _ _ h1289) rfl ?_
      refine q_jn (G := fun (t1291 : Int) => qW X (d + 5) yX11_hopeless cX11_hopeless 3 (some .int) 70 [(0, qr 0), (1, qi t1291), (2, qi x2)] [] q1288.2 Q) h (fun t1291 h => ?_) (fun t1291 h hk4130 => ?_)
      · try dsimp only at h
        refine q_iinc (lv' := [(2, qi (x2 + 1)), (0, qr 0), (1, qi t1291)]) dX11_hopeless_70 (by decide) rfl rfl rfl ?_
        refine q_goto (pc' := 22) dX11_hopeless_73 (by decide) ?_
        exact q_pick [1, 2, 0] rfl (ih t1291 (x2 + 1) _ _ h hE)
      · skip
        obtain ⟨c1290, h⟩ := qk_some h
        refine q_if_ne (tgt := 70) dX11_hopeless_61 (by decide) rfl (qRb_R c1290)  (fun g => ?_) (fun g => ?_)
        · rw [if_neg (show ¬ (q1288.1 = 0) from g)] at h
          cases h
          exact q_pick [0, 1, 2] rfl hk4130
        · rw [if_pos (show q1288.1 = 0 from g)] at h
          refine q_iload_n dX11_hopeless_64 rfl rfl ?_
          refine q_iconst dX11_hopeless_65 rfl rfl ?_
          refine q_iload_n dX11_hopeless_66 rfl rfl ?_
          refine q_ishl dX11_hopeless_67 rfl ?_
          refine q_ior dX11_hopeless_68 rfl ?_
          refine q_istore_n (lv' := [(1, qi (qb_ior x1 (qb_ishl 1 x2))), (0, qr 0), (2, qi x2)]) dX11_hopeless_69 (by decide) rfl rfl ?_
          cases h
          exact q_pick [1, 0, 2] rfl hk4130
set_option maxRecDepth 20000 in
theorem C_hopeless_ok {X : qX} (hL : ∀ c, c < 93 → c ∈ qLs X) (d : Nat) (S : qSto) (o : (Int × qSto)) (h : C_hopeless S = some o) (Q : Option qV → qSto → Prop) (hQ : Q (some (qi o.1)) o.2) : qC X (d + 5) yX11_hopeless cX11_hopeless 3 (some .int) [qr 0] S Q := by
  refine q_entry (lv := [(0, qr 0)]) pn_X11 (Nat.le_of_ble_eq_true rfl) rfl ?_
  unfold C_hopeless at h
  refine q_aload_n dX11_hopeless_0 rfl rfl ?_
  refine q_getA dX11_hopeless_1 fl_X11_49 (hL 0 (by decide)) sh_0 (by decide) rfl rfl ?_
  refine q_aload_n dX11_hopeless_4 rfl rfl ?_
  refine q_getA dX11_hopeless_5 fl_X11_110 (hL 0 (by decide)) sh_0 (by decide) rfl rfl ?_
  obtain ⟨q1278, h1279, h⟩ := Option.bind_eq_some_iff.mp h
  refine q_callVv (as := [qr 14]) (c := 6) dX11_hopeless_8 ml_X11_295 rfl rfl (hL 6 (by decide)) sh_6 rfl rfl (Nat.le_of_ble_eq_true rfl) (Stays_save_14_ok hL (d + 4) _ _ h1279) rfl ?_
  refine q_aload_n dX11_hopeless_11 rfl rfl ?_
  refine q_getA dX11_hopeless_12 fl_X11_49 (hL 0 (by decide)) sh_0 (by decide) rfl rfl ?_
  obtain ⟨q1280, h1281, h⟩ := Option.bind_eq_some_iff.mp h
  refine q_callVv (as := []) (c := 6) dX11_hopeless_15 ml_X11_132 rfl rfl (hL 6 (by decide)) sh_6 rfl rfl (Nat.le_of_ble_eq_true rfl) (Stays_clear_ok hL (d + 3) _ _ h1281) rfl ?_
  refine q_iconst dX11_hopeless_18 rfl rfl ?_
  refine q_istore_n (lv' := [(1, qi 0), (0, qr 0)]) dX11_hopeless_19 (by decide) rfl rfl ?_
  refine q_iconst dX11_hopeless_20 rfl rfl ?_
  refine q_istore_n (lv' := [(2, qi 0), (1, qi 0), (0, qr 0)]) dX11_hopeless_21 (by decide) rfl rfl ?_
  obtain ⟨q1292, h1293, h⟩ := Option.bind_eq_some_iff.mp h
  refine q_pick [2, 1, 0] rfl (C_hopeless_L22_ok hL d qF 0 0 _ _ h1293 ?_)
  refine q_aload_n dX11_hopeless_76 rfl rfl ?_
  refine q_getA dX11_hopeless_77 fl_X11_49 (hL 0 (by decide)) sh_0 (by decide) rfl rfl ?_
  refine q_aload_n dX11_hopeless_80 rfl rfl ?_
  refine q_getA dX11_hopeless_81 fl_X11_110 (hL 0 (by decide)) sh_0 (by decide) rfl rfl ?_
  obtain ⟨q1294, h1295, h⟩ := Option.bind_eq_some_iff.mp h
  refine q_callVv (as := [qr 14]) (c := 6) dX11_hopeless_84 ml_X11_335 rfl rfl (hL 6 (by decide)) sh_6 rfl rfl (Nat.le_of_ble_eq_true rfl) (Stays_load_14_ok hL d _ _ h1295) rfl ?_
  refine q_iload_n dX11_hopeless_87 rfl rfl ?_
  cases h
  exact q_ireturn dX11_hopeless_88 rfl hQ
set_option maxRecDepth 20000 in
theorem C_slack_L68_ok {X : qX} (hL : ∀ c, c < 93 → c ∈ qLs X) (d : Nat) {Q : Option qV → qSto → Prop} : ∀ (n : Nat) (x1 : Int) (x2 : Int) (x3 : Int) (x4 : Int) (x5 : Int) (S : qSto) (o : (Int × qSto)), C_slack_L68 n x1 x2 x3 x4 x5 S = some o → (qW X (d + 5) yX11_slack cX11_slack 6 (some .int) 96 [(0, qr 0), (1, qi x1), (3, qi x3), (5, qi o.1)] [] o.2 Q) → qW X (d + 5) yX11_slack cX11_slack 6 (some .int) 68 [(0, qr 0), (1, qi x1), (2, qi x2), (3, qi x3), (4, qi x4), (5, qi x5)] [] S Q := by
  intro n
  induction n with
  | zero =>
    intro x1 x2 x3 x4 x5 S o h
    simp [C_slack_L68] at h
  | succ n ih =>
    intro x1 x2 x3 x4 x5 S o h hE
    rw [C_slack_L68] at h
    refine q_iload dX11_slack_68 rfl rfl ?_
    refine q_iload_n dX11_slack_70 rfl rfl ?_
    obtain ⟨c1307, h⟩ := qk_some h
    obtain ⟨c1308, h⟩ := qk_some h
    refine q_icmp_le (tgt := 96) dX11_slack_71 (by decide) rfl (qRb_R c1307) (qRb_R c1308) (fun g => ?_) (fun g => ?_)
    · rw [if_pos (show x5 ≤ x3 from g)] at h
      cases h
      exact q_pick [0, 1, 3, 5] rfl (hE)
    · rw [if_neg (show ¬ (x5 ≤ x3) from g)] at h
      refine q_aload_n dX11_slack_74 rfl rfl ?_
      refine q_getA dX11_slack_75 fl_X11_67 (hL 0 (by decide)) sh_0 (by decide) rfl rfl ?_
      refine q_iload_n dX11_slack_78 rfl rfl ?_
      refine q_iload_n dX11_slack_79 rfl rfl ?_
      refine q_iload dX11_slack_80 rfl rfl ?_
      refine q_iload dX11_slack_82 rfl rfl ?_
      obtain ⟨q1309, h1310, h⟩ := Option.bind_eq_some_iff.mp h
      refine q_callVi (as := [qi x1, qi x2, qi x5, qi x4]) (c := 8) dX11_slack_84 ml_X11_263 rfl rfl (hL 8 (by decide)) sh_8 rfl rfl (Nat.le_of_ble_eq_true rfl) (Laws_firstBroken_ok hL d x1 x2 x5 x4 _ _ h1310) rfl ?_
      obtain ⟨c1311, h⟩ := qk_some h
      refine q_if_eq (tgt := 96) dX11_slack_87 (by decide) rfl (qRb_R c1311)  (fun g => ?_) (fun g => ?_)
      · rw [if_pos (show q1309.1 = 0 from g)] at h
        cases h
        exact q_pick [0, 1, 3, 5] rfl (hE)
      · rw [if_neg (show ¬ (q1309.1 = 0) from g)] at h
        refine q_iinc (lv' := [(5, qi (x5 + (-1))), (0, qr 0), (1, qi x1), (2, qi x2), (3, qi x3), (4, qi x4)]) dX11_slack_90 (by decide) rfl rfl rfl ?_
        refine q_goto (pc' := 68) dX11_slack_93 (by decide) ?_
        exact q_pick [1, 2, 3, 4, 5, 0] rfl (ih x1 x2 x3 x4 (x5 + (-1)) _ _ h hE)
set_option maxRecDepth 20000 in
theorem C_slack_ok {X : qX} (hL : ∀ c, c < 93 → c ∈ qLs X) (d : Nat) (a1 : Int) (S : qSto) (o : (Int × qSto)) (h : C_slack a1 S = some o) (Q : Option qV → qSto → Prop) (hQ : Q (some (qi o.1)) o.2) : qC X (d + 5) yX11_slack cX11_slack 6 (some .int) [qr 0, qi a1] S Q := by
  refine q_entry (lv := [(0, qr 0), (1, qi a1)]) pn_X11 (Nat.le_of_ble_eq_true rfl) rfl ?_
  unfold C_slack at h
  refine q_aload_n dX11_slack_0 rfl rfl ?_
  refine q_iload_n dX11_slack_1 rfl rfl ?_
  obtain ⟨q1296, h1297, h⟩ := Option.bind_eq_some_iff.mp h
  refine q_callVi (as := [qi a1]) (c := 0) dX11_slack_2 ml_X11_216 rfl rfl (hL 0 (by decide)) sh_0 rfl rfl (Nat.le_of_ble_eq_true rfl) (C_isShip_ok hL (d + 4) a1 _ _ h1297) rfl ?_
  obtain ⟨c1298, h⟩ := qk_some h
  refine q_if_ne (tgt := 10) dX11_slack_5 (by decide) rfl (qRb_R c1298)  (fun g => ?_) (fun g => ?_)
  · rw [if_neg (show ¬ (q1296.1 = 0) from g)] at h
    refine q_aload_n dX11_slack_10 rfl rfl ?_
    refine q_getA dX11_slack_11 fl_X11_49 (hL 0 (by decide)) sh_0 (by decide) rfl rfl ?_
    refine q_iload_n dX11_slack_14 rfl rfl ?_
    obtain ⟨q1299, h1300, h⟩ := Option.bind_eq_some_iff.mp h
    refine q_callVi (as := [qi a1]) (c := 6) dX11_slack_15 ml_X11_178 rfl rfl (hL 6 (by decide)) sh_6 rfl rfl (Nat.le_of_ble_eq_true rfl) (Stays_has_ok hL (d + 4) a1 _ _ h1300) rfl ?_
    obtain ⟨c1301, h⟩ := qk_some h
    refine q_if_ne (tgt := 24) dX11_slack_18 (by decide) rfl (qRb_R c1301)  (fun g => ?_) (fun g => ?_)
    · rw [if_neg (show ¬ (q1299.1 = 0) from g)] at h
      refine q_aload_n dX11_slack_24 rfl rfl ?_
      refine q_getA dX11_slack_25 fl_X11_49 (hL 0 (by decide)) sh_0 (by decide) rfl rfl ?_
      refine q_getA dX11_slack_28 fl_X11_225 (hL 6 (by decide)) sh_6 (by decide) rfl rfl ?_
      refine q_iload_n dX11_slack_31 rfl rfl ?_
      obtain ⟨c1302, h⟩ := qk_some h
      refine q_iaload dX11_slack_32 (hL 37 (by decide)) sh_37 (qIx_0 c1302) (qIx_1 c1302) rfl ?_
      refine q_istore_n (lv' := [(2, qi (q1299.2 37 (Int.toNat a1))), (0, qr 0), (1, qi a1)]) dX11_slack_33 (by decide) rfl rfl ?_
      refine q_aload_n dX11_slack_34 rfl rfl ?_
      refine q_getA dX11_slack_35 fl_X11_49 (hL 0 (by decide)) sh_0 (by decide) rfl rfl ?_
      refine q_getA dX11_slack_38 fl_X11_228 (hL 6 (by decide)) sh_6 (by decide) rfl rfl ?_
      refine q_iload_n dX11_slack_41 rfl rfl ?_
      obtain ⟨c1303, h⟩ := qk_some h
      refine q_iaload dX11_slack_42 (hL 39 (by decide)) sh_39 (qIx_0 c1303) (qIx_1 c1303) rfl ?_
      refine q_istore_n (lv' := [(3, qi (q1299.2 39 (Int.toNat a1))), (2, qi (q1299.2 37 (Int.toNat a1))), (0, qr 0), (1, qi a1)]) dX11_slack_43 (by decide) rfl rfl ?_
      refine q_aload_n dX11_slack_44 rfl rfl ?_
      refine q_getA dX11_slack_45 fl_X11_49 (hL 0 (by decide)) sh_0 (by decide) rfl rfl ?_
      refine q_getA dX11_slack_48 fl_X11_231 (hL 6 (by decide)) sh_6 (by decide) rfl rfl ?_
      refine q_iload_n dX11_slack_51 rfl rfl ?_
      obtain ⟨c1304, h⟩ := qk_some h
      refine q_iaload dX11_slack_52 (hL 40 (by decide)) sh_40 (qIx_0 c1304) (qIx_1 c1304) rfl ?_
      refine q_istore (lv' := [(4, qi (q1299.2 40 (Int.toNat a1))), (3, qi (q1299.2 39 (Int.toNat a1))), (2, qi (q1299.2 37 (Int.toNat a1))), (0, qr 0), (1, qi a1)]) dX11_slack_53 (by decide) rfl rfl ?_
      refine q_aload_n dX11_slack_55 rfl rfl ?_
      refine q_getA dX11_slack_56 fl_X11_49 (hL 0 (by decide)) sh_0 (by decide) rfl rfl ?_
      refine q_iload_n dX11_slack_59 rfl rfl ?_
      obtain ⟨q1305, h1306, h⟩ := Option.bind_eq_some_iff.mp h
      refine q_callVv (as := [qi a1]) (c := 6) dX11_slack_60 ml_X11_260 rfl rfl (hL 6 (by decide)) sh_6 rfl rfl (Nat.le_of_ble_eq_true rfl) (Stays_takeUp_ok hL (d + 1) a1 _ _ h1306) rfl ?_
      refine q_sipush dX11_slack_63 (by decide) rfl ?_
      refine q_istore (lv' := [(5, qi 335), (4, qi (q1299.2 40 (Int.toNat a1))), (3, qi (q1299.2 39 (Int.toNat a1))), (2, qi (q1299.2 37 (Int.toNat a1))), (0, qr 0), (1, qi a1)]) dX11_slack_66 (by decide) rfl rfl ?_
      obtain ⟨q1312, h1313, h⟩ := Option.bind_eq_some_iff.mp h
      refine q_pick [4, 5, 3, 2, 1, 0] rfl (C_slack_L68_ok hL d qF a1 (q1299.2 37 (Int.toNat a1)) (q1299.2 39 (Int.toNat a1)) (q1299.2 40 (Int.toNat a1)) 335 _ _ h1313 ?_)
      refine q_aload_n dX11_slack_96 rfl rfl ?_
      refine q_getA dX11_slack_97 fl_X11_49 (hL 0 (by decide)) sh_0 (by decide) rfl rfl ?_
      refine q_iload_n dX11_slack_100 rfl rfl ?_
      obtain ⟨q1314, h1315, h⟩ := Option.bind_eq_some_iff.mp h
      refine q_callVv (as := [qi a1]) (c := 6) dX11_slack_101 ml_X11_267 rfl rfl (hL 6 (by decide)) sh_6 rfl rfl (Nat.le_of_ble_eq_true rfl) (Stays_layBack_ok hL d a1 _ _ h1315) rfl ?_
      refine q_iload dX11_slack_104 rfl rfl ?_
      refine q_iload_n dX11_slack_106 rfl rfl ?_
      refine q_isub dX11_slack_107 rfl ?_
      cases h
      exact q_ireturn dX11_slack_108 rfl hQ
    · rw [if_pos (show q1299.1 = 0 from g)] at h
      refine q_bipush dX11_slack_21 (by decide) rfl ?_
      cases h
      exact q_ireturn dX11_slack_23 rfl hQ
  · rw [if_pos (show q1296.1 = 0 from g)] at h
    refine q_iconst dX11_slack_8 rfl rfl ?_
    cases h
    exact q_ireturn dX11_slack_9 rfl hQ
set_option maxRecDepth 20000 in
theorem C_along_L87_ok {X : qX} (hL : ∀ c, c < 93 → c ∈ qLs X) (d : Nat) {Q : Option qV → qSto → Prop} : ∀ (n : Nat) (x1 : Int) (x3 : Int) (x4 : Int) (x5 : Int) (x6 : Int) (x7 : Int) (S : qSto) (o : (Int × qSto)), C_along_L87 n x1 x3 x4 x5 x6 x7 S = some o → (qW X (d + 5) yX11_along cX11_along 8 (some .int) 134 [(0, qr 0), (1, qi x1), (3, qi o.1)] [] o.2 Q) → qW X (d + 5) yX11_along cX11_along 8 (some .int) 87 [(0, qr 0), (1, qi x1), (3, qi x3), (4, qi x4), (5, qi x5), (6, qi x6), (7, qi x7)] [] S Q := by
  intro n
  induction n with
  | zero =>
    intro x1 x3 x4 x5 x6 x7 S o h
    simp [C_along_L87] at h
  | succ n ih =>
    intro x1 x3 x4 x5 x6 x7 S o h hE
    rw [C_along_L87] at h
    refine q_iload dX11_along_87 rfl rfl ?_
    refine q_aload_n dX11_along_89 rfl rfl ?_
    refine q_getA dX11_along_90 fl_X11_16 (hL 0 (by decide)) sh_0 (by decide) rfl rfl ?_
    refine q_getA dX11_along_93 fl_X11_146 (hL 2 (by decide)) sh_2 (by decide) rfl rfl ?_
    refine q_iconst dX11_along_96 rfl rfl ?_
    refine q_iaload dX11_along_97 (hL 15 (by decide)) sh_15 (by decide) (by decide) rfl ?_
    obtain ⟨c1331, h⟩ := qk_some h
    obtain ⟨c1332, h⟩ := qk_some h
    refine q_icmp_ge (tgt := 134) dX11_along_98 (by decide) rfl (qRb_R c1331) (qRb_R c1332) (fun g => ?_) (fun g => ?_)
    · rw [if_pos (show (S 15 0) ≤ x7 from g)] at h
      cases h
      exact q_pick [0, 1, 2] rfl (hE)
    · rw [if_neg (show ¬ ((S 15 0) ≤ x7) from g)] at h
      refine q_aload_n dX11_along_101 rfl rfl ?_
      refine q_getA dX11_along_102 fl_X11_67 (hL 0 (by decide)) sh_0 (by decide) rfl rfl ?_
      refine q_iload_n dX11_along_105 rfl rfl ?_
      refine q_iload_n dX11_along_106 rfl rfl ?_
      refine q_iload dX11_along_107 rfl rfl ?_
      refine q_iadd dX11_along_109 rfl ?_
      refine q_iload dX11_along_110 rfl rfl ?_
      refine q_iload dX11_along_112 rfl rfl ?_
      obtain ⟨q1333, h1334, h⟩ := Option.bind_eq_some_iff.mp h
      refine q_callVi (as := [qi x1, qi (x3 + x6), qi x4, qi x5]) (c := 8) dX11_along_114 ml_X11_263 rfl rfl (hL 8 (by decide)) sh_8 rfl rfl (Nat.le_of_ble_eq_true rfl) (Laws_firstBroken_ok hL d x1 (x3 + x6) x4 x5 _ _ h1334) rfl ?_
      obtain ⟨c1335, h⟩ := qk_some h
      refine q_if_eq (tgt := 123) dX11_along_117 (by decide) rfl (qRb_R c1335)  (fun g => ?_) (fun g => ?_)
      · rw [if_pos (show q1333.1 = 0 from g)] at h
        refine q_iload_n dX11_along_123 rfl rfl ?_
        refine q_iload dX11_along_124 rfl rfl ?_
        refine q_iadd dX11_along_126 rfl ?_
        refine q_istore_n (lv' := [(3, qi (x3 + x6)), (0, qr 0), (1, qi x1), (4, qi x4), (5, qi x5), (6, qi x6), (7, qi x7)]) dX11_along_127 (by decide) rfl rfl ?_
        refine q_iinc (lv' := [(7, qi (x7 + 1)), (3, qi (x3 + x6)), (0, qr 0), (1, qi x1), (4, qi x4), (5, qi x5), (6, qi x6)]) dX11_along_128 (by decide) rfl rfl rfl ?_
        refine q_goto (pc' := 87) dX11_along_131 (by decide) ?_
        exact q_pick [2, 3, 1, 4, 5, 6, 0] rfl (ih x1 (x3 + x6) x4 x5 x6 (x7 + 1) _ _ h hE)
      · rw [if_neg (show ¬ (q1333.1 = 0) from g)] at h
        refine q_goto (pc' := 134) dX11_along_120 (by decide) ?_
        cases h
        exact q_pick [0, 1, 2] rfl (hE)
set_option maxRecDepth 20000 in
theorem C_along_ok {X : qX} (hL : ∀ c, c < 93 → c ∈ qLs X) (d : Nat) (a1 : Int) (a2 : Int) (S : qSto) (o : (Int × qSto)) (h : C_along a1 a2 S = some o) (Q : Option qV → qSto → Prop) (hQ : Q (some (qi o.1)) o.2) : qC X (d + 5) yX11_along cX11_along 8 (some .int) [qr 0, qi a1, qi a2] S Q := by
  refine q_entry (lv := [(0, qr 0), (1, qi a1), (2, qi a2)]) pn_X11 (Nat.le_of_ble_eq_true rfl) rfl ?_
  unfold C_along at h
  refine q_aload_n dX11_along_0 rfl rfl ?_
  refine q_iload_n dX11_along_1 rfl rfl ?_
  obtain ⟨q1316, h1317, h⟩ := Option.bind_eq_some_iff.mp h
  refine q_callVi (as := [qi a1]) (c := 0) dX11_along_2 ml_X11_216 rfl rfl (hL 0 (by decide)) sh_0 rfl rfl (Nat.le_of_ble_eq_true rfl) (C_isShip_ok hL (d + 4) a1 _ _ h1317) rfl ?_
  obtain ⟨c1318, h⟩ := qk_some h
  refine q_if_eq (tgt := 17) dX11_along_5 (by decide) rfl (qRb_R c1318)  (fun g => ?_) (fun g => ?_)
  · rw [if_pos (show q1316.1 = 0 from g)] at h
    refine q_iconst dX11_along_17 rfl rfl ?_
    cases h
    exact q_ireturn dX11_along_18 rfl hQ
  · rw [if_neg (show ¬ (q1316.1 = 0) from g)] at h
    refine q_iload_n dX11_along_8 rfl rfl ?_
    obtain ⟨c1319, h⟩ := qk_some h
    refine q_if_lt (tgt := 17) dX11_along_9 (by decide) rfl (qRb_R c1319)  (fun g => ?_) (fun g => ?_)
    · rw [if_pos (show a2 < 0 from g)] at h
      refine q_iconst dX11_along_17 rfl rfl ?_
      cases h
      exact q_ireturn dX11_along_18 rfl hQ
    · rw [if_neg (show ¬ (a2 < 0) from g)] at h
      refine q_iload_n dX11_along_12 rfl rfl ?_
      refine q_iconst dX11_along_13 rfl rfl ?_
      obtain ⟨c1320, h⟩ := qk_some h
      refine q_icmp_le (tgt := 19) dX11_along_14 (by decide) rfl (qRb_R c1320) ⟨by decide, by decide⟩ (fun g => ?_) (fun g => ?_)
      · rw [if_pos (show a2 ≤ 1 from g)] at h
        refine q_aload_n dX11_along_19 rfl rfl ?_
        refine q_getA dX11_along_20 fl_X11_49 (hL 0 (by decide)) sh_0 (by decide) rfl rfl ?_
        refine q_iload_n dX11_along_23 rfl rfl ?_
        obtain ⟨q1321, h1322, h⟩ := Option.bind_eq_some_iff.mp h
        refine q_callVi (as := [qi a1]) (c := 6) dX11_along_24 ml_X11_178 rfl rfl (hL 6 (by decide)) sh_6 rfl rfl (Nat.le_of_ble_eq_true rfl) (Stays_has_ok hL (d + 4) a1 _ _ h1322) rfl ?_
        obtain ⟨c1323, h⟩ := qk_some h
        refine q_if_ne (tgt := 33) dX11_along_27 (by decide) rfl (qRb_R c1323)  (fun g => ?_) (fun g => ?_)
        · rw [if_neg (show ¬ (q1321.1 = 0) from g)] at h
          refine q_aload_n dX11_along_33 rfl rfl ?_
          refine q_getA dX11_along_34 fl_X11_49 (hL 0 (by decide)) sh_0 (by decide) rfl rfl ?_
          refine q_getA dX11_along_37 fl_X11_225 (hL 6 (by decide)) sh_6 (by decide) rfl rfl ?_
          refine q_iload_n dX11_along_40 rfl rfl ?_
          obtain ⟨c1324, h⟩ := qk_some h
          refine q_iaload dX11_along_41 (hL 37 (by decide)) sh_37 (qIx_0 c1324) (qIx_1 c1324) rfl ?_
          refine q_istore_n (lv' := [(3, qi (q1321.2 37 (Int.toNat a1))), (0, qr 0), (1, qi a1), (2, qi a2)]) dX11_along_42 (by decide) rfl rfl ?_
          refine q_aload_n dX11_along_43 rfl rfl ?_
          refine q_getA dX11_along_44 fl_X11_49 (hL 0 (by decide)) sh_0 (by decide) rfl rfl ?_
          refine q_getA dX11_along_47 fl_X11_228 (hL 6 (by decide)) sh_6 (by decide) rfl rfl ?_
          refine q_iload_n dX11_along_50 rfl rfl ?_
          obtain ⟨c1325, h⟩ := qk_some h
          refine q_iaload dX11_along_51 (hL 39 (by decide)) sh_39 (qIx_0 c1325) (qIx_1 c1325) rfl ?_
          refine q_istore (lv' := [(4, qi (q1321.2 39 (Int.toNat a1))), (3, qi (q1321.2 37 (Int.toNat a1))), (0, qr 0), (1, qi a1), (2, qi a2)]) dX11_along_52 (by decide) rfl rfl ?_
          refine q_aload_n dX11_along_54 rfl rfl ?_
          refine q_getA dX11_along_55 fl_X11_49 (hL 0 (by decide)) sh_0 (by decide) rfl rfl ?_
          refine q_getA dX11_along_58 fl_X11_231 (hL 6 (by decide)) sh_6 (by decide) rfl rfl ?_
          refine q_iload_n dX11_along_61 rfl rfl ?_
          obtain ⟨c1326, h⟩ := qk_some h
          refine q_iaload dX11_along_62 (hL 40 (by decide)) sh_40 (qIx_0 c1326) (qIx_1 c1326) rfl ?_
          refine q_istore (lv' := [(5, qi (q1321.2 40 (Int.toNat a1))), (4, qi (q1321.2 39 (Int.toNat a1))), (3, qi (q1321.2 37 (Int.toNat a1))), (0, qr 0), (1, qi a1), (2, qi a2)]) dX11_along_63 (by decide) rfl rfl ?_
          refine q_iload_n dX11_along_65 rfl rfl ?_
          refine q_jn (G := fun (t1328 : Int) => qW X (d + 5) yX11_along cX11_along 8 (some .int) 74 [(0, qr 0), (1, qi a1), (3, qi (q1321.2 37 (Int.toNat a1))), (4, qi (q1321.2 39 (Int.toNat a1))), (5, qi (q1321.2 40 (Int.toNat a1)))] [qi t1328] q1321.2 Q) h (fun t1328 h => ?_) (fun t1328 h hk4131 => ?_)
          · try dsimp only at h
            refine q_istore (lv' := [(6, qi t1328), (0, qr 0), (1, qi a1), (3, qi (q1321.2 37 (Int.toNat a1))), (4, qi (q1321.2 39 (Int.toNat a1))), (5, qi (q1321.2 40 (Int.toNat a1)))]) dX11_along_74 (by decide) rfl rfl ?_
            refine q_aload_n dX11_along_76 rfl rfl ?_
            refine q_getA dX11_along_77 fl_X11_49 (hL 0 (by decide)) sh_0 (by decide) rfl rfl ?_
            refine q_iload_n dX11_along_80 rfl rfl ?_
            obtain ⟨q1329, h1330, h⟩ := Option.bind_eq_some_iff.mp h
            refine q_callVv (as := [qi a1]) (c := 6) dX11_along_81 ml_X11_260 rfl rfl (hL 6 (by decide)) sh_6 rfl rfl (Nat.le_of_ble_eq_true rfl) (Stays_takeUp_ok hL (d + 1) a1 _ _ h1330) rfl ?_
            refine q_iconst dX11_along_84 rfl rfl ?_
            refine q_istore (lv' := [(7, qi 0), (6, qi t1328), (0, qr 0), (1, qi a1), (3, qi (q1321.2 37 (Int.toNat a1))), (4, qi (q1321.2 39 (Int.toNat a1))), (5, qi (q1321.2 40 (Int.toNat a1)))]) dX11_along_85 (by decide) rfl rfl ?_
            obtain ⟨q1336, h1337, h⟩ := Option.bind_eq_some_iff.mp h
            refine q_pick [2, 3, 4, 5, 6, 1, 0] rfl (C_along_L87_ok hL d qF a1 (q1321.2 37 (Int.toNat a1)) (q1321.2 39 (Int.toNat a1)) (q1321.2 40 (Int.toNat a1)) t1328 0 _ _ h1337 ?_)
            refine q_aload_n dX11_along_134 rfl rfl ?_
            refine q_getA dX11_along_135 fl_X11_49 (hL 0 (by decide)) sh_0 (by decide) rfl rfl ?_
            refine q_iload_n dX11_along_138 rfl rfl ?_
            obtain ⟨q1338, h1339, h⟩ := Option.bind_eq_some_iff.mp h
            refine q_callVv (as := [qi a1]) (c := 6) dX11_along_139 ml_X11_267 rfl rfl (hL 6 (by decide)) sh_6 rfl rfl (Nat.le_of_ble_eq_true rfl) (Stays_layBack_ok hL d a1 _ _ h1339) rfl ?_
            refine q_iload_n dX11_along_142 rfl rfl ?_
            cases h
            exact q_ireturn dX11_along_143 rfl hQ
          · skip
            obtain ⟨c1327, h⟩ := qk_some h
            refine q_if_ne (tgt := 73) dX11_along_66 (by decide) rfl (qRb_R c1327)  (fun g => ?_) (fun g => ?_)
            · rw [if_neg (show ¬ (a2 = 0) from g)] at h
              refine q_iconst dX11_along_73 rfl rfl ?_
              cases h
              exact q_pick [3, 4, 2, 1, 0] rfl hk4131
            · rw [if_pos (show a2 = 0 from g)] at h
              refine q_iconst dX11_along_69 rfl rfl ?_
              refine q_goto (pc' := 74) dX11_along_70 (by decide) ?_
              cases h
              exact q_pick [3, 4, 2, 1, 0] rfl hk4131
        · rw [if_pos (show q1321.1 = 0 from g)] at h
          refine q_bipush dX11_along_30 (by decide) rfl ?_
          cases h
          exact q_ireturn dX11_along_32 rfl hQ
      · rw [if_neg (show ¬ (a2 ≤ 1) from g)] at h
        refine q_iconst dX11_along_17 rfl rfl ?_
        cases h
        exact q_ireturn dX11_along_18 rfl hQ
set_option maxRecDepth 20000 in
theorem C_isRule_ok {X : qX} (hL : ∀ c, c < 93 → c ∈ qLs X) (d : Nat) (a0 : Int) (S : qSto) (o : (Int × qSto)) (h : C_isRule a0 S = some o) (Q : Option qV → qSto → Prop) (hQ : Q (some (qi o.1)) o.2) : qC X d yX11_isRule cX11_isRule 1 (some .boolean) [qi a0] S Q := by
  refine q_entry (lv := [(0, qi a0)]) pn_X11 (Nat.le_of_ble_eq_true rfl) rfl ?_
  unfold C_isRule at h
  refine q_iload_n dX11_isRule_0 rfl rfl ?_
  obtain ⟨c1340, h⟩ := qk_some h
  refine q_if_lt (tgt := 13) dX11_isRule_1 (by decide) rfl (qRb_R c1340)  (fun g => ?_) (fun g => ?_)
  · rw [if_pos (show a0 < 0 from g)] at h
    refine q_iconst dX11_isRule_13 rfl rfl ?_
    cases h
    exact q_zreturn dX11_isRule_14 rfl (by decide) hQ
  · rw [if_neg (show ¬ (a0 < 0) from g)] at h
    refine q_iload_n dX11_isRule_4 rfl rfl ?_
    refine q_iconst dX11_isRule_5 rfl rfl ?_
    obtain ⟨c1341, h⟩ := qk_some h
    refine q_icmp_ge (tgt := 13) dX11_isRule_6 (by decide) rfl (qRb_R c1341) ⟨by decide, by decide⟩ (fun g => ?_) (fun g => ?_)
    · rw [if_pos (show 4 ≤ a0 from g)] at h
      refine q_iconst dX11_isRule_13 rfl rfl ?_
      cases h
      exact q_zreturn dX11_isRule_14 rfl (by decide) hQ
    · rw [if_neg (show ¬ (4 ≤ a0) from g)] at h
      refine q_iconst dX11_isRule_9 rfl rfl ?_
      refine q_goto (pc' := 14) dX11_isRule_10 (by decide) ?_
      cases h
      exact q_zreturn dX11_isRule_14 rfl (by decide) hQ
set_option maxRecDepth 20000 in
theorem Ranking_keyOf_ok {X : qX} (hL : ∀ c, c < 93 → c ∈ qLs X) (d : Nat) (a1 : Int) (a2 : Int) (S : qSto) (o : (Int × qSto)) (h : Ranking_keyOf a1 a2 S = some o) (Q : Option qV → qSto → Prop) (hQ : Q (some (qi o.1)) o.2) : qC X (d + 1) yX4_keyOf cX4_keyOf 3 (some .int) [qr 10, qi a1, qi a2] S Q := by
  refine q_entry (lv := [(0, qr 10), (1, qi a1), (2, qi a2)]) pn_X4 (Nat.le_of_ble_eq_true rfl) rfl ?_
  unfold Ranking_keyOf at h
  refine q_iload_n dX4_keyOf_0 rfl rfl ?_
  obtain ⟨c1350, h⟩ := qk_some h
  by_cases e4132 : a1 = 0
  · rw [if_pos e4132] at h
    refine q_tsw (tgt := 86) dX4_keyOf_1 (qRb_R c1350) (by decide) (fun g => absurd g (by rw [e4132]; decide)) (fun _ _ => ⟨27, 28, by rw [e4132]; rfl, by decide, ?_⟩)
    refine q_aload_n dX4_keyOf_28 rfl rfl ?_
    refine q_getA dX4_keyOf_29 fl_X4_9 (hL 10 (by decide)) sh_10 (by decide) rfl rfl ?_
    refine q_iload_n dX4_keyOf_32 rfl rfl ?_
    refine q_bipush dX4_keyOf_33 (by decide) rfl ?_
    obtain ⟨q1351, h1352, h⟩ := Option.bind_eq_some_iff.mp h
    refine q_callVi (as := [qi a2, qi 6]) (c := 2) dX4_keyOf_35 ml_X4_28 rfl rfl (hL 2 (by decide)) sh_2 rfl rfl (Nat.le_of_ble_eq_true rfl) (Told_contractOf_ok hL d a2 6 _ _ h1352) rfl ?_
    refine q_sipush dX4_keyOf_38 (by decide) rfl ?_
    refine q_imul dX4_keyOf_41 rfl ?_
    refine q_aload_n dX4_keyOf_42 rfl rfl ?_
    refine q_getA dX4_keyOf_43 fl_X4_9 (hL 10 (by decide)) sh_10 (by decide) rfl rfl ?_
    refine q_iload_n dX4_keyOf_46 rfl rfl ?_
    refine q_iconst dX4_keyOf_47 rfl rfl ?_
    obtain ⟨q1353, h1354, h⟩ := Option.bind_eq_some_iff.mp h
    refine q_callVi (as := [qi a2, qi 4]) (c := 2) dX4_keyOf_48 ml_X4_28 rfl rfl (hL 2 (by decide)) sh_2 rfl rfl (Nat.le_of_ble_eq_true rfl) (Told_contractOf_ok hL d a2 4 _ _ h1354) rfl ?_
    refine q_iadd dX4_keyOf_51 rfl ?_
    cases h
    exact q_ireturn dX4_keyOf_52 rfl hQ
  · rw [if_neg e4132] at h
    by_cases e4133 : a1 = 1
    · rw [if_pos e4133] at h
      refine q_tsw (tgt := 86) dX4_keyOf_1 (qRb_R c1350) (by decide) (fun g => absurd g (by rw [e4133]; decide)) (fun _ _ => ⟨52, 53, by rw [e4133]; rfl, by decide, ?_⟩)
      refine q_aload_n dX4_keyOf_53 rfl rfl ?_
      refine q_getA dX4_keyOf_54 fl_X4_9 (hL 10 (by decide)) sh_10 (by decide) rfl rfl ?_
      refine q_iload_n dX4_keyOf_57 rfl rfl ?_
      refine q_iconst dX4_keyOf_58 rfl rfl ?_
      obtain ⟨q1355, h1356, h⟩ := Option.bind_eq_some_iff.mp h
      refine q_callVi (as := [qi a2, qi 4]) (c := 2) dX4_keyOf_59 ml_X4_28 rfl rfl (hL 2 (by decide)) sh_2 rfl rfl (Nat.le_of_ble_eq_true rfl) (Told_contractOf_ok hL d a2 4 _ _ h1356) rfl ?_
      refine q_iconst dX4_keyOf_62 rfl rfl ?_
      refine q_imul dX4_keyOf_63 rfl ?_
      refine q_aload_n dX4_keyOf_64 rfl rfl ?_
      refine q_getA dX4_keyOf_65 fl_X4_9 (hL 10 (by decide)) sh_10 (by decide) rfl rfl ?_
      refine q_iload_n dX4_keyOf_68 rfl rfl ?_
      refine q_bipush dX4_keyOf_69 (by decide) rfl ?_
      obtain ⟨q1357, h1358, h⟩ := Option.bind_eq_some_iff.mp h
      refine q_callVi (as := [qi a2, qi 6]) (c := 2) dX4_keyOf_71 ml_X4_28 rfl rfl (hL 2 (by decide)) sh_2 rfl rfl (Nat.le_of_ble_eq_true rfl) (Told_contractOf_ok hL d a2 6 _ _ h1358) rfl ?_
      refine q_iadd dX4_keyOf_74 rfl ?_
      cases h
      exact q_ireturn dX4_keyOf_75 rfl hQ
    · rw [if_neg e4133] at h
      by_cases e4134 : a1 = 2
      · rw [if_pos e4134] at h
        refine q_tsw (tgt := 86) dX4_keyOf_1 (qRb_R c1350) (by decide) (fun g => absurd g (by rw [e4134]; decide)) (fun _ _ => ⟨75, 76, by rw [e4134]; rfl, by decide, ?_⟩)
        refine q_aload_n dX4_keyOf_76 rfl rfl ?_
        refine q_getA dX4_keyOf_77 fl_X4_9 (hL 10 (by decide)) sh_10 (by decide) rfl rfl ?_
        refine q_iload_n dX4_keyOf_80 rfl rfl ?_
        refine q_iconst dX4_keyOf_81 rfl rfl ?_
        obtain ⟨q1359, h1360, h⟩ := Option.bind_eq_some_iff.mp h
        refine q_callVi (as := [qi a2, qi 5]) (c := 2) dX4_keyOf_82 ml_X4_28 rfl rfl (hL 2 (by decide)) sh_2 rfl rfl (Nat.le_of_ble_eq_true rfl) (Told_contractOf_ok hL d a2 5 _ _ h1360) rfl ?_
        cases h
        exact q_ireturn dX4_keyOf_85 rfl hQ
      · rw [if_neg e4134] at h
        refine q_tsw (tgt := 86) dX4_keyOf_1 (qRb_R c1350) (by decide) (fun _ => ?_) (fun g1 g2 => absurd g1 (by omega))
        refine q_aload_n dX4_keyOf_86 rfl rfl ?_
        refine q_getA dX4_keyOf_87 fl_X4_9 (hL 10 (by decide)) sh_10 (by decide) rfl rfl ?_
        refine q_iload_n dX4_keyOf_90 rfl rfl ?_
        refine q_iconst dX4_keyOf_91 rfl rfl ?_
        obtain ⟨q1361, h1362, h⟩ := Option.bind_eq_some_iff.mp h
        refine q_callVi (as := [qi a2, qi 0]) (c := 2) dX4_keyOf_92 ml_X4_28 rfl rfl (hL 2 (by decide)) sh_2 rfl rfl (Nat.le_of_ble_eq_true rfl) (Told_contractOf_ok hL d a2 0 _ _ h1362) rfl ?_
        refine q_ineg dX4_keyOf_95 rfl ?_
        cases h
        exact q_ireturn dX4_keyOf_96 rfl hQ
set_option maxRecDepth 20000 in
theorem Ranking_shipsAhead_L13_ok {X : qX} (hL : ∀ c, c < 93 → c ∈ qLs X) (d : Nat) {Q : Option qV → qSto → Prop} : ∀ (n : Nat) (x1 : Int) (x2 : Int) (x3 : Int) (x4 : Int) (x5 : Int) (S : qSto) (o : (Int × qSto)), Ranking_shipsAhead_L13 n x1 x2 x3 x4 x5 S = some o → (qW X (d + 2) yX4_shipsAhead cX4_shipsAhead 7 (some .int) 61 [(4, qi o.1)] [] o.2 Q) → qW X (d + 2) yX4_shipsAhead cX4_shipsAhead 7 (some .int) 13 [(0, qr 10), (1, qi x1), (2, qi x2), (3, qi x3), (4, qi x4), (5, qi x5)] [] S Q := by
  intro n
  induction n with
  | zero =>
    intro x1 x2 x3 x4 x5 S o h
    simp [Ranking_shipsAhead_L13] at h
  | succ n ih =>
    intro x1 x2 x3 x4 x5 S o h hE
    rw [Ranking_shipsAhead_L13] at h
    refine q_iload dX4_shipsAhead_13 rfl rfl ?_
    refine q_aload_n dX4_shipsAhead_15 rfl rfl ?_
    refine q_getA dX4_shipsAhead_16 fl_X4_9 (hL 10 (by decide)) sh_10 (by decide) rfl rfl ?_
    refine q_getI dX4_shipsAhead_19 fl_X4_15 (hL 2 (by decide)) sh_2 (by decide) rfl rfl ?_
    obtain ⟨c1365, h⟩ := qk_some h
    obtain ⟨c1366, h⟩ := qk_some h
    refine q_icmp_ge (tgt := 61) dX4_shipsAhead_22 (by decide) rfl (qRb_R c1365) (qRb_R c1366) (fun g => ?_) (fun g => ?_)
    · rw [if_pos (show (S 2 12) ≤ x5 from g)] at h
      cases h
      exact q_pick [4] rfl (hE)
    · rw [if_neg (show ¬ ((S 2 12) ≤ x5) from g)] at h
      refine q_aload_n dX4_shipsAhead_25 rfl rfl ?_
      refine q_iload_n dX4_shipsAhead_26 rfl rfl ?_
      refine q_iload dX4_shipsAhead_27 rfl rfl ?_
      obtain ⟨q1367, h1368, h⟩ := Option.bind_eq_some_iff.mp h
      refine q_callVi (as := [qi x1, qi x5]) (c := 10) dX4_shipsAhead_29 ml_X4_25 rfl rfl (hL 10 (by decide)) sh_10 rfl rfl (Nat.le_of_ble_eq_true rfl) (Ranking_keyOf_ok hL d x1 x5 _ _ h1368) rfl ?_
      refine q_istore (lv' := [(6, qi q1367.1), (0, qr 10), (1, qi x1), (2, qi x2), (3, qi x3), (4, qi x4), (5, qi x5)]) dX4_shipsAhead_32 (by decide) rfl rfl ?_
      refine q_iload dX4_shipsAhead_34 rfl rfl ?_
      refine q_iload_n dX4_shipsAhead_36 rfl rfl ?_
      refine q_jn (G := fun (t1375 : Int) => qW X (d + 2) yX4_shipsAhead cX4_shipsAhead 7 (some .int) 55 [(0, qr 10), (1, qi x1), (2, qi x2), (3, qi x3), (4, qi t1375), (5, qi x5)] [] q1367.2 Q) h (fun t1375 h => ?_) (fun t1375 h hk4135 => ?_)
      · try dsimp only at h
        refine q_iinc (lv' := [(5, qi (x5 + 1)), (0, qr 10), (1, qi x1), (2, qi x2), (3, qi x3), (4, qi t1375)]) dX4_shipsAhead_55 (by decide) rfl rfl rfl ?_
        refine q_goto (pc' := 13) dX4_shipsAhead_58 (by decide) ?_
        exact q_pick [1, 2, 3, 4, 5, 0] rfl (ih x1 x2 x3 t1375 (x5 + 1) _ _ h hE)
      · skip
        obtain ⟨c1369, h⟩ := qk_some h
        obtain ⟨c1370, h⟩ := qk_some h
        refine q_icmp_lt (tgt := 52) dX4_shipsAhead_37 (by decide) rfl (qRb_R c1369) (qRb_R c1370) (fun g => ?_) (fun g => ?_)
        · rw [if_pos (show q1367.1 < x3 from g)] at h
          refine q_iinc (lv' := [(4, qi (x4 + 1)), (6, qi q1367.1), (0, qr 10), (1, qi x1), (2, qi x2), (3, qi x3), (5, qi x5)]) dX4_shipsAhead_52 (by decide) rfl rfl rfl ?_
          cases h
          exact q_pick [2, 3, 4, 5, 0, 6] rfl hk4135
        · rw [if_neg (show ¬ (q1367.1 < x3) from g)] at h
          refine q_iload dX4_shipsAhead_40 rfl rfl ?_
          refine q_iload_n dX4_shipsAhead_42 rfl rfl ?_
          obtain ⟨c1371, h⟩ := qk_some h
          obtain ⟨c1372, h⟩ := qk_some h
          refine q_icmp_ne (tgt := 55) dX4_shipsAhead_43 (by decide) rfl (qRb_R c1371) (qRb_R c1372) (fun g => ?_) (fun g => ?_)
          · rw [if_neg (show ¬ (q1367.1 = x3) from g)] at h
            cases h
            exact q_pick [1, 2, 3, 4, 5, 6] rfl hk4135
          · rw [if_pos (show q1367.1 = x3 from g)] at h
            refine q_iload dX4_shipsAhead_46 rfl rfl ?_
            refine q_iload_n dX4_shipsAhead_48 rfl rfl ?_
            obtain ⟨c1373, h⟩ := qk_some h
            obtain ⟨c1374, h⟩ := qk_some h
            refine q_icmp_ge (tgt := 55) dX4_shipsAhead_49 (by decide) rfl (qRb_R c1373) (qRb_R c1374) (fun g => ?_) (fun g => ?_)
            · rw [if_pos (show x2 ≤ x5 from g)] at h
              cases h
              exact q_pick [1, 2, 3, 4, 5, 6] rfl hk4135
            · rw [if_neg (show ¬ (x2 ≤ x5) from g)] at h
              refine q_iinc (lv' := [(4, qi (x4 + 1)), (6, qi q1367.1), (0, qr 10), (1, qi x1), (2, qi x2), (3, qi x3), (5, qi x5)]) dX4_shipsAhead_52 (by decide) rfl rfl rfl ?_
              cases h
              exact q_pick [2, 3, 4, 5, 0, 6] rfl hk4135
set_option maxRecDepth 20000 in
theorem Ranking_shipsAhead_ok {X : qX} (hL : ∀ c, c < 93 → c ∈ qLs X) (d : Nat) (a1 : Int) (a2 : Int) (S : qSto) (o : (Int × qSto)) (h : Ranking_shipsAhead a1 a2 S = some o) (Q : Option qV → qSto → Prop) (hQ : Q (some (qi o.1)) o.2) : qC X (d + 2) yX4_shipsAhead cX4_shipsAhead 7 (some .int) [qr 10, qi a1, qi a2] S Q := by
  refine q_entry (lv := [(0, qr 10), (1, qi a1), (2, qi a2)]) pn_X4 (Nat.le_of_ble_eq_true rfl) rfl ?_
  unfold Ranking_shipsAhead at h
  refine q_aload_n dX4_shipsAhead_0 rfl rfl ?_
  refine q_iload_n dX4_shipsAhead_1 rfl rfl ?_
  refine q_iload_n dX4_shipsAhead_2 rfl rfl ?_
  obtain ⟨q1363, h1364, h⟩ := Option.bind_eq_some_iff.mp h
  refine q_callVi (as := [qi a1, qi a2]) (c := 10) dX4_shipsAhead_3 ml_X4_25 rfl rfl (hL 10 (by decide)) sh_10 rfl rfl (Nat.le_of_ble_eq_true rfl) (Ranking_keyOf_ok hL d a1 a2 _ _ h1364) rfl ?_
  refine q_istore_n (lv' := [(3, qi q1363.1), (0, qr 10), (1, qi a1), (2, qi a2)]) dX4_shipsAhead_6 (by decide) rfl rfl ?_
  refine q_iconst dX4_shipsAhead_7 rfl rfl ?_
  refine q_istore (lv' := [(4, qi 0), (3, qi q1363.1), (0, qr 10), (1, qi a1), (2, qi a2)]) dX4_shipsAhead_8 (by decide) rfl rfl ?_
  refine q_iconst dX4_shipsAhead_10 rfl rfl ?_
  refine q_istore (lv' := [(5, qi 0), (4, qi 0), (3, qi q1363.1), (0, qr 10), (1, qi a1), (2, qi a2)]) dX4_shipsAhead_11 (by decide) rfl rfl ?_
  obtain ⟨q1376, h1377, h⟩ := Option.bind_eq_some_iff.mp h
  refine q_pick [3, 4, 5, 2, 1, 0] rfl (Ranking_shipsAhead_L13_ok hL d qF a1 a2 q1363.1 0 0 _ _ h1377 ?_)
  refine q_iload dX4_shipsAhead_61 rfl rfl ?_
  cases h
  exact q_ireturn dX4_shipsAhead_63 rfl hQ
set_option maxRecDepth 20000 in
theorem Ranking_shipAt_L2_ok {X : qX} (hL : ∀ c, c < 93 → c ∈ qLs X) (d : Nat) {Q : Option qV → qSto → Prop} : ∀ (n : Nat) (x1 : Int) (x2 : Int) (x3 : Int) (S : qSto) (o : (qSto ⊕ (Int × qSto))), Ranking_shipAt_L2 n x1 x2 x3 S = some o → (∀ t, o = Sum.inl t → qW X (d + 3) yX4_shipAt cX4_shipAt 4 (some .int) 31 [] [] t Q) → (∀ w, o = Sum.inr w → Q (some (qi w.1)) w.2) → qW X (d + 3) yX4_shipAt cX4_shipAt 4 (some .int) 2 [(0, qr 10), (1, qi x1), (2, qi x2), (3, qi x3)] [] S Q := by
  intro n
  induction n with
  | zero =>
    intro x1 x2 x3 S o h
    simp [Ranking_shipAt_L2] at h
  | succ n ih =>
    intro x1 x2 x3 S o h hE hR
    rw [Ranking_shipAt_L2] at h
    refine q_iload_n dX4_shipAt_2 rfl rfl ?_
    refine q_aload_n dX4_shipAt_3 rfl rfl ?_
    refine q_getA dX4_shipAt_4 fl_X4_9 (hL 10 (by decide)) sh_10 (by decide) rfl rfl ?_
    refine q_getI dX4_shipAt_7 fl_X4_15 (hL 2 (by decide)) sh_2 (by decide) rfl rfl ?_
    obtain ⟨c1348, h⟩ := qk_some h
    obtain ⟨c1349, h⟩ := qk_some h
    refine q_icmp_ge (tgt := 31) dX4_shipAt_10 (by decide) rfl (qRb_R c1348) (qRb_R c1349) (fun g => ?_) (fun g => ?_)
    · rw [if_pos (show (S 2 12) ≤ x3 from g)] at h
      cases h
      exact q_pick [] rfl (hE _ rfl)
    · rw [if_neg (show ¬ ((S 2 12) ≤ x3) from g)] at h
      refine q_aload_n dX4_shipAt_13 rfl rfl ?_
      refine q_iload_n dX4_shipAt_14 rfl rfl ?_
      refine q_iload_n dX4_shipAt_15 rfl rfl ?_
      obtain ⟨q1378, h1379, h⟩ := Option.bind_eq_some_iff.mp h
      refine q_callVi (as := [qi x1, qi x3]) (c := 10) dX4_shipAt_16 ml_X4_21 rfl rfl (hL 10 (by decide)) sh_10 rfl rfl (Nat.le_of_ble_eq_true rfl) (Ranking_shipsAhead_ok hL d x1 x3 _ _ h1379) rfl ?_
      refine q_iload_n dX4_shipAt_19 rfl rfl ?_
      obtain ⟨c1380, h⟩ := qk_some h
      obtain ⟨c1381, h⟩ := qk_some h
      refine q_icmp_ne (tgt := 25) dX4_shipAt_20 (by decide) rfl (qRb_R c1380) (qRb_R c1381) (fun g => ?_) (fun g => ?_)
      · rw [if_neg (show ¬ (q1378.1 = x2) from g)] at h
        refine q_iinc (lv' := [(3, qi (x3 + 1)), (0, qr 10), (1, qi x1), (2, qi x2)]) dX4_shipAt_25 (by decide) rfl rfl rfl ?_
        refine q_goto (pc' := 2) dX4_shipAt_28 (by decide) ?_
        exact q_pick [1, 2, 3, 0] rfl (ih x1 x2 (x3 + 1) _ _ h hE hR)
      · rw [if_pos (show q1378.1 = x2 from g)] at h
        refine q_iload_n dX4_shipAt_23 rfl rfl ?_
        cases h
        exact q_ireturn dX4_shipAt_24 rfl (hR _ rfl)
set_option maxRecDepth 20000 in
theorem Ranking_shipAt_ok {X : qX} (hL : ∀ c, c < 93 → c ∈ qLs X) (d : Nat) (a1 : Int) (a2 : Int) (S : qSto) (o : (Int × qSto)) (h : Ranking_shipAt a1 a2 S = some o) (Q : Option qV → qSto → Prop) (hQ : Q (some (qi o.1)) o.2) : qC X (d + 3) yX4_shipAt cX4_shipAt 4 (some .int) [qr 10, qi a1, qi a2] S Q := by
  refine q_entry (lv := [(0, qr 10), (1, qi a1), (2, qi a2)]) pn_X4 (Nat.le_of_ble_eq_true rfl) rfl ?_
  unfold Ranking_shipAt at h
  refine q_iconst dX4_shipAt_0 rfl rfl ?_
  refine q_istore_n (lv' := [(3, qi 0), (0, qr 10), (1, qi a1), (2, qi a2)]) dX4_shipAt_1 (by decide) rfl rfl ?_
  obtain ⟨q1382, h1383, h⟩ := Option.bind_eq_some_iff.mp h
  refine q_pick [1, 2, 3, 0] rfl (Ranking_shipAt_L2_ok hL d qF a1 a2 0 _ _ h1383 (fun t1384 e4136 => ?_) (fun w e4136 => ?_))
  · subst e4136
    simp only [Sum.elim_inl] at h
    refine q_iconst dX4_shipAt_31 rfl rfl ?_
    cases h
    exact q_ireturn dX4_shipAt_32 rfl hQ
  · subst e4136
    simp only [Sum.elim_inr] at h
    cases h
    exact hQ
set_option maxRecDepth 20000 in
theorem C_order_ok {X : qX} (hL : ∀ c, c < 93 → c ∈ qLs X) (d : Nat) (a1 : Int) (a2 : Int) (S : qSto) (o : (Int × qSto)) (h : C_order a1 a2 S = some o) (Q : Option qV → qSto → Prop) (hQ : Q (some (qi o.1)) o.2) : qC X (d + 4) yX11_order cX11_order 3 (some .int) [qr 0, qi a1, qi a2] S Q := by
  refine q_entry (lv := [(0, qr 0), (1, qi a1), (2, qi a2)]) pn_X11 (Nat.le_of_ble_eq_true rfl) rfl ?_
  unfold C_order at h
  refine q_iload_n dX11_order_0 rfl rfl ?_
  obtain ⟨q1342, h1343, h⟩ := Option.bind_eq_some_iff.mp h
  refine q_callSi (as := [qi a1]) dX11_order_1 ml_X11_344 rfl rfl (Nat.le_of_ble_eq_true rfl) (C_isRule_ok hL (d + 3) a1 _ _ h1343) rfl ?_
  obtain ⟨c1344, h⟩ := qk_some h
  refine q_if_eq (tgt := 11) dX11_order_4 (by decide) rfl (qRb_R c1344)  (fun g => ?_) (fun g => ?_)
  · rw [if_pos (show q1342.1 = 0 from g)] at h
    refine q_iconst dX11_order_11 rfl rfl ?_
    cases h
    exact q_ireturn dX11_order_12 rfl hQ
  · rw [if_neg (show ¬ (q1342.1 = 0) from g)] at h
    refine q_iload_n dX11_order_7 rfl rfl ?_
    obtain ⟨c1345, h⟩ := qk_some h
    refine q_if_ge (tgt := 13) dX11_order_8 (by decide) rfl (qRb_R c1345)  (fun g => ?_) (fun g => ?_)
    · rw [if_pos (show 0 ≤ a2 from g)] at h
      refine q_iload_n dX11_order_13 rfl rfl ?_
      refine q_aload_n dX11_order_14 rfl rfl ?_
      refine q_getA dX11_order_15 fl_X11_16 (hL 0 (by decide)) sh_0 (by decide) rfl rfl ?_
      refine q_getI dX11_order_18 fl_X11_158 (hL 2 (by decide)) sh_2 (by decide) rfl rfl ?_
      obtain ⟨c1346, h⟩ := qk_some h
      obtain ⟨c1347, h⟩ := qk_some h
      refine q_icmp_ge (tgt := 36) dX11_order_21 (by decide) rfl (qRb_R c1346) (qRb_R c1347) (fun g => ?_) (fun g => ?_)
      · rw [if_pos (show (q1342.2 2 12) ≤ a2 from g)] at h
        refine q_bipush dX11_order_36 (by decide) rfl ?_
        cases h
        exact q_ireturn dX11_order_38 rfl hQ
      · rw [if_neg (show ¬ ((q1342.2 2 12) ≤ a2) from g)] at h
        refine q_aload_n dX11_order_24 rfl rfl ?_
        refine q_getA dX11_order_25 fl_X11_83 (hL 0 (by decide)) sh_0 (by decide) rfl rfl ?_
        refine q_iload_n dX11_order_28 rfl rfl ?_
        refine q_iload_n dX11_order_29 rfl rfl ?_
        obtain ⟨q1385, h1386, h⟩ := Option.bind_eq_some_iff.mp h
        refine q_callVi (as := [qi a1, qi a2]) (c := 10) dX11_order_30 ml_X11_347 rfl rfl (hL 10 (by decide)) sh_10 rfl rfl (Nat.le_of_ble_eq_true rfl) (Ranking_shipAt_ok hL d a1 a2 _ _ h1386) rfl ?_
        refine q_goto (pc' := 38) dX11_order_33 (by decide) ?_
        cases h
        exact q_ireturn dX11_order_38 rfl hQ
    · rw [if_neg (show ¬ (0 ≤ a2) from g)] at h
      refine q_iconst dX11_order_11 rfl rfl ?_
      cases h
      exact q_ireturn dX11_order_12 rfl hQ
set_option maxRecDepth 20000 in
theorem C_all_L44_ok {X : qX} (hL : ∀ c, c < 93 → c ∈ qLs X) (d : Nat) {Q : Option qV → qSto → Prop} : ∀ (n : Nat) (x1 : Int) (x2 : Int) (x3 : Int) (S : qSto) (o : (Int × qSto)), C_all_L44 n x1 x2 x3 S = some o → (qW X (d + 6) yX11_all cX11_all 5 (some .int) 102 [(0, qr 0), (2, qi o.1)] [] o.2 Q) → qW X (d + 6) yX11_all cX11_all 5 (some .int) 44 [(0, qr 0), (1, qi x1), (2, qi x2), (3, qi x3)] [] S Q := by
  intro n
  induction n with
  | zero =>
    intro x1 x2 x3 S o h
    simp [C_all_L44] at h
  | succ n ih =>
    intro x1 x2 x3 S o h hE
    rw [C_all_L44] at h
    refine q_iload_n dX11_all_44 rfl rfl ?_
    refine q_aload_n dX11_all_45 rfl rfl ?_
    refine q_getA dX11_all_46 fl_X11_16 (hL 0 (by decide)) sh_0 (by decide) rfl rfl ?_
    refine q_getI dX11_all_49 fl_X11_158 (hL 2 (by decide)) sh_2 (by decide) rfl rfl ?_
    obtain ⟨c1396, h⟩ := qk_some h
    obtain ⟨c1397, h⟩ := qk_some h
    refine q_icmp_ge (tgt := 102) dX11_all_52 (by decide) rfl (qRb_R c1396) (qRb_R c1397) (fun g => ?_) (fun g => ?_)
    · rw [if_pos (show (S 2 12) ≤ x3 from g)] at h
      cases h
      exact q_pick [0, 2] rfl (hE)
    · rw [if_neg (show ¬ ((S 2 12) ≤ x3) from g)] at h
      refine q_aload_n dX11_all_55 rfl rfl ?_
      refine q_getA dX11_all_56 fl_X11_83 (hL 0 (by decide)) sh_0 (by decide) rfl rfl ?_
      refine q_iload_n dX11_all_59 rfl rfl ?_
      refine q_iload_n dX11_all_60 rfl rfl ?_
      obtain ⟨q1398, h1399, h⟩ := Option.bind_eq_some_iff.mp h
      refine q_callVi (as := [qi x1, qi x3]) (c := 10) dX11_all_61 ml_X11_347 rfl rfl (hL 10 (by decide)) sh_10 rfl rfl (Nat.le_of_ble_eq_true rfl) (Ranking_shipAt_ok hL (d + 2) x1 x3 _ _ h1399) rfl ?_
      refine q_istore (lv' := [(4, qi q1398.1), (0, qr 0), (1, qi x1), (2, qi x2), (3, qi x3)]) dX11_all_64 (by decide) rfl rfl ?_
      refine q_iload dX11_all_66 rfl rfl ?_
      refine q_iconst dX11_all_68 rfl rfl ?_
      refine q_jn (G := fun (t1407 : (Int × qSto)) => qW X (d + 6) yX11_all cX11_all 5 (some .int) 96 [(0, qr 0), (1, qi x1), (2, qi t1407.1), (3, qi x3)] [] t1407.2 Q) h (fun t1407 h => ?_) (fun t1407 h hk4137 => ?_)
      · try dsimp only at h
        refine q_iinc (lv' := [(3, qi (x3 + 1)), (0, qr 0), (1, qi x1), (2, qi t1407.1)]) dX11_all_96 (by decide) rfl rfl rfl ?_
        refine q_goto (pc' := 44) dX11_all_99 (by decide) ?_
        exact q_pick [1, 2, 3, 0] rfl (ih x1 t1407.1 (x3 + 1) _ _ h hE)
      · skip
        obtain ⟨c1400, h⟩ := qk_some h
        refine q_icmp_eq (tgt := 96) dX11_all_69 (by decide) rfl (qRb_R c1400) ⟨by decide, by decide⟩ (fun g => ?_) (fun g => ?_)
        · rw [if_pos (show q1398.1 = (-1) from g)] at h
          cases h
          exact q_pick [1, 2, 3, 4] rfl hk4137
        · rw [if_neg (show ¬ (q1398.1 = (-1)) from g)] at h
          refine q_aload_n dX11_all_72 rfl rfl ?_
          refine q_getA dX11_all_73 fl_X11_49 (hL 0 (by decide)) sh_0 (by decide) rfl rfl ?_
          refine q_iload dX11_all_76 rfl rfl ?_
          obtain ⟨q1401, h1402, h⟩ := Option.bind_eq_some_iff.mp h
          refine q_callVi (as := [qi q1398.1]) (c := 6) dX11_all_78 ml_X11_178 rfl rfl (hL 6 (by decide)) sh_6 rfl rfl (Nat.le_of_ble_eq_true rfl) (Stays_has_ok hL (d + 5) q1398.1 _ _ h1402) rfl ?_
          obtain ⟨c1403, h⟩ := qk_some h
          refine q_if_ne (tgt := 96) dX11_all_81 (by decide) rfl (qRb_R c1403)  (fun g => ?_) (fun g => ?_)
          · rw [if_neg (show ¬ (q1401.1 = 0) from g)] at h
            cases h
            exact q_pick [1, 2, 3, 4] rfl hk4137
          · rw [if_pos (show q1401.1 = 0 from g)] at h
            refine q_aload_n dX11_all_84 rfl rfl ?_
            refine q_iload dX11_all_85 rfl rfl ?_
            obtain ⟨q1404, h1405, h⟩ := Option.bind_eq_some_iff.mp h
            refine q_callVi (as := [qi q1398.1]) (c := 0) dX11_all_87 ml_X11_309 rfl rfl (hL 0 (by decide)) sh_0 rfl rfl (Nat.le_of_ble_eq_true rfl) (C_layByItself_ok hL d q1398.1 _ _ h1405) rfl ?_
            obtain ⟨c1406, h⟩ := qk_some h
            refine q_if_eq (tgt := 96) dX11_all_90 (by decide) rfl (qRb_R c1406)  (fun g => ?_) (fun g => ?_)
            · rw [if_pos (show q1404.1 = 0 from g)] at h
              cases h
              exact q_pick [1, 2, 3, 4] rfl hk4137
            · rw [if_neg (show ¬ (q1404.1 = 0) from g)] at h
              refine q_iinc (lv' := [(2, qi (x2 + 1)), (4, qi q1398.1), (0, qr 0), (1, qi x1), (3, qi x3)]) dX11_all_93 (by decide) rfl rfl rfl ?_
              cases h
              exact q_pick [2, 3, 0, 4] rfl hk4137
set_option maxRecDepth 20000 in
theorem C_all_ok {X : qX} (hL : ∀ c, c < 93 → c ∈ qLs X) (d : Nat) (a1 : Int) (S : qSto) (o : (Int × qSto)) (h : C_all a1 S = some o) (Q : Option qV → qSto → Prop) (hQ : Q (some (qi o.1)) o.2) : qC X (d + 6) yX11_all cX11_all 5 (some .int) [qr 0, qi a1] S Q := by
  refine q_entry (lv := [(0, qr 0), (1, qi a1)]) pn_X11 (Nat.le_of_ble_eq_true rfl) rfl ?_
  unfold C_all at h
  refine q_iload_n dX11_all_0 rfl rfl ?_
  obtain ⟨q1387, h1388, h⟩ := Option.bind_eq_some_iff.mp h
  refine q_callSi (as := [qi a1]) dX11_all_1 ml_X11_344 rfl rfl (Nat.le_of_ble_eq_true rfl) (C_isRule_ok hL (d + 5) a1 _ _ h1388) rfl ?_
  obtain ⟨c1389, h⟩ := qk_some h
  refine q_if_ne (tgt := 9) dX11_all_4 (by decide) rfl (qRb_R c1389)  (fun g => ?_) (fun g => ?_)
  · rw [if_neg (show ¬ (q1387.1 = 0) from g)] at h
    refine q_aload_n dX11_all_9 rfl rfl ?_
    refine q_getA dX11_all_10 fl_X11_49 (hL 0 (by decide)) sh_0 (by decide) rfl rfl ?_
    obtain ⟨q1390, h1391, h⟩ := Option.bind_eq_some_iff.mp h
    refine q_callVi (as := []) (c := 6) dX11_all_13 ml_X11_161 rfl rfl (hL 6 (by decide)) sh_6 rfl rfl (Nat.le_of_ble_eq_true rfl) (Stays_howMany_ok hL (d + 4) _ _ h1391) rfl ?_
    refine q_aload_n dX11_all_16 rfl rfl ?_
    refine q_getA dX11_all_17 fl_X11_16 (hL 0 (by decide)) sh_0 (by decide) rfl rfl ?_
    refine q_getI dX11_all_20 fl_X11_158 (hL 2 (by decide)) sh_2 (by decide) rfl rfl ?_
    obtain ⟨c1392, h⟩ := qk_some h
    obtain ⟨c1393, h⟩ := qk_some h
    refine q_icmp_ne (tgt := 29) dX11_all_23 (by decide) rfl (qRb_R c1392) (qRb_R c1393) (fun g => ?_) (fun g => ?_)
    · rw [if_neg (show ¬ (q1390.1 = (q1390.2 2 12)) from g)] at h
      refine q_aload_n dX11_all_29 rfl rfl ?_
      refine q_getA dX11_all_30 fl_X11_49 (hL 0 (by decide)) sh_0 (by decide) rfl rfl ?_
      refine q_aload_n dX11_all_33 rfl rfl ?_
      refine q_getA dX11_all_34 fl_X11_110 (hL 0 (by decide)) sh_0 (by decide) rfl rfl ?_
      obtain ⟨q1394, h1395, h⟩ := Option.bind_eq_some_iff.mp h
      refine q_callVv (as := [qr 14]) (c := 6) dX11_all_37 ml_X11_295 rfl rfl (hL 6 (by decide)) sh_6 rfl rfl (Nat.le_of_ble_eq_true rfl) (Stays_save_14_ok hL (d + 5) _ _ h1395) rfl ?_
      refine q_iconst dX11_all_40 rfl rfl ?_
      refine q_istore_n (lv' := [(2, qi 0), (0, qr 0), (1, qi a1)]) dX11_all_41 (by decide) rfl rfl ?_
      refine q_iconst dX11_all_42 rfl rfl ?_
      refine q_istore_n (lv' := [(3, qi 0), (2, qi 0), (0, qr 0), (1, qi a1)]) dX11_all_43 (by decide) rfl rfl ?_
      obtain ⟨q1408, h1409, h⟩ := Option.bind_eq_some_iff.mp h
      refine q_pick [2, 3, 1, 0] rfl (C_all_L44_ok hL d qF a1 0 0 _ _ h1409 ?_)
      refine q_aload_n dX11_all_102 rfl rfl ?_
      obtain ⟨q1410, h1411, h⟩ := Option.bind_eq_some_iff.mp h
      refine q_callVv (as := []) (c := 0) dX11_all_103 ml_X11_303 rfl rfl (hL 0 (by decide)) sh_0 rfl rfl (Nat.le_of_ble_eq_true rfl) (C_keepAct_ok hL (d + 4) _ _ h1411) rfl ?_
      refine q_iload_n dX11_all_106 rfl rfl ?_
      cases h
      exact q_ireturn dX11_all_107 rfl hQ
    · rw [if_pos (show q1390.1 = (q1390.2 2 12) from g)] at h
      refine q_bipush dX11_all_26 (by decide) rfl ?_
      cases h
      exact q_ireturn dX11_all_28 rfl hQ
  · rw [if_pos (show q1387.1 = 0 from g)] at h
    refine q_iconst dX11_all_7 rfl rfl ?_
    cases h
    exact q_ireturn dX11_all_8 rfl hQ
set_option maxRecDepth 20000 in
theorem FirstFour_tryFrom_n4_ok {X : qX} (hL : ∀ c, c < 93 → c ∈ qLs X) (d : Nat) (a2 : Int) (a3 : Int) (a4 : Int) (S : qSto) (o : qSto) (h : FirstFour_tryFrom_n4 a2 a3 a4 S = some o) (Q : Option qV → qSto → Prop) (hQ : Q none o) : qC X d yX1_tryFrom cX1_tryFrom 7 none [qr 11, qi 4, qi a2, qi a3, qi a4] S Q := by
  refine q_entry (lv := [(0, qr 11), (1, qi 4), (2, qi a2), (3, qi a3), (4, qi a4)]) pn_X1 (Nat.le_of_ble_eq_true rfl) rfl ?_
  unfold FirstFour_tryFrom_n4 at h
  refine q_iload_n dX1_tryFrom_0 rfl rfl ?_
  refine q_aload_n dX1_tryFrom_1 rfl rfl ?_
  refine q_getI dX1_tryFrom_2 fl_X1_64 (hL 11 (by decide)) sh_11 (by decide) rfl rfl ?_
  obtain ⟨c1481, h⟩ := qk_some h
  obtain ⟨c1482, h⟩ := qk_some h
  refine q_icmp_gt (tgt := 25) dX1_tryFrom_5 (by decide) rfl (qRb_R c1481) (qRb_R c1482) (fun g => ?_) (fun g => ?_)
  · rw [if_pos (show (S 11 5) < a3 from g)] at h
    cases h
    exact q_return dX1_tryFrom_25 rfl hQ
  · rw [if_neg (show ¬ ((S 11 5) < a3) from g)] at h
    refine q_iload_n dX1_tryFrom_8 rfl rfl ?_
    refine q_aload_n dX1_tryFrom_9 rfl rfl ?_
    refine q_getI dX1_tryFrom_10 fl_X1_64 (hL 11 (by decide)) sh_11 (by decide) rfl rfl ?_
    obtain ⟨c1483, h⟩ := qk_some h
    obtain ⟨c1484, h⟩ := qk_some h
    refine q_icmp_ne (tgt := 26) dX1_tryFrom_13 (by decide) rfl (qRb_R c1483) (qRb_R c1484) (fun g => ?_) (fun g => ?_)
    · rw [if_neg (show ¬ (a3 = (S 11 5)) from g)] at h
      refine q_iload_n dX1_tryFrom_26 rfl rfl ?_
      refine q_aload_n dX1_tryFrom_27 rfl rfl ?_
      refine q_getI dX1_tryFrom_28 fl_X1_41 (hL 11 (by decide)) sh_11 (by decide) rfl rfl ?_
      obtain ⟨c1485, h⟩ := qk_some h
      refine q_icmp_ge (tgt := 39) dX1_tryFrom_31 (by decide) rfl ⟨by decide, by decide⟩ (qRb_R c1485) (fun g => ?_) (fun g => ?_)
      · rw [if_pos (show (S 11 4) ≤ 4 from g)] at h
        refine q_aload_n dX1_tryFrom_39 rfl rfl ?_
        refine q_iload_n dX1_tryFrom_40 rfl rfl ?_
        refine q_putI dX1_tryFrom_41 fl_X1_64 (hL 11 (by decide)) sh_11 (by decide) pf_1_5 pt_1_5 rfl rfl ?_
        refine q_aload_n dX1_tryFrom_44 rfl rfl ?_
        refine q_iload dX1_tryFrom_45 rfl rfl ?_
        refine q_putI dX1_tryFrom_47 fl_X1_67 (hL 11 (by decide)) sh_11 (by decide) pf_1_6 pt_1_6 rfl rfl ?_
        refine q_aload_n dX1_tryFrom_50 rfl rfl ?_
        refine q_getA dX1_tryFrom_51 fl_X1_18 (hL 11 (by decide)) sh_11 (by decide) rfl rfl ?_
        refine q_iconst dX1_tryFrom_54 rfl rfl ?_
        refine q_aload_n dX1_tryFrom_55 rfl rfl ?_
        refine q_getA dX1_tryFrom_56 fl_X1_9 (hL 11 (by decide)) sh_11 (by decide) rfl rfl ?_
        refine q_iconst dX1_tryFrom_59 rfl rfl ?_
        refine q_iconst dX1_tryFrom_60 rfl rfl ?_
        refine q_copy dX1_tryFrom_61 cw_X1_74 (hL 49 (by decide)) (hL 47 (by decide)) sh_49 sh_47 (by decide) (by decide) (by decide) (by decide) (by decide) (Nat.le_of_ble_eq_true rfl) rfl ?_
        cases h
        exact q_return dX1_tryFrom_64 rfl hQ
      · rw [if_neg (show ¬ ((S 11 4) ≤ 4) from g)] at h
        refine q_iload_n dX1_tryFrom_34 rfl rfl ?_
        refine q_iconst dX1_tryFrom_35 rfl rfl ?_
        refine q_icmp_lt (tgt := 65) dX1_tryFrom_36 (by decide) rfl ⟨by decide, by decide⟩ ⟨by decide, by decide⟩ (fun g => absurd g (by decide)) (fun g => ?_)
        refine q_aload_n dX1_tryFrom_39 rfl rfl ?_
        refine q_iload_n dX1_tryFrom_40 rfl rfl ?_
        refine q_putI dX1_tryFrom_41 fl_X1_64 (hL 11 (by decide)) sh_11 (by decide) pf_1_5 pt_1_5 rfl rfl ?_
        refine q_aload_n dX1_tryFrom_44 rfl rfl ?_
        refine q_iload dX1_tryFrom_45 rfl rfl ?_
        refine q_putI dX1_tryFrom_47 fl_X1_67 (hL 11 (by decide)) sh_11 (by decide) pf_1_6 pt_1_6 rfl rfl ?_
        refine q_aload_n dX1_tryFrom_50 rfl rfl ?_
        refine q_getA dX1_tryFrom_51 fl_X1_18 (hL 11 (by decide)) sh_11 (by decide) rfl rfl ?_
        refine q_iconst dX1_tryFrom_54 rfl rfl ?_
        refine q_aload_n dX1_tryFrom_55 rfl rfl ?_
        refine q_getA dX1_tryFrom_56 fl_X1_9 (hL 11 (by decide)) sh_11 (by decide) rfl rfl ?_
        refine q_iconst dX1_tryFrom_59 rfl rfl ?_
        refine q_iconst dX1_tryFrom_60 rfl rfl ?_
        refine q_copy dX1_tryFrom_61 cw_X1_74 (hL 49 (by decide)) (hL 47 (by decide)) sh_49 sh_47 (by decide) (by decide) (by decide) (by decide) (by decide) (Nat.le_of_ble_eq_true rfl) rfl ?_
        cases h
        exact q_return dX1_tryFrom_64 rfl hQ
    · rw [if_pos (show a3 = (S 11 5) from g)] at h
      refine q_iload dX1_tryFrom_16 rfl rfl ?_
      refine q_aload_n dX1_tryFrom_18 rfl rfl ?_
      refine q_getI dX1_tryFrom_19 fl_X1_67 (hL 11 (by decide)) sh_11 (by decide) rfl rfl ?_
      obtain ⟨c1486, h⟩ := qk_some h
      obtain ⟨c1487, h⟩ := qk_some h
      refine q_icmp_lt (tgt := 26) dX1_tryFrom_22 (by decide) rfl (qRb_R c1486) (qRb_R c1487) (fun g => ?_) (fun g => ?_)
      · rw [if_pos (show a4 < (S 11 6) from g)] at h
        refine q_iload_n dX1_tryFrom_26 rfl rfl ?_
        refine q_aload_n dX1_tryFrom_27 rfl rfl ?_
        refine q_getI dX1_tryFrom_28 fl_X1_41 (hL 11 (by decide)) sh_11 (by decide) rfl rfl ?_
        obtain ⟨c1488, h⟩ := qk_some h
        refine q_icmp_ge (tgt := 39) dX1_tryFrom_31 (by decide) rfl ⟨by decide, by decide⟩ (qRb_R c1488) (fun g => ?_) (fun g => ?_)
        · rw [if_pos (show (S 11 4) ≤ 4 from g)] at h
          refine q_aload_n dX1_tryFrom_39 rfl rfl ?_
          refine q_iload_n dX1_tryFrom_40 rfl rfl ?_
          refine q_putI dX1_tryFrom_41 fl_X1_64 (hL 11 (by decide)) sh_11 (by decide) pf_1_5 pt_1_5 rfl rfl ?_
          refine q_aload_n dX1_tryFrom_44 rfl rfl ?_
          refine q_iload dX1_tryFrom_45 rfl rfl ?_
          refine q_putI dX1_tryFrom_47 fl_X1_67 (hL 11 (by decide)) sh_11 (by decide) pf_1_6 pt_1_6 rfl rfl ?_
          refine q_aload_n dX1_tryFrom_50 rfl rfl ?_
          refine q_getA dX1_tryFrom_51 fl_X1_18 (hL 11 (by decide)) sh_11 (by decide) rfl rfl ?_
          refine q_iconst dX1_tryFrom_54 rfl rfl ?_
          refine q_aload_n dX1_tryFrom_55 rfl rfl ?_
          refine q_getA dX1_tryFrom_56 fl_X1_9 (hL 11 (by decide)) sh_11 (by decide) rfl rfl ?_
          refine q_iconst dX1_tryFrom_59 rfl rfl ?_
          refine q_iconst dX1_tryFrom_60 rfl rfl ?_
          refine q_copy dX1_tryFrom_61 cw_X1_74 (hL 49 (by decide)) (hL 47 (by decide)) sh_49 sh_47 (by decide) (by decide) (by decide) (by decide) (by decide) (Nat.le_of_ble_eq_true rfl) rfl ?_
          cases h
          exact q_return dX1_tryFrom_64 rfl hQ
        · rw [if_neg (show ¬ ((S 11 4) ≤ 4) from g)] at h
          refine q_iload_n dX1_tryFrom_34 rfl rfl ?_
          refine q_iconst dX1_tryFrom_35 rfl rfl ?_
          refine q_icmp_lt (tgt := 65) dX1_tryFrom_36 (by decide) rfl ⟨by decide, by decide⟩ ⟨by decide, by decide⟩ (fun g => absurd g (by decide)) (fun g => ?_)
          refine q_aload_n dX1_tryFrom_39 rfl rfl ?_
          refine q_iload_n dX1_tryFrom_40 rfl rfl ?_
          refine q_putI dX1_tryFrom_41 fl_X1_64 (hL 11 (by decide)) sh_11 (by decide) pf_1_5 pt_1_5 rfl rfl ?_
          refine q_aload_n dX1_tryFrom_44 rfl rfl ?_
          refine q_iload dX1_tryFrom_45 rfl rfl ?_
          refine q_putI dX1_tryFrom_47 fl_X1_67 (hL 11 (by decide)) sh_11 (by decide) pf_1_6 pt_1_6 rfl rfl ?_
          refine q_aload_n dX1_tryFrom_50 rfl rfl ?_
          refine q_getA dX1_tryFrom_51 fl_X1_18 (hL 11 (by decide)) sh_11 (by decide) rfl rfl ?_
          refine q_iconst dX1_tryFrom_54 rfl rfl ?_
          refine q_aload_n dX1_tryFrom_55 rfl rfl ?_
          refine q_getA dX1_tryFrom_56 fl_X1_9 (hL 11 (by decide)) sh_11 (by decide) rfl rfl ?_
          refine q_iconst dX1_tryFrom_59 rfl rfl ?_
          refine q_iconst dX1_tryFrom_60 rfl rfl ?_
          refine q_copy dX1_tryFrom_61 cw_X1_74 (hL 49 (by decide)) (hL 47 (by decide)) sh_49 sh_47 (by decide) (by decide) (by decide) (by decide) (by decide) (Nat.le_of_ble_eq_true rfl) rfl ?_
          cases h
          exact q_return dX1_tryFrom_64 rfl hQ
      · rw [if_neg (show ¬ (a4 < (S 11 6)) from g)] at h
        cases h
        exact q_return dX1_tryFrom_25 rfl hQ
set_option maxRecDepth 20000 in
theorem FirstFour_tryFrom_n3_L68_ok {X : qX} (hL : ∀ c, c < 93 → c ∈ qLs X) (d : Nat) {Q : Option qV → qSto → Prop} : ∀ (n : Nat) (x2 : Int) (x3 : Int) (x4 : Int) (x5 : Int) (S : qSto) (o : qSto), FirstFour_tryFrom_n3_L68 n x2 x3 x4 x5 S = some o → (qW X (d + 5) yX1_tryFrom cX1_tryFrom 7 none 242 [] [] o Q) → qW X (d + 5) yX1_tryFrom cX1_tryFrom 7 none 68 [(0, qr 11), (1, qi 3), (2, qi x2), (3, qi x3), (4, qi x4), (5, qi x5)] [] S Q := by
  intro n
  induction n with
  | zero =>
    intro x2 x3 x4 x5 S o h
    simp [FirstFour_tryFrom_n3_L68] at h
  | succ n ih =>
    intro x2 x3 x4 x5 S o h hE
    rw [FirstFour_tryFrom_n3_L68] at h
    refine q_iload dX1_tryFrom_68 rfl rfl ?_
    refine q_aload_n dX1_tryFrom_70 rfl rfl ?_
    refine q_getI dX1_tryFrom_71 fl_X1_41 (hL 11 (by decide)) sh_11 (by decide) rfl rfl ?_
    obtain ⟨c1475, h⟩ := qk_some h
    obtain ⟨c1476, h⟩ := qk_some h
    refine q_icmp_ge (tgt := 242) dX1_tryFrom_74 (by decide) rfl (qRb_R c1475) (qRb_R c1476) (fun g => ?_) (fun g => ?_)
    · rw [if_pos (show (S 11 4) ≤ x5 from g)] at h
      cases h
      exact q_pick [] rfl (hE)
    · rw [if_neg (show ¬ ((S 11 4) ≤ x5) from g)] at h
      refine q_iload_n dX1_tryFrom_77 rfl rfl ?_
      refine q_iload dX1_tryFrom_78 rfl rfl ?_
      refine q_ishr dX1_tryFrom_80 rfl ?_
      refine q_iconst dX1_tryFrom_81 rfl rfl ?_
      refine q_iand dX1_tryFrom_82 rfl ?_
      refine q_jn (G := fun (t1508 : qSto) => qW X (d + 5) yX1_tryFrom cX1_tryFrom 7 none 236 [(0, qr 11), (1, qi 3), (2, qi x2), (3, qi x3), (4, qi x4), (5, qi x5)] [] t1508 Q) h (fun t1508 h => ?_) (fun t1508 h hk4138 => ?_)
      · try dsimp only at h
        refine q_iinc (lv' := [(5, qi (x5 + 1)), (0, qr 11), (1, qi 3), (2, qi x2), (3, qi x3), (4, qi x4)]) dX1_tryFrom_236 (by decide) rfl rfl rfl ?_
        refine q_goto (pc' := 68) dX1_tryFrom_239 (by decide) ?_
        exact q_pick [1, 2, 3, 4, 5, 0] rfl (ih x2 x3 x4 (x5 + 1) _ _ h hE)
      · skip
        obtain ⟨c1477, h⟩ := qk_some h
        refine q_if_eq (tgt := 89) dX1_tryFrom_83 (by decide) rfl (qRb_R c1477)  (fun g => ?_) (fun g => ?_)
        · rw [if_pos (show (qb_iand (qb_ishr x2 x5) 1) = 0 from g)] at h
          refine q_aload_n dX1_tryFrom_89 rfl rfl ?_
          refine q_getA dX1_tryFrom_90 fl_X1_15 (hL 11 (by decide)) sh_11 (by decide) rfl rfl ?_
          refine q_iload dX1_tryFrom_93 rfl rfl ?_
          obtain ⟨c1478, h⟩ := qk_some h
          refine q_iaload dX1_tryFrom_95 (hL 48 (by decide)) sh_48 (qIx_0 c1478) (qIx_1 c1478) rfl ?_
          refine q_istore (lv' := [(6, qi (S 48 (Int.toNat x5))), (0, qr 11), (1, qi 3), (2, qi x2), (3, qi x3), (4, qi x4), (5, qi x5)]) dX1_tryFrom_96 (by decide) rfl rfl ?_
          refine q_aload_n dX1_tryFrom_98 rfl rfl ?_
          refine q_getA dX1_tryFrom_99 fl_X1_18 (hL 11 (by decide)) sh_11 (by decide) rfl rfl ?_
          refine q_iload_n dX1_tryFrom_102 rfl rfl ?_
          refine q_iload dX1_tryFrom_103 rfl rfl ?_
          refine q_iastore dX1_tryFrom_105 (hL 49 (by decide)) sh_49 (by decide) (by decide) rfl ?_
          refine q_aload_n dX1_tryFrom_106 rfl rfl ?_
          refine q_getA dX1_tryFrom_107 fl_X1_21 (hL 11 (by decide)) sh_11 (by decide) rfl rfl ?_
          refine q_iload dX1_tryFrom_110 rfl rfl ?_
          obtain ⟨c1479, h⟩ := qk_some h
          refine q_zaload dX1_tryFrom_112 (hL 50 (by decide)) sh_50 (qIx_0 c1479) (qIx_1 c1479) rfl ?_
          obtain ⟨c1480, h⟩ := qk_some h
          refine q_if_eq (tgt := 218) dX1_tryFrom_113 (by decide) rfl (qRb_R c1480)  (fun g => ?_) (fun g => ?_)
          · rw [if_pos (show ((qup S 49 3 (S 48 (Int.toNat x5))) 50 (Int.toNat x5)) = 0 from g)] at h
            refine q_aload_n dX1_tryFrom_218 rfl rfl ?_
            refine q_iload_n dX1_tryFrom_219 rfl rfl ?_
            refine q_iconst dX1_tryFrom_220 rfl rfl ?_
            refine q_iadd dX1_tryFrom_221 rfl ?_
            refine q_iload_n dX1_tryFrom_222 rfl rfl ?_
            refine q_iconst dX1_tryFrom_223 rfl rfl ?_
            refine q_iload dX1_tryFrom_224 rfl rfl ?_
            refine q_ishl dX1_tryFrom_226 rfl ?_
            refine q_ior dX1_tryFrom_227 rfl ?_
            refine q_iload_n dX1_tryFrom_228 rfl rfl ?_
            refine q_iconst dX1_tryFrom_229 rfl rfl ?_
            refine q_iadd dX1_tryFrom_230 rfl ?_
            refine q_iload dX1_tryFrom_231 rfl rfl ?_
            obtain ⟨q1489, h1490, h⟩ := Option.bind_eq_some_iff.mp h
            refine q_callVv (as := [qi (3 + 1), qi (qb_ior x2 (qb_ishl 1 x5)), qi (x3 + 1), qi x4]) (c := 11) dX1_tryFrom_233 ml_X1_70 rfl rfl (hL 11 (by decide)) sh_11 rfl rfl (Nat.le_of_ble_eq_true rfl) (FirstFour_tryFrom_n4_ok hL (d + 4) (qb_ior x2 (qb_ishl 1 x5)) (x3 + 1) x4 _ _ h1490) rfl ?_
            cases h
            exact q_pick [1, 2, 3, 4, 5, 6] rfl hk4138
          · rw [if_neg (show ¬ (((qup S 49 3 (S 48 (Int.toNat x5))) 50 (Int.toNat x5)) = 0) from g)] at h
            refine q_aload_n dX1_tryFrom_116 rfl rfl ?_
            refine q_getA dX1_tryFrom_117 fl_X1_33 (hL 11 (by decide)) sh_11 (by decide) rfl rfl ?_
            refine q_iload dX1_tryFrom_120 rfl rfl ?_
            refine q_aload_n dX1_tryFrom_122 rfl rfl ?_
            refine q_getA dX1_tryFrom_123 fl_X1_25 (hL 11 (by decide)) sh_11 (by decide) rfl rfl ?_
            refine q_iload dX1_tryFrom_126 rfl rfl ?_
            refine q_bipush dX1_tryFrom_128 (by decide) rfl ?_
            obtain ⟨q1491, h1492, h⟩ := Option.bind_eq_some_iff.mp h
            refine q_callVi (as := [qi (S 48 (Int.toNat x5)), qi 8]) (c := 2) dX1_tryFrom_130 ml_X1_54 rfl rfl (hL 2 (by decide)) sh_2 rfl rfl (Nat.le_of_ble_eq_true rfl) (Told_contractOf_ok hL (d + 4) (S 48 (Int.toNat x5)) 8 _ _ h1492) rfl ?_
            refine q_aload_n dX1_tryFrom_133 rfl rfl ?_
            refine q_getA dX1_tryFrom_134 fl_X1_25 (hL 11 (by decide)) sh_11 (by decide) rfl rfl ?_
            refine q_iload dX1_tryFrom_137 rfl rfl ?_
            refine q_bipush dX1_tryFrom_139 (by decide) rfl ?_
            obtain ⟨q1493, h1494, h⟩ := Option.bind_eq_some_iff.mp h
            refine q_callVi (as := [qi (S 48 (Int.toNat x5)), qi 7]) (c := 2) dX1_tryFrom_141 ml_X1_54 rfl rfl (hL 2 (by decide)) sh_2 rfl rfl (Nat.le_of_ble_eq_true rfl) (Told_contractOf_ok hL (d + 4) (S 48 (Int.toNat x5)) 7 _ _ h1494) rfl ?_
            obtain ⟨q1495, h1496, h⟩ := Option.bind_eq_some_iff.mp h
            refine q_callVi (as := [qi (S 48 (Int.toNat x5)), qi q1491.1, qi q1493.1]) (c := 9) dX1_tryFrom_144 ml_X1_58 rfl rfl (hL 9 (by decide)) sh_9 rfl rfl (Nat.le_of_ble_eq_true rfl) (Search_find_ok hL d (S 48 (Int.toNat x5)) q1491.1 q1493.1 _ _ h1496) rfl ?_
            obtain ⟨c1497, h⟩ := qk_some h
            refine q_if_eq (tgt := 218) dX1_tryFrom_147 (by decide) rfl (qRb_R c1497)  (fun g => ?_) (fun g => ?_)
            · rw [if_pos (show q1495.1 = 0 from g)] at h
              refine q_aload_n dX1_tryFrom_218 rfl rfl ?_
              refine q_iload_n dX1_tryFrom_219 rfl rfl ?_
              refine q_iconst dX1_tryFrom_220 rfl rfl ?_
              refine q_iadd dX1_tryFrom_221 rfl ?_
              refine q_iload_n dX1_tryFrom_222 rfl rfl ?_
              refine q_iconst dX1_tryFrom_223 rfl rfl ?_
              refine q_iload dX1_tryFrom_224 rfl rfl ?_
              refine q_ishl dX1_tryFrom_226 rfl ?_
              refine q_ior dX1_tryFrom_227 rfl ?_
              refine q_iload_n dX1_tryFrom_228 rfl rfl ?_
              refine q_iconst dX1_tryFrom_229 rfl rfl ?_
              refine q_iadd dX1_tryFrom_230 rfl ?_
              refine q_iload dX1_tryFrom_231 rfl rfl ?_
              obtain ⟨q1498, h1499, h⟩ := Option.bind_eq_some_iff.mp h
              refine q_callVv (as := [qi (3 + 1), qi (qb_ior x2 (qb_ishl 1 x5)), qi (x3 + 1), qi x4]) (c := 11) dX1_tryFrom_233 ml_X1_70 rfl rfl (hL 11 (by decide)) sh_11 rfl rfl (Nat.le_of_ble_eq_true rfl) (FirstFour_tryFrom_n4_ok hL (d + 4) (qb_ior x2 (qb_ishl 1 x5)) (x3 + 1) x4 _ _ h1499) rfl ?_
              cases h
              exact q_pick [1, 2, 3, 4, 5, 6] rfl hk4138
            · rw [if_neg (show ¬ (q1495.1 = 0) from g)] at h
              refine q_aload_n dX1_tryFrom_150 rfl rfl ?_
              refine q_getA dX1_tryFrom_151 fl_X1_29 (hL 11 (by decide)) sh_11 (by decide) rfl rfl ?_
              refine q_iload dX1_tryFrom_154 rfl rfl ?_
              refine q_aload_n dX1_tryFrom_156 rfl rfl ?_
              refine q_getA dX1_tryFrom_157 fl_X1_33 (hL 11 (by decide)) sh_11 (by decide) rfl rfl ?_
              refine q_getI dX1_tryFrom_160 fl_X1_80 (hL 9 (by decide)) sh_9 (by decide) rfl rfl ?_
              refine q_aload_n dX1_tryFrom_163 rfl rfl ?_
              refine q_getA dX1_tryFrom_164 fl_X1_33 (hL 11 (by decide)) sh_11 (by decide) rfl rfl ?_
              refine q_getI dX1_tryFrom_167 fl_X1_83 (hL 9 (by decide)) sh_9 (by decide) rfl rfl ?_
              refine q_aload_n dX1_tryFrom_170 rfl rfl ?_
              refine q_getA dX1_tryFrom_171 fl_X1_33 (hL 11 (by decide)) sh_11 (by decide) rfl rfl ?_
              refine q_getI dX1_tryFrom_174 fl_X1_86 (hL 9 (by decide)) sh_9 (by decide) rfl rfl ?_
              obtain ⟨q1500, h1501, h⟩ := Option.bind_eq_some_iff.mp h
              refine q_callVv (as := [qi (S 48 (Int.toNat x5)), qi (q1495.2 9 5), qi (q1495.2 9 6), qi (q1495.2 9 7)]) (c := 6) dX1_tryFrom_177 ml_X1_89 rfl rfl (hL 6 (by decide)) sh_6 rfl rfl (Nat.le_of_ble_eq_true rfl) (Stays_lay_ok hL (d + 1) (S 48 (Int.toNat x5)) (q1495.2 9 5) (q1495.2 9 6) (q1495.2 9 7) _ _ h1501) rfl ?_
              refine q_aload_n dX1_tryFrom_180 rfl rfl ?_
              refine q_iload_n dX1_tryFrom_181 rfl rfl ?_
              refine q_iconst dX1_tryFrom_182 rfl rfl ?_
              refine q_iadd dX1_tryFrom_183 rfl ?_
              refine q_iload_n dX1_tryFrom_184 rfl rfl ?_
              refine q_iconst dX1_tryFrom_185 rfl rfl ?_
              refine q_iload dX1_tryFrom_186 rfl rfl ?_
              refine q_ishl dX1_tryFrom_188 rfl ?_
              refine q_ior dX1_tryFrom_189 rfl ?_
              refine q_iload_n dX1_tryFrom_190 rfl rfl ?_
              refine q_iload dX1_tryFrom_191 rfl rfl ?_
              refine q_aload_n dX1_tryFrom_193 rfl rfl ?_
              refine q_getA dX1_tryFrom_194 fl_X1_29 (hL 11 (by decide)) sh_11 (by decide) rfl rfl ?_
              refine q_iload dX1_tryFrom_197 rfl rfl ?_
              obtain ⟨q1502, h1503, h⟩ := Option.bind_eq_some_iff.mp h
              refine q_callVi (as := [qi (S 48 (Int.toNat x5))]) (c := 6) dX1_tryFrom_199 ml_X1_92 rfl rfl (hL 6 (by decide)) sh_6 rfl rfl (Nat.le_of_ble_eq_true rfl) (Stays_costOf_ok hL (d + 2) (S 48 (Int.toNat x5)) _ _ h1503) rfl ?_
              refine q_iadd dX1_tryFrom_202 rfl ?_
              obtain ⟨q1504, h1505, h⟩ := Option.bind_eq_some_iff.mp h
              refine q_callVv (as := [qi (3 + 1), qi (qb_ior x2 (qb_ishl 1 x5)), qi x3, qi (x4 + q1502.1)]) (c := 11) dX1_tryFrom_203 ml_X1_70 rfl rfl (hL 11 (by decide)) sh_11 rfl rfl (Nat.le_of_ble_eq_true rfl) (FirstFour_tryFrom_n4_ok hL (d + 4) (qb_ior x2 (qb_ishl 1 x5)) x3 (x4 + q1502.1) _ _ h1505) rfl ?_
              refine q_aload_n dX1_tryFrom_206 rfl rfl ?_
              refine q_getA dX1_tryFrom_207 fl_X1_29 (hL 11 (by decide)) sh_11 (by decide) rfl rfl ?_
              refine q_iload dX1_tryFrom_210 rfl rfl ?_
              obtain ⟨q1506, h1507, h⟩ := Option.bind_eq_some_iff.mp h
              refine q_callVv (as := [qi (S 48 (Int.toNat x5))]) (c := 6) dX1_tryFrom_212 ml_X1_96 rfl rfl (hL 6 (by decide)) sh_6 rfl rfl (Nat.le_of_ble_eq_true rfl) (Stays_lift_ok hL (d + 2) (S 48 (Int.toNat x5)) _ _ h1507) rfl ?_
              refine q_goto (pc' := 236) dX1_tryFrom_215 (by decide) ?_
              cases h
              exact q_pick [1, 2, 3, 4, 5, 6] rfl hk4138
        · rw [if_neg (show ¬ ((qb_iand (qb_ishr x2 x5) 1) = 0) from g)] at h
          refine q_goto (pc' := 236) dX1_tryFrom_86 (by decide) ?_
          cases h
          exact q_pick [0, 1, 2, 3, 4, 5] rfl hk4138
set_option maxRecDepth 20000 in
theorem FirstFour_tryFrom_n3_ok {X : qX} (hL : ∀ c, c < 93 → c ∈ qLs X) (d : Nat) (a2 : Int) (a3 : Int) (a4 : Int) (S : qSto) (o : qSto) (h : FirstFour_tryFrom_n3 a2 a3 a4 S = some o) (Q : Option qV → qSto → Prop) (hQ : Q none o) : qC X (d + 5) yX1_tryFrom cX1_tryFrom 7 none [qr 11, qi 3, qi a2, qi a3, qi a4] S Q := by
  refine q_entry (lv := [(0, qr 11), (1, qi 3), (2, qi a2), (3, qi a3), (4, qi a4)]) pn_X1 (Nat.le_of_ble_eq_true rfl) rfl ?_
  unfold FirstFour_tryFrom_n3 at h
  refine q_iload_n dX1_tryFrom_0 rfl rfl ?_
  refine q_aload_n dX1_tryFrom_1 rfl rfl ?_
  refine q_getI dX1_tryFrom_2 fl_X1_64 (hL 11 (by decide)) sh_11 (by decide) rfl rfl ?_
  obtain ⟨c1470, h⟩ := qk_some h
  obtain ⟨c1471, h⟩ := qk_some h
  refine q_icmp_gt (tgt := 25) dX1_tryFrom_5 (by decide) rfl (qRb_R c1470) (qRb_R c1471) (fun g => ?_) (fun g => ?_)
  · rw [if_pos (show (S 11 5) < a3 from g)] at h
    cases h
    exact q_return dX1_tryFrom_25 rfl hQ
  · rw [if_neg (show ¬ ((S 11 5) < a3) from g)] at h
    refine q_iload_n dX1_tryFrom_8 rfl rfl ?_
    refine q_aload_n dX1_tryFrom_9 rfl rfl ?_
    refine q_getI dX1_tryFrom_10 fl_X1_64 (hL 11 (by decide)) sh_11 (by decide) rfl rfl ?_
    obtain ⟨c1472, h⟩ := qk_some h
    obtain ⟨c1473, h⟩ := qk_some h
    refine q_icmp_ne (tgt := 26) dX1_tryFrom_13 (by decide) rfl (qRb_R c1472) (qRb_R c1473) (fun g => ?_) (fun g => ?_)
    · rw [if_neg (show ¬ (a3 = (S 11 5)) from g)] at h
      refine q_iload_n dX1_tryFrom_26 rfl rfl ?_
      refine q_aload_n dX1_tryFrom_27 rfl rfl ?_
      refine q_getI dX1_tryFrom_28 fl_X1_41 (hL 11 (by decide)) sh_11 (by decide) rfl rfl ?_
      obtain ⟨c1474, h⟩ := qk_some h
      refine q_icmp_ge (tgt := 39) dX1_tryFrom_31 (by decide) rfl ⟨by decide, by decide⟩ (qRb_R c1474) (fun g => ?_) (fun g => ?_)
      · rw [if_pos (show (S 11 4) ≤ 3 from g)] at h
        refine q_aload_n dX1_tryFrom_39 rfl rfl ?_
        refine q_iload_n dX1_tryFrom_40 rfl rfl ?_
        refine q_putI dX1_tryFrom_41 fl_X1_64 (hL 11 (by decide)) sh_11 (by decide) pf_1_5 pt_1_5 rfl rfl ?_
        refine q_aload_n dX1_tryFrom_44 rfl rfl ?_
        refine q_iload dX1_tryFrom_45 rfl rfl ?_
        refine q_putI dX1_tryFrom_47 fl_X1_67 (hL 11 (by decide)) sh_11 (by decide) pf_1_6 pt_1_6 rfl rfl ?_
        refine q_aload_n dX1_tryFrom_50 rfl rfl ?_
        refine q_getA dX1_tryFrom_51 fl_X1_18 (hL 11 (by decide)) sh_11 (by decide) rfl rfl ?_
        refine q_iconst dX1_tryFrom_54 rfl rfl ?_
        refine q_aload_n dX1_tryFrom_55 rfl rfl ?_
        refine q_getA dX1_tryFrom_56 fl_X1_9 (hL 11 (by decide)) sh_11 (by decide) rfl rfl ?_
        refine q_iconst dX1_tryFrom_59 rfl rfl ?_
        refine q_iconst dX1_tryFrom_60 rfl rfl ?_
        refine q_copy dX1_tryFrom_61 cw_X1_74 (hL 49 (by decide)) (hL 47 (by decide)) sh_49 sh_47 (by decide) (by decide) (by decide) (by decide) (by decide) (Nat.le_of_ble_eq_true rfl) rfl ?_
        cases h
        exact q_return dX1_tryFrom_64 rfl hQ
      · rw [if_neg (show ¬ ((S 11 4) ≤ 3) from g)] at h
        refine q_iload_n dX1_tryFrom_34 rfl rfl ?_
        refine q_iconst dX1_tryFrom_35 rfl rfl ?_
        refine q_icmp_lt (tgt := 65) dX1_tryFrom_36 (by decide) rfl ⟨by decide, by decide⟩ ⟨by decide, by decide⟩ (fun g => ?_) (fun g => absurd g (by decide))
        refine q_iconst dX1_tryFrom_65 rfl rfl ?_
        refine q_istore (lv' := [(5, qi 0), (0, qr 11), (1, qi 3), (2, qi a2), (3, qi a3), (4, qi a4)]) dX1_tryFrom_66 (by decide) rfl rfl ?_
        obtain ⟨q1509, h1510, h⟩ := Option.bind_eq_some_iff.mp h
        refine q_pick [1, 2, 3, 4, 5, 0] rfl (FirstFour_tryFrom_n3_L68_ok hL d qF a2 a3 a4 0 _ _ h1510 ?_)
        cases h
        exact q_return dX1_tryFrom_242 rfl hQ
    · rw [if_pos (show a3 = (S 11 5) from g)] at h
      refine q_iload dX1_tryFrom_16 rfl rfl ?_
      refine q_aload_n dX1_tryFrom_18 rfl rfl ?_
      refine q_getI dX1_tryFrom_19 fl_X1_67 (hL 11 (by decide)) sh_11 (by decide) rfl rfl ?_
      obtain ⟨c1511, h⟩ := qk_some h
      obtain ⟨c1512, h⟩ := qk_some h
      refine q_icmp_lt (tgt := 26) dX1_tryFrom_22 (by decide) rfl (qRb_R c1511) (qRb_R c1512) (fun g => ?_) (fun g => ?_)
      · rw [if_pos (show a4 < (S 11 6) from g)] at h
        refine q_iload_n dX1_tryFrom_26 rfl rfl ?_
        refine q_aload_n dX1_tryFrom_27 rfl rfl ?_
        refine q_getI dX1_tryFrom_28 fl_X1_41 (hL 11 (by decide)) sh_11 (by decide) rfl rfl ?_
        obtain ⟨c1513, h⟩ := qk_some h
        refine q_icmp_ge (tgt := 39) dX1_tryFrom_31 (by decide) rfl ⟨by decide, by decide⟩ (qRb_R c1513) (fun g => ?_) (fun g => ?_)
        · rw [if_pos (show (S 11 4) ≤ 3 from g)] at h
          refine q_aload_n dX1_tryFrom_39 rfl rfl ?_
          refine q_iload_n dX1_tryFrom_40 rfl rfl ?_
          refine q_putI dX1_tryFrom_41 fl_X1_64 (hL 11 (by decide)) sh_11 (by decide) pf_1_5 pt_1_5 rfl rfl ?_
          refine q_aload_n dX1_tryFrom_44 rfl rfl ?_
          refine q_iload dX1_tryFrom_45 rfl rfl ?_
          refine q_putI dX1_tryFrom_47 fl_X1_67 (hL 11 (by decide)) sh_11 (by decide) pf_1_6 pt_1_6 rfl rfl ?_
          refine q_aload_n dX1_tryFrom_50 rfl rfl ?_
          refine q_getA dX1_tryFrom_51 fl_X1_18 (hL 11 (by decide)) sh_11 (by decide) rfl rfl ?_
          refine q_iconst dX1_tryFrom_54 rfl rfl ?_
          refine q_aload_n dX1_tryFrom_55 rfl rfl ?_
          refine q_getA dX1_tryFrom_56 fl_X1_9 (hL 11 (by decide)) sh_11 (by decide) rfl rfl ?_
          refine q_iconst dX1_tryFrom_59 rfl rfl ?_
          refine q_iconst dX1_tryFrom_60 rfl rfl ?_
          refine q_copy dX1_tryFrom_61 cw_X1_74 (hL 49 (by decide)) (hL 47 (by decide)) sh_49 sh_47 (by decide) (by decide) (by decide) (by decide) (by decide) (Nat.le_of_ble_eq_true rfl) rfl ?_
          cases h
          exact q_return dX1_tryFrom_64 rfl hQ
        · rw [if_neg (show ¬ ((S 11 4) ≤ 3) from g)] at h
          refine q_iload_n dX1_tryFrom_34 rfl rfl ?_
          refine q_iconst dX1_tryFrom_35 rfl rfl ?_
          refine q_icmp_lt (tgt := 65) dX1_tryFrom_36 (by decide) rfl ⟨by decide, by decide⟩ ⟨by decide, by decide⟩ (fun g => ?_) (fun g => absurd g (by decide))
          refine q_iconst dX1_tryFrom_65 rfl rfl ?_
          refine q_istore (lv' := [(5, qi 0), (0, qr 11), (1, qi 3), (2, qi a2), (3, qi a3), (4, qi a4)]) dX1_tryFrom_66 (by decide) rfl rfl ?_
          obtain ⟨q1514, h1515, h⟩ := Option.bind_eq_some_iff.mp h
          refine q_pick [1, 2, 3, 4, 5, 0] rfl (FirstFour_tryFrom_n3_L68_ok hL d qF a2 a3 a4 0 _ _ h1515 ?_)
          cases h
          exact q_return dX1_tryFrom_242 rfl hQ
      · rw [if_neg (show ¬ (a4 < (S 11 6)) from g)] at h
        cases h
        exact q_return dX1_tryFrom_25 rfl hQ
set_option maxRecDepth 20000 in
theorem FirstFour_tryFrom_n2_L68_ok {X : qX} (hL : ∀ c, c < 93 → c ∈ qLs X) (d : Nat) {Q : Option qV → qSto → Prop} : ∀ (n : Nat) (x2 : Int) (x3 : Int) (x4 : Int) (x5 : Int) (S : qSto) (o : qSto), FirstFour_tryFrom_n2_L68 n x2 x3 x4 x5 S = some o → (qW X (d + 6) yX1_tryFrom cX1_tryFrom 7 none 242 [] [] o Q) → qW X (d + 6) yX1_tryFrom cX1_tryFrom 7 none 68 [(0, qr 11), (1, qi 2), (2, qi x2), (3, qi x3), (4, qi x4), (5, qi x5)] [] S Q := by
  intro n
  induction n with
  | zero =>
    intro x2 x3 x4 x5 S o h
    simp [FirstFour_tryFrom_n2_L68] at h
  | succ n ih =>
    intro x2 x3 x4 x5 S o h hE
    rw [FirstFour_tryFrom_n2_L68] at h
    refine q_iload dX1_tryFrom_68 rfl rfl ?_
    refine q_aload_n dX1_tryFrom_70 rfl rfl ?_
    refine q_getI dX1_tryFrom_71 fl_X1_41 (hL 11 (by decide)) sh_11 (by decide) rfl rfl ?_
    obtain ⟨c1464, h⟩ := qk_some h
    obtain ⟨c1465, h⟩ := qk_some h
    refine q_icmp_ge (tgt := 242) dX1_tryFrom_74 (by decide) rfl (qRb_R c1464) (qRb_R c1465) (fun g => ?_) (fun g => ?_)
    · rw [if_pos (show (S 11 4) ≤ x5 from g)] at h
      cases h
      exact q_pick [] rfl (hE)
    · rw [if_neg (show ¬ ((S 11 4) ≤ x5) from g)] at h
      refine q_iload_n dX1_tryFrom_77 rfl rfl ?_
      refine q_iload dX1_tryFrom_78 rfl rfl ?_
      refine q_ishr dX1_tryFrom_80 rfl ?_
      refine q_iconst dX1_tryFrom_81 rfl rfl ?_
      refine q_iand dX1_tryFrom_82 rfl ?_
      refine q_jn (G := fun (t1535 : qSto) => qW X (d + 6) yX1_tryFrom cX1_tryFrom 7 none 236 [(0, qr 11), (1, qi 2), (2, qi x2), (3, qi x3), (4, qi x4), (5, qi x5)] [] t1535 Q) h (fun t1535 h => ?_) (fun t1535 h hk4139 => ?_)
      · try dsimp only at h
        refine q_iinc (lv' := [(5, qi (x5 + 1)), (0, qr 11), (1, qi 2), (2, qi x2), (3, qi x3), (4, qi x4)]) dX1_tryFrom_236 (by decide) rfl rfl rfl ?_
        refine q_goto (pc' := 68) dX1_tryFrom_239 (by decide) ?_
        exact q_pick [1, 2, 3, 4, 5, 0] rfl (ih x2 x3 x4 (x5 + 1) _ _ h hE)
      · skip
        obtain ⟨c1466, h⟩ := qk_some h
        refine q_if_eq (tgt := 89) dX1_tryFrom_83 (by decide) rfl (qRb_R c1466)  (fun g => ?_) (fun g => ?_)
        · rw [if_pos (show (qb_iand (qb_ishr x2 x5) 1) = 0 from g)] at h
          refine q_aload_n dX1_tryFrom_89 rfl rfl ?_
          refine q_getA dX1_tryFrom_90 fl_X1_15 (hL 11 (by decide)) sh_11 (by decide) rfl rfl ?_
          refine q_iload dX1_tryFrom_93 rfl rfl ?_
          obtain ⟨c1467, h⟩ := qk_some h
          refine q_iaload dX1_tryFrom_95 (hL 48 (by decide)) sh_48 (qIx_0 c1467) (qIx_1 c1467) rfl ?_
          refine q_istore (lv' := [(6, qi (S 48 (Int.toNat x5))), (0, qr 11), (1, qi 2), (2, qi x2), (3, qi x3), (4, qi x4), (5, qi x5)]) dX1_tryFrom_96 (by decide) rfl rfl ?_
          refine q_aload_n dX1_tryFrom_98 rfl rfl ?_
          refine q_getA dX1_tryFrom_99 fl_X1_18 (hL 11 (by decide)) sh_11 (by decide) rfl rfl ?_
          refine q_iload_n dX1_tryFrom_102 rfl rfl ?_
          refine q_iload dX1_tryFrom_103 rfl rfl ?_
          refine q_iastore dX1_tryFrom_105 (hL 49 (by decide)) sh_49 (by decide) (by decide) rfl ?_
          refine q_aload_n dX1_tryFrom_106 rfl rfl ?_
          refine q_getA dX1_tryFrom_107 fl_X1_21 (hL 11 (by decide)) sh_11 (by decide) rfl rfl ?_
          refine q_iload dX1_tryFrom_110 rfl rfl ?_
          obtain ⟨c1468, h⟩ := qk_some h
          refine q_zaload dX1_tryFrom_112 (hL 50 (by decide)) sh_50 (qIx_0 c1468) (qIx_1 c1468) rfl ?_
          obtain ⟨c1469, h⟩ := qk_some h
          refine q_if_eq (tgt := 218) dX1_tryFrom_113 (by decide) rfl (qRb_R c1469)  (fun g => ?_) (fun g => ?_)
          · rw [if_pos (show ((qup S 49 2 (S 48 (Int.toNat x5))) 50 (Int.toNat x5)) = 0 from g)] at h
            refine q_aload_n dX1_tryFrom_218 rfl rfl ?_
            refine q_iload_n dX1_tryFrom_219 rfl rfl ?_
            refine q_iconst dX1_tryFrom_220 rfl rfl ?_
            refine q_iadd dX1_tryFrom_221 rfl ?_
            refine q_iload_n dX1_tryFrom_222 rfl rfl ?_
            refine q_iconst dX1_tryFrom_223 rfl rfl ?_
            refine q_iload dX1_tryFrom_224 rfl rfl ?_
            refine q_ishl dX1_tryFrom_226 rfl ?_
            refine q_ior dX1_tryFrom_227 rfl ?_
            refine q_iload_n dX1_tryFrom_228 rfl rfl ?_
            refine q_iconst dX1_tryFrom_229 rfl rfl ?_
            refine q_iadd dX1_tryFrom_230 rfl ?_
            refine q_iload dX1_tryFrom_231 rfl rfl ?_
            obtain ⟨q1516, h1517, h⟩ := Option.bind_eq_some_iff.mp h
            refine q_callVv (as := [qi (2 + 1), qi (qb_ior x2 (qb_ishl 1 x5)), qi (x3 + 1), qi x4]) (c := 11) dX1_tryFrom_233 ml_X1_70 rfl rfl (hL 11 (by decide)) sh_11 rfl rfl (Nat.le_of_ble_eq_true rfl) (FirstFour_tryFrom_n3_ok hL d (qb_ior x2 (qb_ishl 1 x5)) (x3 + 1) x4 _ _ h1517) rfl ?_
            cases h
            exact q_pick [1, 2, 3, 4, 5, 6] rfl hk4139
          · rw [if_neg (show ¬ (((qup S 49 2 (S 48 (Int.toNat x5))) 50 (Int.toNat x5)) = 0) from g)] at h
            refine q_aload_n dX1_tryFrom_116 rfl rfl ?_
            refine q_getA dX1_tryFrom_117 fl_X1_33 (hL 11 (by decide)) sh_11 (by decide) rfl rfl ?_
            refine q_iload dX1_tryFrom_120 rfl rfl ?_
            refine q_aload_n dX1_tryFrom_122 rfl rfl ?_
            refine q_getA dX1_tryFrom_123 fl_X1_25 (hL 11 (by decide)) sh_11 (by decide) rfl rfl ?_
            refine q_iload dX1_tryFrom_126 rfl rfl ?_
            refine q_bipush dX1_tryFrom_128 (by decide) rfl ?_
            obtain ⟨q1518, h1519, h⟩ := Option.bind_eq_some_iff.mp h
            refine q_callVi (as := [qi (S 48 (Int.toNat x5)), qi 8]) (c := 2) dX1_tryFrom_130 ml_X1_54 rfl rfl (hL 2 (by decide)) sh_2 rfl rfl (Nat.le_of_ble_eq_true rfl) (Told_contractOf_ok hL (d + 5) (S 48 (Int.toNat x5)) 8 _ _ h1519) rfl ?_
            refine q_aload_n dX1_tryFrom_133 rfl rfl ?_
            refine q_getA dX1_tryFrom_134 fl_X1_25 (hL 11 (by decide)) sh_11 (by decide) rfl rfl ?_
            refine q_iload dX1_tryFrom_137 rfl rfl ?_
            refine q_bipush dX1_tryFrom_139 (by decide) rfl ?_
            obtain ⟨q1520, h1521, h⟩ := Option.bind_eq_some_iff.mp h
            refine q_callVi (as := [qi (S 48 (Int.toNat x5)), qi 7]) (c := 2) dX1_tryFrom_141 ml_X1_54 rfl rfl (hL 2 (by decide)) sh_2 rfl rfl (Nat.le_of_ble_eq_true rfl) (Told_contractOf_ok hL (d + 5) (S 48 (Int.toNat x5)) 7 _ _ h1521) rfl ?_
            obtain ⟨q1522, h1523, h⟩ := Option.bind_eq_some_iff.mp h
            refine q_callVi (as := [qi (S 48 (Int.toNat x5)), qi q1518.1, qi q1520.1]) (c := 9) dX1_tryFrom_144 ml_X1_58 rfl rfl (hL 9 (by decide)) sh_9 rfl rfl (Nat.le_of_ble_eq_true rfl) (Search_find_ok hL (d + 1) (S 48 (Int.toNat x5)) q1518.1 q1520.1 _ _ h1523) rfl ?_
            obtain ⟨c1524, h⟩ := qk_some h
            refine q_if_eq (tgt := 218) dX1_tryFrom_147 (by decide) rfl (qRb_R c1524)  (fun g => ?_) (fun g => ?_)
            · rw [if_pos (show q1522.1 = 0 from g)] at h
              refine q_aload_n dX1_tryFrom_218 rfl rfl ?_
              refine q_iload_n dX1_tryFrom_219 rfl rfl ?_
              refine q_iconst dX1_tryFrom_220 rfl rfl ?_
              refine q_iadd dX1_tryFrom_221 rfl ?_
              refine q_iload_n dX1_tryFrom_222 rfl rfl ?_
              refine q_iconst dX1_tryFrom_223 rfl rfl ?_
              refine q_iload dX1_tryFrom_224 rfl rfl ?_
              refine q_ishl dX1_tryFrom_226 rfl ?_
              refine q_ior dX1_tryFrom_227 rfl ?_
              refine q_iload_n dX1_tryFrom_228 rfl rfl ?_
              refine q_iconst dX1_tryFrom_229 rfl rfl ?_
              refine q_iadd dX1_tryFrom_230 rfl ?_
              refine q_iload dX1_tryFrom_231 rfl rfl ?_
              obtain ⟨q1525, h1526, h⟩ := Option.bind_eq_some_iff.mp h
              refine q_callVv (as := [qi (2 + 1), qi (qb_ior x2 (qb_ishl 1 x5)), qi (x3 + 1), qi x4]) (c := 11) dX1_tryFrom_233 ml_X1_70 rfl rfl (hL 11 (by decide)) sh_11 rfl rfl (Nat.le_of_ble_eq_true rfl) (FirstFour_tryFrom_n3_ok hL d (qb_ior x2 (qb_ishl 1 x5)) (x3 + 1) x4 _ _ h1526) rfl ?_
              cases h
              exact q_pick [1, 2, 3, 4, 5, 6] rfl hk4139
            · rw [if_neg (show ¬ (q1522.1 = 0) from g)] at h
              refine q_aload_n dX1_tryFrom_150 rfl rfl ?_
              refine q_getA dX1_tryFrom_151 fl_X1_29 (hL 11 (by decide)) sh_11 (by decide) rfl rfl ?_
              refine q_iload dX1_tryFrom_154 rfl rfl ?_
              refine q_aload_n dX1_tryFrom_156 rfl rfl ?_
              refine q_getA dX1_tryFrom_157 fl_X1_33 (hL 11 (by decide)) sh_11 (by decide) rfl rfl ?_
              refine q_getI dX1_tryFrom_160 fl_X1_80 (hL 9 (by decide)) sh_9 (by decide) rfl rfl ?_
              refine q_aload_n dX1_tryFrom_163 rfl rfl ?_
              refine q_getA dX1_tryFrom_164 fl_X1_33 (hL 11 (by decide)) sh_11 (by decide) rfl rfl ?_
              refine q_getI dX1_tryFrom_167 fl_X1_83 (hL 9 (by decide)) sh_9 (by decide) rfl rfl ?_
              refine q_aload_n dX1_tryFrom_170 rfl rfl ?_
              refine q_getA dX1_tryFrom_171 fl_X1_33 (hL 11 (by decide)) sh_11 (by decide) rfl rfl ?_
              refine q_getI dX1_tryFrom_174 fl_X1_86 (hL 9 (by decide)) sh_9 (by decide) rfl rfl ?_
              obtain ⟨q1527, h1528, h⟩ := Option.bind_eq_some_iff.mp h
              refine q_callVv (as := [qi (S 48 (Int.toNat x5)), qi (q1522.2 9 5), qi (q1522.2 9 6), qi (q1522.2 9 7)]) (c := 6) dX1_tryFrom_177 ml_X1_89 rfl rfl (hL 6 (by decide)) sh_6 rfl rfl (Nat.le_of_ble_eq_true rfl) (Stays_lay_ok hL (d + 2) (S 48 (Int.toNat x5)) (q1522.2 9 5) (q1522.2 9 6) (q1522.2 9 7) _ _ h1528) rfl ?_
              refine q_aload_n dX1_tryFrom_180 rfl rfl ?_
              refine q_iload_n dX1_tryFrom_181 rfl rfl ?_
              refine q_iconst dX1_tryFrom_182 rfl rfl ?_
              refine q_iadd dX1_tryFrom_183 rfl ?_
              refine q_iload_n dX1_tryFrom_184 rfl rfl ?_
              refine q_iconst dX1_tryFrom_185 rfl rfl ?_
              refine q_iload dX1_tryFrom_186 rfl rfl ?_
              refine q_ishl dX1_tryFrom_188 rfl ?_
              refine q_ior dX1_tryFrom_189 rfl ?_
              refine q_iload_n dX1_tryFrom_190 rfl rfl ?_
              refine q_iload dX1_tryFrom_191 rfl rfl ?_
              refine q_aload_n dX1_tryFrom_193 rfl rfl ?_
              refine q_getA dX1_tryFrom_194 fl_X1_29 (hL 11 (by decide)) sh_11 (by decide) rfl rfl ?_
              refine q_iload dX1_tryFrom_197 rfl rfl ?_
              obtain ⟨q1529, h1530, h⟩ := Option.bind_eq_some_iff.mp h
              refine q_callVi (as := [qi (S 48 (Int.toNat x5))]) (c := 6) dX1_tryFrom_199 ml_X1_92 rfl rfl (hL 6 (by decide)) sh_6 rfl rfl (Nat.le_of_ble_eq_true rfl) (Stays_costOf_ok hL (d + 3) (S 48 (Int.toNat x5)) _ _ h1530) rfl ?_
              refine q_iadd dX1_tryFrom_202 rfl ?_
              obtain ⟨q1531, h1532, h⟩ := Option.bind_eq_some_iff.mp h
              refine q_callVv (as := [qi (2 + 1), qi (qb_ior x2 (qb_ishl 1 x5)), qi x3, qi (x4 + q1529.1)]) (c := 11) dX1_tryFrom_203 ml_X1_70 rfl rfl (hL 11 (by decide)) sh_11 rfl rfl (Nat.le_of_ble_eq_true rfl) (FirstFour_tryFrom_n3_ok hL d (qb_ior x2 (qb_ishl 1 x5)) x3 (x4 + q1529.1) _ _ h1532) rfl ?_
              refine q_aload_n dX1_tryFrom_206 rfl rfl ?_
              refine q_getA dX1_tryFrom_207 fl_X1_29 (hL 11 (by decide)) sh_11 (by decide) rfl rfl ?_
              refine q_iload dX1_tryFrom_210 rfl rfl ?_
              obtain ⟨q1533, h1534, h⟩ := Option.bind_eq_some_iff.mp h
              refine q_callVv (as := [qi (S 48 (Int.toNat x5))]) (c := 6) dX1_tryFrom_212 ml_X1_96 rfl rfl (hL 6 (by decide)) sh_6 rfl rfl (Nat.le_of_ble_eq_true rfl) (Stays_lift_ok hL (d + 3) (S 48 (Int.toNat x5)) _ _ h1534) rfl ?_
              refine q_goto (pc' := 236) dX1_tryFrom_215 (by decide) ?_
              cases h
              exact q_pick [1, 2, 3, 4, 5, 6] rfl hk4139
        · rw [if_neg (show ¬ ((qb_iand (qb_ishr x2 x5) 1) = 0) from g)] at h
          refine q_goto (pc' := 236) dX1_tryFrom_86 (by decide) ?_
          cases h
          exact q_pick [0, 1, 2, 3, 4, 5] rfl hk4139
set_option maxRecDepth 20000 in
theorem FirstFour_tryFrom_n2_ok {X : qX} (hL : ∀ c, c < 93 → c ∈ qLs X) (d : Nat) (a2 : Int) (a3 : Int) (a4 : Int) (S : qSto) (o : qSto) (h : FirstFour_tryFrom_n2 a2 a3 a4 S = some o) (Q : Option qV → qSto → Prop) (hQ : Q none o) : qC X (d + 6) yX1_tryFrom cX1_tryFrom 7 none [qr 11, qi 2, qi a2, qi a3, qi a4] S Q := by
  refine q_entry (lv := [(0, qr 11), (1, qi 2), (2, qi a2), (3, qi a3), (4, qi a4)]) pn_X1 (Nat.le_of_ble_eq_true rfl) rfl ?_
  unfold FirstFour_tryFrom_n2 at h
  refine q_iload_n dX1_tryFrom_0 rfl rfl ?_
  refine q_aload_n dX1_tryFrom_1 rfl rfl ?_
  refine q_getI dX1_tryFrom_2 fl_X1_64 (hL 11 (by decide)) sh_11 (by decide) rfl rfl ?_
  obtain ⟨c1459, h⟩ := qk_some h
  obtain ⟨c1460, h⟩ := qk_some h
  refine q_icmp_gt (tgt := 25) dX1_tryFrom_5 (by decide) rfl (qRb_R c1459) (qRb_R c1460) (fun g => ?_) (fun g => ?_)
  · rw [if_pos (show (S 11 5) < a3 from g)] at h
    cases h
    exact q_return dX1_tryFrom_25 rfl hQ
  · rw [if_neg (show ¬ ((S 11 5) < a3) from g)] at h
    refine q_iload_n dX1_tryFrom_8 rfl rfl ?_
    refine q_aload_n dX1_tryFrom_9 rfl rfl ?_
    refine q_getI dX1_tryFrom_10 fl_X1_64 (hL 11 (by decide)) sh_11 (by decide) rfl rfl ?_
    obtain ⟨c1461, h⟩ := qk_some h
    obtain ⟨c1462, h⟩ := qk_some h
    refine q_icmp_ne (tgt := 26) dX1_tryFrom_13 (by decide) rfl (qRb_R c1461) (qRb_R c1462) (fun g => ?_) (fun g => ?_)
    · rw [if_neg (show ¬ (a3 = (S 11 5)) from g)] at h
      refine q_iload_n dX1_tryFrom_26 rfl rfl ?_
      refine q_aload_n dX1_tryFrom_27 rfl rfl ?_
      refine q_getI dX1_tryFrom_28 fl_X1_41 (hL 11 (by decide)) sh_11 (by decide) rfl rfl ?_
      obtain ⟨c1463, h⟩ := qk_some h
      refine q_icmp_ge (tgt := 39) dX1_tryFrom_31 (by decide) rfl ⟨by decide, by decide⟩ (qRb_R c1463) (fun g => ?_) (fun g => ?_)
      · rw [if_pos (show (S 11 4) ≤ 2 from g)] at h
        refine q_aload_n dX1_tryFrom_39 rfl rfl ?_
        refine q_iload_n dX1_tryFrom_40 rfl rfl ?_
        refine q_putI dX1_tryFrom_41 fl_X1_64 (hL 11 (by decide)) sh_11 (by decide) pf_1_5 pt_1_5 rfl rfl ?_
        refine q_aload_n dX1_tryFrom_44 rfl rfl ?_
        refine q_iload dX1_tryFrom_45 rfl rfl ?_
        refine q_putI dX1_tryFrom_47 fl_X1_67 (hL 11 (by decide)) sh_11 (by decide) pf_1_6 pt_1_6 rfl rfl ?_
        refine q_aload_n dX1_tryFrom_50 rfl rfl ?_
        refine q_getA dX1_tryFrom_51 fl_X1_18 (hL 11 (by decide)) sh_11 (by decide) rfl rfl ?_
        refine q_iconst dX1_tryFrom_54 rfl rfl ?_
        refine q_aload_n dX1_tryFrom_55 rfl rfl ?_
        refine q_getA dX1_tryFrom_56 fl_X1_9 (hL 11 (by decide)) sh_11 (by decide) rfl rfl ?_
        refine q_iconst dX1_tryFrom_59 rfl rfl ?_
        refine q_iconst dX1_tryFrom_60 rfl rfl ?_
        refine q_copy dX1_tryFrom_61 cw_X1_74 (hL 49 (by decide)) (hL 47 (by decide)) sh_49 sh_47 (by decide) (by decide) (by decide) (by decide) (by decide) (Nat.le_of_ble_eq_true rfl) rfl ?_
        cases h
        exact q_return dX1_tryFrom_64 rfl hQ
      · rw [if_neg (show ¬ ((S 11 4) ≤ 2) from g)] at h
        refine q_iload_n dX1_tryFrom_34 rfl rfl ?_
        refine q_iconst dX1_tryFrom_35 rfl rfl ?_
        refine q_icmp_lt (tgt := 65) dX1_tryFrom_36 (by decide) rfl ⟨by decide, by decide⟩ ⟨by decide, by decide⟩ (fun g => ?_) (fun g => absurd g (by decide))
        refine q_iconst dX1_tryFrom_65 rfl rfl ?_
        refine q_istore (lv' := [(5, qi 0), (0, qr 11), (1, qi 2), (2, qi a2), (3, qi a3), (4, qi a4)]) dX1_tryFrom_66 (by decide) rfl rfl ?_
        obtain ⟨q1536, h1537, h⟩ := Option.bind_eq_some_iff.mp h
        refine q_pick [1, 2, 3, 4, 5, 0] rfl (FirstFour_tryFrom_n2_L68_ok hL d qF a2 a3 a4 0 _ _ h1537 ?_)
        cases h
        exact q_return dX1_tryFrom_242 rfl hQ
    · rw [if_pos (show a3 = (S 11 5) from g)] at h
      refine q_iload dX1_tryFrom_16 rfl rfl ?_
      refine q_aload_n dX1_tryFrom_18 rfl rfl ?_
      refine q_getI dX1_tryFrom_19 fl_X1_67 (hL 11 (by decide)) sh_11 (by decide) rfl rfl ?_
      obtain ⟨c1538, h⟩ := qk_some h
      obtain ⟨c1539, h⟩ := qk_some h
      refine q_icmp_lt (tgt := 26) dX1_tryFrom_22 (by decide) rfl (qRb_R c1538) (qRb_R c1539) (fun g => ?_) (fun g => ?_)
      · rw [if_pos (show a4 < (S 11 6) from g)] at h
        refine q_iload_n dX1_tryFrom_26 rfl rfl ?_
        refine q_aload_n dX1_tryFrom_27 rfl rfl ?_
        refine q_getI dX1_tryFrom_28 fl_X1_41 (hL 11 (by decide)) sh_11 (by decide) rfl rfl ?_
        obtain ⟨c1540, h⟩ := qk_some h
        refine q_icmp_ge (tgt := 39) dX1_tryFrom_31 (by decide) rfl ⟨by decide, by decide⟩ (qRb_R c1540) (fun g => ?_) (fun g => ?_)
        · rw [if_pos (show (S 11 4) ≤ 2 from g)] at h
          refine q_aload_n dX1_tryFrom_39 rfl rfl ?_
          refine q_iload_n dX1_tryFrom_40 rfl rfl ?_
          refine q_putI dX1_tryFrom_41 fl_X1_64 (hL 11 (by decide)) sh_11 (by decide) pf_1_5 pt_1_5 rfl rfl ?_
          refine q_aload_n dX1_tryFrom_44 rfl rfl ?_
          refine q_iload dX1_tryFrom_45 rfl rfl ?_
          refine q_putI dX1_tryFrom_47 fl_X1_67 (hL 11 (by decide)) sh_11 (by decide) pf_1_6 pt_1_6 rfl rfl ?_
          refine q_aload_n dX1_tryFrom_50 rfl rfl ?_
          refine q_getA dX1_tryFrom_51 fl_X1_18 (hL 11 (by decide)) sh_11 (by decide) rfl rfl ?_
          refine q_iconst dX1_tryFrom_54 rfl rfl ?_
          refine q_aload_n dX1_tryFrom_55 rfl rfl ?_
          refine q_getA dX1_tryFrom_56 fl_X1_9 (hL 11 (by decide)) sh_11 (by decide) rfl rfl ?_
          refine q_iconst dX1_tryFrom_59 rfl rfl ?_
          refine q_iconst dX1_tryFrom_60 rfl rfl ?_
          refine q_copy dX1_tryFrom_61 cw_X1_74 (hL 49 (by decide)) (hL 47 (by decide)) sh_49 sh_47 (by decide) (by decide) (by decide) (by decide) (by decide) (Nat.le_of_ble_eq_true rfl) rfl ?_
          cases h
          exact q_return dX1_tryFrom_64 rfl hQ
        · rw [if_neg (show ¬ ((S 11 4) ≤ 2) from g)] at h
          refine q_iload_n dX1_tryFrom_34 rfl rfl ?_
          refine q_iconst dX1_tryFrom_35 rfl rfl ?_
          refine q_icmp_lt (tgt := 65) dX1_tryFrom_36 (by decide) rfl ⟨by decide, by decide⟩ ⟨by decide, by decide⟩ (fun g => ?_) (fun g => absurd g (by decide))
          refine q_iconst dX1_tryFrom_65 rfl rfl ?_
          refine q_istore (lv' := [(5, qi 0), (0, qr 11), (1, qi 2), (2, qi a2), (3, qi a3), (4, qi a4)]) dX1_tryFrom_66 (by decide) rfl rfl ?_
          obtain ⟨q1541, h1542, h⟩ := Option.bind_eq_some_iff.mp h
          refine q_pick [1, 2, 3, 4, 5, 0] rfl (FirstFour_tryFrom_n2_L68_ok hL d qF a2 a3 a4 0 _ _ h1542 ?_)
          cases h
          exact q_return dX1_tryFrom_242 rfl hQ
      · rw [if_neg (show ¬ (a4 < (S 11 6)) from g)] at h
        cases h
        exact q_return dX1_tryFrom_25 rfl hQ
set_option maxRecDepth 20000 in
theorem FirstFour_tryFrom_n1_L68_ok {X : qX} (hL : ∀ c, c < 93 → c ∈ qLs X) (d : Nat) {Q : Option qV → qSto → Prop} : ∀ (n : Nat) (x2 : Int) (x3 : Int) (x4 : Int) (x5 : Int) (S : qSto) (o : qSto), FirstFour_tryFrom_n1_L68 n x2 x3 x4 x5 S = some o → (qW X (d + 7) yX1_tryFrom cX1_tryFrom 7 none 242 [] [] o Q) → qW X (d + 7) yX1_tryFrom cX1_tryFrom 7 none 68 [(0, qr 11), (1, qi 1), (2, qi x2), (3, qi x3), (4, qi x4), (5, qi x5)] [] S Q := by
  intro n
  induction n with
  | zero =>
    intro x2 x3 x4 x5 S o h
    simp [FirstFour_tryFrom_n1_L68] at h
  | succ n ih =>
    intro x2 x3 x4 x5 S o h hE
    rw [FirstFour_tryFrom_n1_L68] at h
    refine q_iload dX1_tryFrom_68 rfl rfl ?_
    refine q_aload_n dX1_tryFrom_70 rfl rfl ?_
    refine q_getI dX1_tryFrom_71 fl_X1_41 (hL 11 (by decide)) sh_11 (by decide) rfl rfl ?_
    obtain ⟨c1453, h⟩ := qk_some h
    obtain ⟨c1454, h⟩ := qk_some h
    refine q_icmp_ge (tgt := 242) dX1_tryFrom_74 (by decide) rfl (qRb_R c1453) (qRb_R c1454) (fun g => ?_) (fun g => ?_)
    · rw [if_pos (show (S 11 4) ≤ x5 from g)] at h
      cases h
      exact q_pick [] rfl (hE)
    · rw [if_neg (show ¬ ((S 11 4) ≤ x5) from g)] at h
      refine q_iload_n dX1_tryFrom_77 rfl rfl ?_
      refine q_iload dX1_tryFrom_78 rfl rfl ?_
      refine q_ishr dX1_tryFrom_80 rfl ?_
      refine q_iconst dX1_tryFrom_81 rfl rfl ?_
      refine q_iand dX1_tryFrom_82 rfl ?_
      refine q_jn (G := fun (t1562 : qSto) => qW X (d + 7) yX1_tryFrom cX1_tryFrom 7 none 236 [(0, qr 11), (1, qi 1), (2, qi x2), (3, qi x3), (4, qi x4), (5, qi x5)] [] t1562 Q) h (fun t1562 h => ?_) (fun t1562 h hk4140 => ?_)
      · try dsimp only at h
        refine q_iinc (lv' := [(5, qi (x5 + 1)), (0, qr 11), (1, qi 1), (2, qi x2), (3, qi x3), (4, qi x4)]) dX1_tryFrom_236 (by decide) rfl rfl rfl ?_
        refine q_goto (pc' := 68) dX1_tryFrom_239 (by decide) ?_
        exact q_pick [1, 2, 3, 4, 5, 0] rfl (ih x2 x3 x4 (x5 + 1) _ _ h hE)
      · skip
        obtain ⟨c1455, h⟩ := qk_some h
        refine q_if_eq (tgt := 89) dX1_tryFrom_83 (by decide) rfl (qRb_R c1455)  (fun g => ?_) (fun g => ?_)
        · rw [if_pos (show (qb_iand (qb_ishr x2 x5) 1) = 0 from g)] at h
          refine q_aload_n dX1_tryFrom_89 rfl rfl ?_
          refine q_getA dX1_tryFrom_90 fl_X1_15 (hL 11 (by decide)) sh_11 (by decide) rfl rfl ?_
          refine q_iload dX1_tryFrom_93 rfl rfl ?_
          obtain ⟨c1456, h⟩ := qk_some h
          refine q_iaload dX1_tryFrom_95 (hL 48 (by decide)) sh_48 (qIx_0 c1456) (qIx_1 c1456) rfl ?_
          refine q_istore (lv' := [(6, qi (S 48 (Int.toNat x5))), (0, qr 11), (1, qi 1), (2, qi x2), (3, qi x3), (4, qi x4), (5, qi x5)]) dX1_tryFrom_96 (by decide) rfl rfl ?_
          refine q_aload_n dX1_tryFrom_98 rfl rfl ?_
          refine q_getA dX1_tryFrom_99 fl_X1_18 (hL 11 (by decide)) sh_11 (by decide) rfl rfl ?_
          refine q_iload_n dX1_tryFrom_102 rfl rfl ?_
          refine q_iload dX1_tryFrom_103 rfl rfl ?_
          refine q_iastore dX1_tryFrom_105 (hL 49 (by decide)) sh_49 (by decide) (by decide) rfl ?_
          refine q_aload_n dX1_tryFrom_106 rfl rfl ?_
          refine q_getA dX1_tryFrom_107 fl_X1_21 (hL 11 (by decide)) sh_11 (by decide) rfl rfl ?_
          refine q_iload dX1_tryFrom_110 rfl rfl ?_
          obtain ⟨c1457, h⟩ := qk_some h
          refine q_zaload dX1_tryFrom_112 (hL 50 (by decide)) sh_50 (qIx_0 c1457) (qIx_1 c1457) rfl ?_
          obtain ⟨c1458, h⟩ := qk_some h
          refine q_if_eq (tgt := 218) dX1_tryFrom_113 (by decide) rfl (qRb_R c1458)  (fun g => ?_) (fun g => ?_)
          · rw [if_pos (show ((qup S 49 1 (S 48 (Int.toNat x5))) 50 (Int.toNat x5)) = 0 from g)] at h
            refine q_aload_n dX1_tryFrom_218 rfl rfl ?_
            refine q_iload_n dX1_tryFrom_219 rfl rfl ?_
            refine q_iconst dX1_tryFrom_220 rfl rfl ?_
            refine q_iadd dX1_tryFrom_221 rfl ?_
            refine q_iload_n dX1_tryFrom_222 rfl rfl ?_
            refine q_iconst dX1_tryFrom_223 rfl rfl ?_
            refine q_iload dX1_tryFrom_224 rfl rfl ?_
            refine q_ishl dX1_tryFrom_226 rfl ?_
            refine q_ior dX1_tryFrom_227 rfl ?_
            refine q_iload_n dX1_tryFrom_228 rfl rfl ?_
            refine q_iconst dX1_tryFrom_229 rfl rfl ?_
            refine q_iadd dX1_tryFrom_230 rfl ?_
            refine q_iload dX1_tryFrom_231 rfl rfl ?_
            obtain ⟨q1543, h1544, h⟩ := Option.bind_eq_some_iff.mp h
            refine q_callVv (as := [qi (1 + 1), qi (qb_ior x2 (qb_ishl 1 x5)), qi (x3 + 1), qi x4]) (c := 11) dX1_tryFrom_233 ml_X1_70 rfl rfl (hL 11 (by decide)) sh_11 rfl rfl (Nat.le_of_ble_eq_true rfl) (FirstFour_tryFrom_n2_ok hL d (qb_ior x2 (qb_ishl 1 x5)) (x3 + 1) x4 _ _ h1544) rfl ?_
            cases h
            exact q_pick [1, 2, 3, 4, 5, 6] rfl hk4140
          · rw [if_neg (show ¬ (((qup S 49 1 (S 48 (Int.toNat x5))) 50 (Int.toNat x5)) = 0) from g)] at h
            refine q_aload_n dX1_tryFrom_116 rfl rfl ?_
            refine q_getA dX1_tryFrom_117 fl_X1_33 (hL 11 (by decide)) sh_11 (by decide) rfl rfl ?_
            refine q_iload dX1_tryFrom_120 rfl rfl ?_
            refine q_aload_n dX1_tryFrom_122 rfl rfl ?_
            refine q_getA dX1_tryFrom_123 fl_X1_25 (hL 11 (by decide)) sh_11 (by decide) rfl rfl ?_
            refine q_iload dX1_tryFrom_126 rfl rfl ?_
            refine q_bipush dX1_tryFrom_128 (by decide) rfl ?_
            obtain ⟨q1545, h1546, h⟩ := Option.bind_eq_some_iff.mp h
            refine q_callVi (as := [qi (S 48 (Int.toNat x5)), qi 8]) (c := 2) dX1_tryFrom_130 ml_X1_54 rfl rfl (hL 2 (by decide)) sh_2 rfl rfl (Nat.le_of_ble_eq_true rfl) (Told_contractOf_ok hL (d + 6) (S 48 (Int.toNat x5)) 8 _ _ h1546) rfl ?_
            refine q_aload_n dX1_tryFrom_133 rfl rfl ?_
            refine q_getA dX1_tryFrom_134 fl_X1_25 (hL 11 (by decide)) sh_11 (by decide) rfl rfl ?_
            refine q_iload dX1_tryFrom_137 rfl rfl ?_
            refine q_bipush dX1_tryFrom_139 (by decide) rfl ?_
            obtain ⟨q1547, h1548, h⟩ := Option.bind_eq_some_iff.mp h
            refine q_callVi (as := [qi (S 48 (Int.toNat x5)), qi 7]) (c := 2) dX1_tryFrom_141 ml_X1_54 rfl rfl (hL 2 (by decide)) sh_2 rfl rfl (Nat.le_of_ble_eq_true rfl) (Told_contractOf_ok hL (d + 6) (S 48 (Int.toNat x5)) 7 _ _ h1548) rfl ?_
            obtain ⟨q1549, h1550, h⟩ := Option.bind_eq_some_iff.mp h
            refine q_callVi (as := [qi (S 48 (Int.toNat x5)), qi q1545.1, qi q1547.1]) (c := 9) dX1_tryFrom_144 ml_X1_58 rfl rfl (hL 9 (by decide)) sh_9 rfl rfl (Nat.le_of_ble_eq_true rfl) (Search_find_ok hL (d + 2) (S 48 (Int.toNat x5)) q1545.1 q1547.1 _ _ h1550) rfl ?_
            obtain ⟨c1551, h⟩ := qk_some h
            refine q_if_eq (tgt := 218) dX1_tryFrom_147 (by decide) rfl (qRb_R c1551)  (fun g => ?_) (fun g => ?_)
            · rw [if_pos (show q1549.1 = 0 from g)] at h
              refine q_aload_n dX1_tryFrom_218 rfl rfl ?_
              refine q_iload_n dX1_tryFrom_219 rfl rfl ?_
              refine q_iconst dX1_tryFrom_220 rfl rfl ?_
              refine q_iadd dX1_tryFrom_221 rfl ?_
              refine q_iload_n dX1_tryFrom_222 rfl rfl ?_
              refine q_iconst dX1_tryFrom_223 rfl rfl ?_
              refine q_iload dX1_tryFrom_224 rfl rfl ?_
              refine q_ishl dX1_tryFrom_226 rfl ?_
              refine q_ior dX1_tryFrom_227 rfl ?_
              refine q_iload_n dX1_tryFrom_228 rfl rfl ?_
              refine q_iconst dX1_tryFrom_229 rfl rfl ?_
              refine q_iadd dX1_tryFrom_230 rfl ?_
              refine q_iload dX1_tryFrom_231 rfl rfl ?_
              obtain ⟨q1552, h1553, h⟩ := Option.bind_eq_some_iff.mp h
              refine q_callVv (as := [qi (1 + 1), qi (qb_ior x2 (qb_ishl 1 x5)), qi (x3 + 1), qi x4]) (c := 11) dX1_tryFrom_233 ml_X1_70 rfl rfl (hL 11 (by decide)) sh_11 rfl rfl (Nat.le_of_ble_eq_true rfl) (FirstFour_tryFrom_n2_ok hL d (qb_ior x2 (qb_ishl 1 x5)) (x3 + 1) x4 _ _ h1553) rfl ?_
              cases h
              exact q_pick [1, 2, 3, 4, 5, 6] rfl hk4140
            · rw [if_neg (show ¬ (q1549.1 = 0) from g)] at h
              refine q_aload_n dX1_tryFrom_150 rfl rfl ?_
              refine q_getA dX1_tryFrom_151 fl_X1_29 (hL 11 (by decide)) sh_11 (by decide) rfl rfl ?_
              refine q_iload dX1_tryFrom_154 rfl rfl ?_
              refine q_aload_n dX1_tryFrom_156 rfl rfl ?_
              refine q_getA dX1_tryFrom_157 fl_X1_33 (hL 11 (by decide)) sh_11 (by decide) rfl rfl ?_
              refine q_getI dX1_tryFrom_160 fl_X1_80 (hL 9 (by decide)) sh_9 (by decide) rfl rfl ?_
              refine q_aload_n dX1_tryFrom_163 rfl rfl ?_
              refine q_getA dX1_tryFrom_164 fl_X1_33 (hL 11 (by decide)) sh_11 (by decide) rfl rfl ?_
              refine q_getI dX1_tryFrom_167 fl_X1_83 (hL 9 (by decide)) sh_9 (by decide) rfl rfl ?_
              refine q_aload_n dX1_tryFrom_170 rfl rfl ?_
              refine q_getA dX1_tryFrom_171 fl_X1_33 (hL 11 (by decide)) sh_11 (by decide) rfl rfl ?_
              refine q_getI dX1_tryFrom_174 fl_X1_86 (hL 9 (by decide)) sh_9 (by decide) rfl rfl ?_
              obtain ⟨q1554, h1555, h⟩ := Option.bind_eq_some_iff.mp h
              refine q_callVv (as := [qi (S 48 (Int.toNat x5)), qi (q1549.2 9 5), qi (q1549.2 9 6), qi (q1549.2 9 7)]) (c := 6) dX1_tryFrom_177 ml_X1_89 rfl rfl (hL 6 (by decide)) sh_6 rfl rfl (Nat.le_of_ble_eq_true rfl) (Stays_lay_ok hL (d + 3) (S 48 (Int.toNat x5)) (q1549.2 9 5) (q1549.2 9 6) (q1549.2 9 7) _ _ h1555) rfl ?_
              refine q_aload_n dX1_tryFrom_180 rfl rfl ?_
              refine q_iload_n dX1_tryFrom_181 rfl rfl ?_
              refine q_iconst dX1_tryFrom_182 rfl rfl ?_
              refine q_iadd dX1_tryFrom_183 rfl ?_
              refine q_iload_n dX1_tryFrom_184 rfl rfl ?_
              refine q_iconst dX1_tryFrom_185 rfl rfl ?_
              refine q_iload dX1_tryFrom_186 rfl rfl ?_
              refine q_ishl dX1_tryFrom_188 rfl ?_
              refine q_ior dX1_tryFrom_189 rfl ?_
              refine q_iload_n dX1_tryFrom_190 rfl rfl ?_
              refine q_iload dX1_tryFrom_191 rfl rfl ?_
              refine q_aload_n dX1_tryFrom_193 rfl rfl ?_
              refine q_getA dX1_tryFrom_194 fl_X1_29 (hL 11 (by decide)) sh_11 (by decide) rfl rfl ?_
              refine q_iload dX1_tryFrom_197 rfl rfl ?_
              obtain ⟨q1556, h1557, h⟩ := Option.bind_eq_some_iff.mp h
              refine q_callVi (as := [qi (S 48 (Int.toNat x5))]) (c := 6) dX1_tryFrom_199 ml_X1_92 rfl rfl (hL 6 (by decide)) sh_6 rfl rfl (Nat.le_of_ble_eq_true rfl) (Stays_costOf_ok hL (d + 4) (S 48 (Int.toNat x5)) _ _ h1557) rfl ?_
              refine q_iadd dX1_tryFrom_202 rfl ?_
              obtain ⟨q1558, h1559, h⟩ := Option.bind_eq_some_iff.mp h
              refine q_callVv (as := [qi (1 + 1), qi (qb_ior x2 (qb_ishl 1 x5)), qi x3, qi (x4 + q1556.1)]) (c := 11) dX1_tryFrom_203 ml_X1_70 rfl rfl (hL 11 (by decide)) sh_11 rfl rfl (Nat.le_of_ble_eq_true rfl) (FirstFour_tryFrom_n2_ok hL d (qb_ior x2 (qb_ishl 1 x5)) x3 (x4 + q1556.1) _ _ h1559) rfl ?_
              refine q_aload_n dX1_tryFrom_206 rfl rfl ?_
              refine q_getA dX1_tryFrom_207 fl_X1_29 (hL 11 (by decide)) sh_11 (by decide) rfl rfl ?_
              refine q_iload dX1_tryFrom_210 rfl rfl ?_
              obtain ⟨q1560, h1561, h⟩ := Option.bind_eq_some_iff.mp h
              refine q_callVv (as := [qi (S 48 (Int.toNat x5))]) (c := 6) dX1_tryFrom_212 ml_X1_96 rfl rfl (hL 6 (by decide)) sh_6 rfl rfl (Nat.le_of_ble_eq_true rfl) (Stays_lift_ok hL (d + 4) (S 48 (Int.toNat x5)) _ _ h1561) rfl ?_
              refine q_goto (pc' := 236) dX1_tryFrom_215 (by decide) ?_
              cases h
              exact q_pick [1, 2, 3, 4, 5, 6] rfl hk4140
        · rw [if_neg (show ¬ ((qb_iand (qb_ishr x2 x5) 1) = 0) from g)] at h
          refine q_goto (pc' := 236) dX1_tryFrom_86 (by decide) ?_
          cases h
          exact q_pick [0, 1, 2, 3, 4, 5] rfl hk4140
set_option maxRecDepth 20000 in
theorem FirstFour_tryFrom_n1_ok {X : qX} (hL : ∀ c, c < 93 → c ∈ qLs X) (d : Nat) (a2 : Int) (a3 : Int) (a4 : Int) (S : qSto) (o : qSto) (h : FirstFour_tryFrom_n1 a2 a3 a4 S = some o) (Q : Option qV → qSto → Prop) (hQ : Q none o) : qC X (d + 7) yX1_tryFrom cX1_tryFrom 7 none [qr 11, qi 1, qi a2, qi a3, qi a4] S Q := by
  refine q_entry (lv := [(0, qr 11), (1, qi 1), (2, qi a2), (3, qi a3), (4, qi a4)]) pn_X1 (Nat.le_of_ble_eq_true rfl) rfl ?_
  unfold FirstFour_tryFrom_n1 at h
  refine q_iload_n dX1_tryFrom_0 rfl rfl ?_
  refine q_aload_n dX1_tryFrom_1 rfl rfl ?_
  refine q_getI dX1_tryFrom_2 fl_X1_64 (hL 11 (by decide)) sh_11 (by decide) rfl rfl ?_
  obtain ⟨c1448, h⟩ := qk_some h
  obtain ⟨c1449, h⟩ := qk_some h
  refine q_icmp_gt (tgt := 25) dX1_tryFrom_5 (by decide) rfl (qRb_R c1448) (qRb_R c1449) (fun g => ?_) (fun g => ?_)
  · rw [if_pos (show (S 11 5) < a3 from g)] at h
    cases h
    exact q_return dX1_tryFrom_25 rfl hQ
  · rw [if_neg (show ¬ ((S 11 5) < a3) from g)] at h
    refine q_iload_n dX1_tryFrom_8 rfl rfl ?_
    refine q_aload_n dX1_tryFrom_9 rfl rfl ?_
    refine q_getI dX1_tryFrom_10 fl_X1_64 (hL 11 (by decide)) sh_11 (by decide) rfl rfl ?_
    obtain ⟨c1450, h⟩ := qk_some h
    obtain ⟨c1451, h⟩ := qk_some h
    refine q_icmp_ne (tgt := 26) dX1_tryFrom_13 (by decide) rfl (qRb_R c1450) (qRb_R c1451) (fun g => ?_) (fun g => ?_)
    · rw [if_neg (show ¬ (a3 = (S 11 5)) from g)] at h
      refine q_iload_n dX1_tryFrom_26 rfl rfl ?_
      refine q_aload_n dX1_tryFrom_27 rfl rfl ?_
      refine q_getI dX1_tryFrom_28 fl_X1_41 (hL 11 (by decide)) sh_11 (by decide) rfl rfl ?_
      obtain ⟨c1452, h⟩ := qk_some h
      refine q_icmp_ge (tgt := 39) dX1_tryFrom_31 (by decide) rfl ⟨by decide, by decide⟩ (qRb_R c1452) (fun g => ?_) (fun g => ?_)
      · rw [if_pos (show (S 11 4) ≤ 1 from g)] at h
        refine q_aload_n dX1_tryFrom_39 rfl rfl ?_
        refine q_iload_n dX1_tryFrom_40 rfl rfl ?_
        refine q_putI dX1_tryFrom_41 fl_X1_64 (hL 11 (by decide)) sh_11 (by decide) pf_1_5 pt_1_5 rfl rfl ?_
        refine q_aload_n dX1_tryFrom_44 rfl rfl ?_
        refine q_iload dX1_tryFrom_45 rfl rfl ?_
        refine q_putI dX1_tryFrom_47 fl_X1_67 (hL 11 (by decide)) sh_11 (by decide) pf_1_6 pt_1_6 rfl rfl ?_
        refine q_aload_n dX1_tryFrom_50 rfl rfl ?_
        refine q_getA dX1_tryFrom_51 fl_X1_18 (hL 11 (by decide)) sh_11 (by decide) rfl rfl ?_
        refine q_iconst dX1_tryFrom_54 rfl rfl ?_
        refine q_aload_n dX1_tryFrom_55 rfl rfl ?_
        refine q_getA dX1_tryFrom_56 fl_X1_9 (hL 11 (by decide)) sh_11 (by decide) rfl rfl ?_
        refine q_iconst dX1_tryFrom_59 rfl rfl ?_
        refine q_iconst dX1_tryFrom_60 rfl rfl ?_
        refine q_copy dX1_tryFrom_61 cw_X1_74 (hL 49 (by decide)) (hL 47 (by decide)) sh_49 sh_47 (by decide) (by decide) (by decide) (by decide) (by decide) (Nat.le_of_ble_eq_true rfl) rfl ?_
        cases h
        exact q_return dX1_tryFrom_64 rfl hQ
      · rw [if_neg (show ¬ ((S 11 4) ≤ 1) from g)] at h
        refine q_iload_n dX1_tryFrom_34 rfl rfl ?_
        refine q_iconst dX1_tryFrom_35 rfl rfl ?_
        refine q_icmp_lt (tgt := 65) dX1_tryFrom_36 (by decide) rfl ⟨by decide, by decide⟩ ⟨by decide, by decide⟩ (fun g => ?_) (fun g => absurd g (by decide))
        refine q_iconst dX1_tryFrom_65 rfl rfl ?_
        refine q_istore (lv' := [(5, qi 0), (0, qr 11), (1, qi 1), (2, qi a2), (3, qi a3), (4, qi a4)]) dX1_tryFrom_66 (by decide) rfl rfl ?_
        obtain ⟨q1563, h1564, h⟩ := Option.bind_eq_some_iff.mp h
        refine q_pick [1, 2, 3, 4, 5, 0] rfl (FirstFour_tryFrom_n1_L68_ok hL d qF a2 a3 a4 0 _ _ h1564 ?_)
        cases h
        exact q_return dX1_tryFrom_242 rfl hQ
    · rw [if_pos (show a3 = (S 11 5) from g)] at h
      refine q_iload dX1_tryFrom_16 rfl rfl ?_
      refine q_aload_n dX1_tryFrom_18 rfl rfl ?_
      refine q_getI dX1_tryFrom_19 fl_X1_67 (hL 11 (by decide)) sh_11 (by decide) rfl rfl ?_
      obtain ⟨c1565, h⟩ := qk_some h
      obtain ⟨c1566, h⟩ := qk_some h
      refine q_icmp_lt (tgt := 26) dX1_tryFrom_22 (by decide) rfl (qRb_R c1565) (qRb_R c1566) (fun g => ?_) (fun g => ?_)
      · rw [if_pos (show a4 < (S 11 6) from g)] at h
        refine q_iload_n dX1_tryFrom_26 rfl rfl ?_
        refine q_aload_n dX1_tryFrom_27 rfl rfl ?_
        refine q_getI dX1_tryFrom_28 fl_X1_41 (hL 11 (by decide)) sh_11 (by decide) rfl rfl ?_
        obtain ⟨c1567, h⟩ := qk_some h
        refine q_icmp_ge (tgt := 39) dX1_tryFrom_31 (by decide) rfl ⟨by decide, by decide⟩ (qRb_R c1567) (fun g => ?_) (fun g => ?_)
        · rw [if_pos (show (S 11 4) ≤ 1 from g)] at h
          refine q_aload_n dX1_tryFrom_39 rfl rfl ?_
          refine q_iload_n dX1_tryFrom_40 rfl rfl ?_
          refine q_putI dX1_tryFrom_41 fl_X1_64 (hL 11 (by decide)) sh_11 (by decide) pf_1_5 pt_1_5 rfl rfl ?_
          refine q_aload_n dX1_tryFrom_44 rfl rfl ?_
          refine q_iload dX1_tryFrom_45 rfl rfl ?_
          refine q_putI dX1_tryFrom_47 fl_X1_67 (hL 11 (by decide)) sh_11 (by decide) pf_1_6 pt_1_6 rfl rfl ?_
          refine q_aload_n dX1_tryFrom_50 rfl rfl ?_
          refine q_getA dX1_tryFrom_51 fl_X1_18 (hL 11 (by decide)) sh_11 (by decide) rfl rfl ?_
          refine q_iconst dX1_tryFrom_54 rfl rfl ?_
          refine q_aload_n dX1_tryFrom_55 rfl rfl ?_
          refine q_getA dX1_tryFrom_56 fl_X1_9 (hL 11 (by decide)) sh_11 (by decide) rfl rfl ?_
          refine q_iconst dX1_tryFrom_59 rfl rfl ?_
          refine q_iconst dX1_tryFrom_60 rfl rfl ?_
          refine q_copy dX1_tryFrom_61 cw_X1_74 (hL 49 (by decide)) (hL 47 (by decide)) sh_49 sh_47 (by decide) (by decide) (by decide) (by decide) (by decide) (Nat.le_of_ble_eq_true rfl) rfl ?_
          cases h
          exact q_return dX1_tryFrom_64 rfl hQ
        · rw [if_neg (show ¬ ((S 11 4) ≤ 1) from g)] at h
          refine q_iload_n dX1_tryFrom_34 rfl rfl ?_
          refine q_iconst dX1_tryFrom_35 rfl rfl ?_
          refine q_icmp_lt (tgt := 65) dX1_tryFrom_36 (by decide) rfl ⟨by decide, by decide⟩ ⟨by decide, by decide⟩ (fun g => ?_) (fun g => absurd g (by decide))
          refine q_iconst dX1_tryFrom_65 rfl rfl ?_
          refine q_istore (lv' := [(5, qi 0), (0, qr 11), (1, qi 1), (2, qi a2), (3, qi a3), (4, qi a4)]) dX1_tryFrom_66 (by decide) rfl rfl ?_
          obtain ⟨q1568, h1569, h⟩ := Option.bind_eq_some_iff.mp h
          refine q_pick [1, 2, 3, 4, 5, 0] rfl (FirstFour_tryFrom_n1_L68_ok hL d qF a2 a3 a4 0 _ _ h1569 ?_)
          cases h
          exact q_return dX1_tryFrom_242 rfl hQ
      · rw [if_neg (show ¬ (a4 < (S 11 6)) from g)] at h
        cases h
        exact q_return dX1_tryFrom_25 rfl hQ
