set_option maxRecDepth 20000 in
theorem C_leaver_L8_ok {X : qX} (hL : ∀ c, c < 93 → c ∈ qLs X) (d : Nat) {Q : Option qV → qSto → Prop} : ∀ (n : Nat) (x1 : Int) (x2 : Int) (S : qSto) (o : (qSto ⊕ (Int × qSto))), C_leaver_L8 n x1 x2 S = some o → (∀ t, o = Sum.inl t → qW X (d + 2) yX11_leaver cX11_leaver 3 (some .int) 47 [] [] t Q) → (∀ w, o = Sum.inr w → Q (some (qi w.1)) w.2) → qW X (d + 2) yX11_leaver cX11_leaver 3 (some .int) 8 [(0, qr 0), (1, qi x1), (2, qi x2)] [] S Q := by
  intro n
  induction n with
  | zero =>
    intro x1 x2 S o h
    simp [C_leaver_L8] at h
  | succ n ih =>
    intro x1 x2 S o h hE hR
    rw [C_leaver_L8] at h
    refine q_iload_n dX11_leaver_8 rfl rfl ?_
    refine q_aload_n dX11_leaver_9 rfl rfl ?_
    refine q_getA dX11_leaver_10 fl_X11_16 (hL 0 (by decide)) sh_0 (by decide) rfl rfl ?_
    refine q_getI dX11_leaver_13 fl_X11_158 (hL 2 (by decide)) sh_2 (by decide) rfl rfl ?_
    obtain ⟨c1574, h⟩ := qk_some h
    obtain ⟨c1575, h⟩ := qk_some h
    refine q_icmp_ge (tgt := 47) dX11_leaver_16 (by decide) rfl (qRb_R c1574) (qRb_R c1575) (fun g => ?_) (fun g => ?_)
    · rw [if_pos (show (S 2 12) ≤ x2 from g)] at h
      cases h
      exact q_pick [] rfl (hE _ rfl)
    · rw [if_neg (show ¬ ((S 2 12) ≤ x2) from g)] at h
      refine q_aload_n dX11_leaver_19 rfl rfl ?_
      refine q_getA dX11_leaver_20 fl_X11_49 (hL 0 (by decide)) sh_0 (by decide) rfl rfl ?_
      refine q_iload_n dX11_leaver_23 rfl rfl ?_
      obtain ⟨q1576, h1577, h⟩ := Option.bind_eq_some_iff.mp h
      refine q_callVi (as := [qi x2]) (c := 6) dX11_leaver_24 ml_X11_178 rfl rfl (hL 6 (by decide)) sh_6 rfl rfl (Nat.le_of_ble_eq_true rfl) (Stays_has_ok hL (d + 1) x2 _ _ h1577) rfl ?_
      obtain ⟨c1578, h⟩ := qk_some h
      refine q_if_eq (tgt := 41) dX11_leaver_27 (by decide) rfl (qRb_R c1578)  (fun g => ?_) (fun g => ?_)
      · rw [if_pos (show q1576.1 = 0 from g)] at h
        refine q_iinc (lv' := [(2, qi (x2 + 1)), (0, qr 0), (1, qi x1)]) dX11_leaver_41 (by decide) rfl rfl rfl ?_
        refine q_goto (pc' := 8) dX11_leaver_44 (by decide) ?_
        exact q_pick [1, 2, 0] rfl (ih x1 (x2 + 1) _ _ h hE hR)
      · rw [if_neg (show ¬ (q1576.1 = 0) from g)] at h
        refine q_aload_n dX11_leaver_30 rfl rfl ?_
        refine q_iload_n dX11_leaver_31 rfl rfl ?_
        obtain ⟨q1599, h1600, h⟩ := Option.bind_eq_some_iff.mp h
        refine q_callVi (as := [qi x2]) (c := 0) dX11_leaver_32 ml_X11_402 rfl rfl (hL 0 (by decide)) sh_0 rfl rfl (Nat.le_of_ble_eq_true rfl) (C_leaversAhead_ok hL d x2 _ _ h1600) rfl ?_
        refine q_iload_n dX11_leaver_35 rfl rfl ?_
        obtain ⟨c1601, h⟩ := qk_some h
        obtain ⟨c1602, h⟩ := qk_some h
        refine q_icmp_ne (tgt := 41) dX11_leaver_36 (by decide) rfl (qRb_R c1601) (qRb_R c1602) (fun g => ?_) (fun g => ?_)
        · rw [if_neg (show ¬ (q1599.1 = x1) from g)] at h
          refine q_iinc (lv' := [(2, qi (x2 + 1)), (0, qr 0), (1, qi x1)]) dX11_leaver_41 (by decide) rfl rfl rfl ?_
          refine q_goto (pc' := 8) dX11_leaver_44 (by decide) ?_
          exact q_pick [1, 2, 0] rfl (ih x1 (x2 + 1) _ _ h hE hR)
        · rw [if_pos (show q1599.1 = x1 from g)] at h
          refine q_iload_n dX11_leaver_39 rfl rfl ?_
          cases h
          exact q_ireturn dX11_leaver_40 rfl (hR _ rfl)
set_option maxRecDepth 20000 in
theorem C_leaver_ok {X : qX} (hL : ∀ c, c < 93 → c ∈ qLs X) (d : Nat) (a1 : Int) (S : qSto) (o : (Int × qSto)) (h : C_leaver a1 S = some o) (Q : Option qV → qSto → Prop) (hQ : Q (some (qi o.1)) o.2) : qC X (d + 2) yX11_leaver cX11_leaver 3 (some .int) [qr 0, qi a1] S Q := by
  refine q_entry (lv := [(0, qr 0), (1, qi a1)]) pn_X11 (Nat.le_of_ble_eq_true rfl) rfl ?_
  unfold C_leaver at h
  refine q_iload_n dX11_leaver_0 rfl rfl ?_
  obtain ⟨c1573, h⟩ := qk_some h
  refine q_if_ge (tgt := 6) dX11_leaver_1 (by decide) rfl (qRb_R c1573)  (fun g => ?_) (fun g => ?_)
  · rw [if_pos (show 0 ≤ a1 from g)] at h
    refine q_iconst dX11_leaver_6 rfl rfl ?_
    refine q_istore_n (lv' := [(2, qi 0), (0, qr 0), (1, qi a1)]) dX11_leaver_7 (by decide) rfl rfl ?_
    obtain ⟨q1603, h1604, h⟩ := Option.bind_eq_some_iff.mp h
    refine q_pick [1, 2, 0] rfl (C_leaver_L8_ok hL d qF a1 0 _ _ h1604 (fun t1605 e3830 => ?_) (fun w e3830 => ?_))
    · subst e3830
      simp only [Sum.elim_inl] at h
      refine q_bipush dX11_leaver_47 (by decide) rfl ?_
      cases h
      exact q_ireturn dX11_leaver_49 rfl hQ
    · subst e3830
      simp only [Sum.elim_inr] at h
      cases h
      exact hQ
  · rw [if_neg (show ¬ (0 ≤ a1) from g)] at h
    refine q_iconst dX11_leaver_4 rfl rfl ?_
    cases h
    exact q_ireturn dX11_leaver_5 rfl hQ
set_option maxRecDepth 20000 in
theorem C_meet_ok {X : qX} (hL : ∀ c, c < 93 → c ∈ qLs X) (d : Nat) (a1 : Int) (a2 : Int) (S : qSto) (o : (Int × qSto)) (h : C_meet a1 a2 S = some o) (Q : Option qV → qSto → Prop) (hQ : Q (some (qi o.1)) o.2) : qC X (d + 2) yX11_meet cX11_meet 3 (some .int) [qr 0, qi a1, qi a2] S Q := by
  refine q_entry (lv := [(0, qr 0), (1, qi a1), (2, qi a2)]) pn_X11 (Nat.le_of_ble_eq_true rfl) rfl ?_
  unfold C_meet at h
  refine q_aload_n dX11_meet_0 rfl rfl ?_
  refine q_iload_n dX11_meet_1 rfl rfl ?_
  obtain ⟨q1606, h1607, h⟩ := Option.bind_eq_some_iff.mp h
  refine q_callVi (as := [qi a1]) (c := 0) dX11_meet_2 ml_X11_216 rfl rfl (hL 0 (by decide)) sh_0 rfl rfl (Nat.le_of_ble_eq_true rfl) (C_isShip_ok hL (d + 1) a1 _ _ h1607) rfl ?_
  obtain ⟨c1608, h⟩ := qk_some h
  refine q_if_eq (tgt := 21) dX11_meet_5 (by decide) rfl (qRb_R c1608)  (fun g => ?_) (fun g => ?_)
  · rw [if_pos (show q1606.1 = 0 from g)] at h
    refine q_iconst dX11_meet_21 rfl rfl ?_
    cases h
    exact q_ireturn dX11_meet_22 rfl hQ
  · rw [if_neg (show ¬ (q1606.1 = 0) from g)] at h
    refine q_aload_n dX11_meet_8 rfl rfl ?_
    refine q_iload_n dX11_meet_9 rfl rfl ?_
    obtain ⟨q1609, h1610, h⟩ := Option.bind_eq_some_iff.mp h
    refine q_callVi (as := [qi a2]) (c := 0) dX11_meet_10 ml_X11_216 rfl rfl (hL 0 (by decide)) sh_0 rfl rfl (Nat.le_of_ble_eq_true rfl) (C_isShip_ok hL (d + 1) a2 _ _ h1610) rfl ?_
    obtain ⟨c1611, h⟩ := qk_some h
    refine q_if_eq (tgt := 21) dX11_meet_13 (by decide) rfl (qRb_R c1611)  (fun g => ?_) (fun g => ?_)
    · rw [if_pos (show q1609.1 = 0 from g)] at h
      refine q_iconst dX11_meet_21 rfl rfl ?_
      cases h
      exact q_ireturn dX11_meet_22 rfl hQ
    · rw [if_neg (show ¬ (q1609.1 = 0) from g)] at h
      refine q_iload_n dX11_meet_16 rfl rfl ?_
      refine q_iload_n dX11_meet_17 rfl rfl ?_
      obtain ⟨c1612, h⟩ := qk_some h
      obtain ⟨c1613, h⟩ := qk_some h
      refine q_icmp_ne (tgt := 23) dX11_meet_18 (by decide) rfl (qRb_R c1612) (qRb_R c1613) (fun g => ?_) (fun g => ?_)
      · rw [if_neg (show ¬ (a1 = a2) from g)] at h
        refine q_aload_n dX11_meet_23 rfl rfl ?_
        refine q_getA dX11_meet_24 fl_X11_49 (hL 0 (by decide)) sh_0 (by decide) rfl rfl ?_
        refine q_iload_n dX11_meet_27 rfl rfl ?_
        obtain ⟨q1614, h1615, h⟩ := Option.bind_eq_some_iff.mp h
        refine q_callVi (as := [qi a1]) (c := 6) dX11_meet_28 ml_X11_178 rfl rfl (hL 6 (by decide)) sh_6 rfl rfl (Nat.le_of_ble_eq_true rfl) (Stays_has_ok hL (d + 1) a1 _ _ h1615) rfl ?_
        obtain ⟨c1616, h⟩ := qk_some h
        refine q_if_eq (tgt := 63) dX11_meet_31 (by decide) rfl (qRb_R c1616)  (fun g => ?_) (fun g => ?_)
        · rw [if_pos (show q1614.1 = 0 from g)] at h
          refine q_iconst dX11_meet_63 rfl rfl ?_
          cases h
          exact q_ireturn dX11_meet_64 rfl hQ
        · rw [if_neg (show ¬ (q1614.1 = 0) from g)] at h
          refine q_aload_n dX11_meet_34 rfl rfl ?_
          refine q_getA dX11_meet_35 fl_X11_49 (hL 0 (by decide)) sh_0 (by decide) rfl rfl ?_
          refine q_iload_n dX11_meet_38 rfl rfl ?_
          refine q_aload_n dX11_meet_39 rfl rfl ?_
          refine q_getA dX11_meet_40 fl_X11_49 (hL 0 (by decide)) sh_0 (by decide) rfl rfl ?_
          refine q_getA dX11_meet_43 fl_X11_228 (hL 6 (by decide)) sh_6 (by decide) rfl rfl ?_
          refine q_iload_n dX11_meet_46 rfl rfl ?_
          obtain ⟨c1617, h⟩ := qk_some h
          refine q_iaload dX11_meet_47 (hL 39 (by decide)) sh_39 (qIx_0 c1617) (qIx_1 c1617) rfl ?_
          refine q_aload_n dX11_meet_48 rfl rfl ?_
          refine q_getA dX11_meet_49 fl_X11_49 (hL 0 (by decide)) sh_0 (by decide) rfl rfl ?_
          refine q_getA dX11_meet_52 fl_X11_236 (hL 6 (by decide)) sh_6 (by decide) rfl rfl ?_
          refine q_iload_n dX11_meet_55 rfl rfl ?_
          obtain ⟨c1618, h⟩ := qk_some h
          refine q_iaload dX11_meet_56 (hL 42 (by decide)) sh_42 (qIx_0 c1618) (qIx_1 c1618) rfl ?_
          obtain ⟨q1619, h1620, h⟩ := Option.bind_eq_some_iff.mp h
          refine q_callVi (as := [qi a2, qi (q1614.2 39 (Int.toNat a1)), qi (q1614.2 42 (Int.toNat a1))]) (c := 6) dX11_meet_57 ml_X11_394 rfl rfl (hL 6 (by decide)) sh_6 rfl rfl (Nat.le_of_ble_eq_true rfl) (Stays_slotsIn_ok hL d a2 (q1614.2 39 (Int.toNat a1)) (q1614.2 42 (Int.toNat a1)) _ _ h1620) rfl ?_
          refine q_goto (pc' := 64) dX11_meet_60 (by decide) ?_
          cases h
          exact q_ireturn dX11_meet_64 rfl hQ
      · rw [if_pos (show a1 = a2 from g)] at h
        refine q_iconst dX11_meet_21 rfl rfl ?_
        cases h
        exact q_ireturn dX11_meet_22 rfl hQ
set_option maxRecDepth 20000 in
theorem Written_add_ok {X : qX} (hL : ∀ c, c < 93 → c ∈ qLs X) (d : Nat) (a1 : Int) (S : qSto) (o : qSto) (h : Written_add a1 S = some o) (Q : Option qV → qSto → Prop) (hQ : Q none o) : qC X d yX10_add cX10_add 2 none [qr 13, qi a1] S Q := by
  refine q_entry (lv := [(0, qr 13), (1, qi a1)]) pn_X10 (Nat.le_of_ble_eq_true rfl) rfl ?_
  unfold Written_add at h
  refine q_aload_n dX10_add_0 rfl rfl ?_
  refine q_getI dX10_add_1 fl_X10_15 (hL 13 (by decide)) sh_13 (by decide) rfl rfl ?_
  refine q_sipush dX10_add_4 (by decide) rfl ?_
  obtain ⟨c1632, h⟩ := qk_some h
  refine q_icmp_ge (tgt := 31) dX10_add_7 (by decide) rfl (qRb_R c1632) ⟨by decide, by decide⟩ (fun g => ?_) (fun g => ?_)
  · rw [if_pos (show 266 ≤ (S 13 1) from g)] at h
    cases h
    exact q_return dX10_add_31 rfl hQ
  · rw [if_neg (show ¬ (266 ≤ (S 13 1)) from g)] at h
    refine q_aload_n dX10_add_10 rfl rfl ?_
    refine q_getA dX10_add_11 fl_X10_9 (hL 13 (by decide)) sh_13 (by decide) rfl rfl ?_
    refine q_aload_n dX10_add_14 rfl rfl ?_
    refine q_getI dX10_add_15 fl_X10_15 (hL 13 (by decide)) sh_13 (by decide) rfl rfl ?_
    refine q_iload_n dX10_add_18 rfl rfl ?_
    refine q_i2b dX10_add_19 rfl ?_
    obtain ⟨c1633, h⟩ := qk_some h
    obtain ⟨c1634, h⟩ := qk_some h
    refine q_bastore dX10_add_20 (hL 69 (by decide)) sh_69 (qIx_0 c1633) (qIx_1 c1633) (qBb_B c1634) rfl ?_
    refine q_aload_n dX10_add_21 rfl rfl ?_
    refine q_dupA dX10_add_22 rfl ?_
    refine q_getI dX10_add_23 fl_X10_15 (hL 13 (by decide)) sh_13 (by decide) rfl rfl ?_
    refine q_iconst dX10_add_26 rfl rfl ?_
    refine q_iadd dX10_add_27 rfl ?_
    refine q_putI dX10_add_28 fl_X10_15 (hL 13 (by decide)) sh_13 (by decide) pf_10_1 pt_10_1 rfl rfl ?_
    cases h
    exact q_return dX10_add_31 rfl hQ
set_option maxRecDepth 20000 in
theorem Written_addNumber_ok {X : qX} (hL : ∀ c, c < 93 → c ∈ qLs X) (d : Nat) (a1 : Int) (S : qSto) (o : qSto) (h : Written_addNumber a1 S = some o) (Q : Option qV → qSto → Prop) (hQ : Q none o) : qC X (d + 1) yX10_addNumber cX10_addNumber 2 none [qr 13, qi a1] S Q := by
  refine q_entry (lv := [(0, qr 13), (1, qi a1)]) pn_X10 (Nat.le_of_ble_eq_true rfl) rfl ?_
  unfold Written_addNumber at h
  refine q_aload_n dX10_addNumber_0 rfl rfl ?_
  refine q_bipush dX10_addNumber_1 (by decide) rfl ?_
  obtain ⟨q1640, h1641, h⟩ := Option.bind_eq_some_iff.mp h
  refine q_callVv (as := [qi 32]) (c := 13) dX10_addNumber_3 ml_X10_19 rfl rfl (hL 13 (by decide)) sh_13 rfl rfl (Nat.le_of_ble_eq_true rfl) (Written_add_ok hL d 32 _ _ h1641) rfl ?_
  refine q_iload_n dX10_addNumber_6 rfl rfl ?_
  refine q_bipush dX10_addNumber_7 (by decide) rfl ?_
  refine q_jn (G := fun (t1646 : qSto) => qW X (d + 1) yX10_addNumber cX10_addNumber 2 none 23 [(0, qr 13), (1, qi a1)] [] t1646 Q) h (fun t1646 h => ?_) (fun t1646 h hk3831 => ?_)
  · try dsimp only at h
    refine q_iload_n dX10_addNumber_23 rfl rfl ?_
    refine q_bipush dX10_addNumber_24 (by decide) rfl ?_
    refine q_jn (G := fun (t1652 : qSto) => qW X (d + 1) yX10_addNumber cX10_addNumber 2 none 43 [(0, qr 13), (1, qi a1)] [] t1652 Q) h (fun t1652 h => ?_) (fun t1652 h hk3832 => ?_)
    · try dsimp only at h
      refine q_aload_n dX10_addNumber_43 rfl rfl ?_
      refine q_bipush dX10_addNumber_44 (by decide) rfl ?_
      refine q_iload_n dX10_addNumber_46 rfl rfl ?_
      refine q_bipush dX10_addNumber_47 (by decide) rfl ?_
      obtain ⟨c1653, h⟩ := qk_some h
      refine q_irem dX10_addNumber_49 (qRb_R c1653) ⟨by decide, by decide⟩ (by decide) rfl ?_
      refine q_iadd dX10_addNumber_50 rfl ?_
      obtain ⟨q1654, h1655, h⟩ := Option.bind_eq_some_iff.mp h
      refine q_callVv (as := [qi (48 + (Int.tmod a1 10))]) (c := 13) dX10_addNumber_51 ml_X10_19 rfl rfl (hL 13 (by decide)) sh_13 rfl rfl (Nat.le_of_ble_eq_true rfl) (Written_add_ok hL d (48 + (Int.tmod a1 10)) _ _ h1655) rfl ?_
      cases h
      exact q_return dX10_addNumber_54 rfl hQ
    · skip
      obtain ⟨c1647, h⟩ := qk_some h
      refine q_icmp_lt (tgt := 43) dX10_addNumber_26 (by decide) rfl (qRb_R c1647) ⟨by decide, by decide⟩ (fun g => ?_) (fun g => ?_)
      · rw [if_pos (show a1 < 10 from g)] at h
        cases h
        exact q_pick [0, 1] rfl hk3832
      · rw [if_neg (show ¬ (a1 < 10) from g)] at h
        refine q_aload_n dX10_addNumber_29 rfl rfl ?_
        refine q_bipush dX10_addNumber_30 (by decide) rfl ?_
        refine q_iload_n dX10_addNumber_32 rfl rfl ?_
        refine q_bipush dX10_addNumber_33 (by decide) rfl ?_
        obtain ⟨c1648, h⟩ := qk_some h
        refine q_idiv dX10_addNumber_35 (qRb_R c1648) ⟨by decide, by decide⟩ (by decide) rfl ?_
        refine q_bipush dX10_addNumber_36 (by decide) rfl ?_
        obtain ⟨c1649, h⟩ := qk_some h
        refine q_irem dX10_addNumber_38 (qRb_R c1649) ⟨by decide, by decide⟩ (by decide) rfl ?_
        refine q_iadd dX10_addNumber_39 rfl ?_
        obtain ⟨q1650, h1651, h⟩ := Option.bind_eq_some_iff.mp h
        refine q_callVv (as := [qi (48 + (Int.tmod (Int.tdiv a1 10) 10))]) (c := 13) dX10_addNumber_40 ml_X10_19 rfl rfl (hL 13 (by decide)) sh_13 rfl rfl (Nat.le_of_ble_eq_true rfl) (Written_add_ok hL d (48 + (Int.tmod (Int.tdiv a1 10) 10)) _ _ h1651) rfl ?_
        cases h
        exact q_pick [0, 1] rfl hk3832
  · skip
    obtain ⟨c1642, h⟩ := qk_some h
    refine q_icmp_lt (tgt := 23) dX10_addNumber_9 (by decide) rfl (qRb_R c1642) ⟨by decide, by decide⟩ (fun g => ?_) (fun g => ?_)
    · rw [if_pos (show a1 < 100 from g)] at h
      cases h
      exact q_pick [0, 1] rfl hk3831
    · rw [if_neg (show ¬ (a1 < 100) from g)] at h
      refine q_aload_n dX10_addNumber_12 rfl rfl ?_
      refine q_bipush dX10_addNumber_13 (by decide) rfl ?_
      refine q_iload_n dX10_addNumber_15 rfl rfl ?_
      refine q_bipush dX10_addNumber_16 (by decide) rfl ?_
      obtain ⟨c1643, h⟩ := qk_some h
      refine q_idiv dX10_addNumber_18 (qRb_R c1643) ⟨by decide, by decide⟩ (by decide) rfl ?_
      refine q_iadd dX10_addNumber_19 rfl ?_
      obtain ⟨q1644, h1645, h⟩ := Option.bind_eq_some_iff.mp h
      refine q_callVv (as := [qi (48 + (Int.tdiv a1 100))]) (c := 13) dX10_addNumber_20 ml_X10_19 rfl rfl (hL 13 (by decide)) sh_13 rfl rfl (Nat.le_of_ble_eq_true rfl) (Written_add_ok hL d (48 + (Int.tdiv a1 100)) _ _ h1645) rfl ?_
      cases h
      exact q_pick [0, 1] rfl hk3831
set_option maxRecDepth 20000 in
theorem C_write_L34_ok {X : qX} (hL : ∀ c, c < 93 → c ∈ qLs X) (d : Nat) {Q : Option qV → qSto → Prop} : ∀ (n : Nat) (x1 : Int) (x2 : Int) (S : qSto) (o : qSto), C_write_L34 n x1 x2 S = some o → (qW X (d + 2) yX11_write cX11_write 3 (some .int) 74 [(0, qr 0), (1, qi x1)] [] o Q) → qW X (d + 2) yX11_write cX11_write 3 (some .int) 34 [(0, qr 0), (1, qi x1), (2, qi x2)] [] S Q := by
  intro n
  induction n with
  | zero =>
    intro x1 x2 S o h
    simp [C_write_L34] at h
  | succ n ih =>
    intro x1 x2 S o h hE
    rw [C_write_L34] at h
    refine q_iload_n dX11_write_34 rfl rfl ?_
    refine q_bipush dX11_write_35 (by decide) rfl ?_
    obtain ⟨c1626, h⟩ := qk_some h
    refine q_icmp_ge (tgt := 74) dX11_write_37 (by decide) rfl (qRb_R c1626) ⟨by decide, by decide⟩ (fun g => ?_) (fun g => ?_)
    · rw [if_pos (show 8 ≤ x2 from g)] at h
      cases h
      exact q_pick [0, 1] rfl (hE)
    · rw [if_neg (show ¬ (8 ≤ x2) from g)] at h
      refine q_aload_n dX11_write_40 rfl rfl ?_
      refine q_getA dX11_write_41 fl_X11_16 (hL 0 (by decide)) sh_0 (by decide) rfl rfl ?_
      refine q_iload_n dX11_write_44 rfl rfl ?_
      refine q_iload_n dX11_write_45 rfl rfl ?_
      obtain ⟨q1627, h1628, h⟩ := Option.bind_eq_some_iff.mp h
      refine q_callVi (as := [qi x1, qi x2]) (c := 2) dX11_write_46 ml_X11_242 rfl rfl (hL 2 (by decide)) sh_2 rfl rfl (Nat.le_of_ble_eq_true rfl) (Told_nameByte_ok hL (d + 1) x1 x2 _ _ h1628) rfl ?_
      obtain ⟨c1629, h⟩ := qk_some h
      refine q_if_eq (tgt := 74) dX11_write_49 (by decide) rfl (qRb_R c1629)  (fun g => ?_) (fun g => ?_)
      · rw [if_pos (show q1627.1 = 0 from g)] at h
        cases h
        exact q_pick [0, 1] rfl (hE)
      · rw [if_neg (show ¬ (q1627.1 = 0) from g)] at h
        refine q_aload_n dX11_write_52 rfl rfl ?_
        refine q_getA dX11_write_53 fl_X11_106 (hL 0 (by decide)) sh_0 (by decide) rfl rfl ?_
        refine q_aload_n dX11_write_56 rfl rfl ?_
        refine q_getA dX11_write_57 fl_X11_16 (hL 0 (by decide)) sh_0 (by decide) rfl rfl ?_
        refine q_iload_n dX11_write_60 rfl rfl ?_
        refine q_iload_n dX11_write_61 rfl rfl ?_
        obtain ⟨q1630, h1631, h⟩ := Option.bind_eq_some_iff.mp h
        refine q_callVi (as := [qi x1, qi x2]) (c := 2) dX11_write_62 ml_X11_242 rfl rfl (hL 2 (by decide)) sh_2 rfl rfl (Nat.le_of_ble_eq_true rfl) (Told_nameByte_ok hL (d + 1) x1 x2 _ _ h1631) rfl ?_
        obtain ⟨q1635, h1636, h⟩ := Option.bind_eq_some_iff.mp h
        refine q_callVv (as := [qi q1630.1]) (c := 13) dX11_write_65 ml_X11_408 rfl rfl (hL 13 (by decide)) sh_13 rfl rfl (Nat.le_of_ble_eq_true rfl) (Written_add_ok hL (d + 1) q1630.1 _ _ h1636) rfl ?_
        refine q_iinc (lv' := [(2, qi (x2 + 1)), (0, qr 0), (1, qi x1)]) dX11_write_68 (by decide) rfl rfl rfl ?_
        refine q_goto (pc' := 34) dX11_write_71 (by decide) ?_
        exact q_pick [1, 2, 0] rfl (ih x1 (x2 + 1) _ _ h hE)
set_option maxRecDepth 20000 in
theorem C_write_L10_ok {X : qX} (hL : ∀ c, c < 93 → c ∈ qLs X) (d : Nat) {Q : Option qV → qSto → Prop} : ∀ (n : Nat) (x1 : Int) (S : qSto) (o : qSto), C_write_L10 n x1 S = some o → (qW X (d + 2) yX11_write cX11_write 3 (some .int) 137 [(0, qr 0)] [] o Q) → qW X (d + 2) yX11_write cX11_write 3 (some .int) 10 [(0, qr 0), (1, qi x1)] [] S Q := by
  intro n
  induction n with
  | zero =>
    intro x1 S o h
    simp [C_write_L10] at h
  | succ n ih =>
    intro x1 S o h hE
    rw [C_write_L10] at h
    refine q_iload_n dX11_write_10 rfl rfl ?_
    refine q_aload_n dX11_write_11 rfl rfl ?_
    refine q_getA dX11_write_12 fl_X11_16 (hL 0 (by decide)) sh_0 (by decide) rfl rfl ?_
    refine q_getI dX11_write_15 fl_X11_158 (hL 2 (by decide)) sh_2 (by decide) rfl rfl ?_
    obtain ⟨c1621, h⟩ := qk_some h
    obtain ⟨c1622, h⟩ := qk_some h
    refine q_icmp_ge (tgt := 137) dX11_write_18 (by decide) rfl (qRb_R c1621) (qRb_R c1622) (fun g => ?_) (fun g => ?_)
    · rw [if_pos (show (S 2 12) ≤ x1 from g)] at h
      cases h
      exact q_pick [0] rfl (hE)
    · rw [if_neg (show ¬ ((S 2 12) ≤ x1) from g)] at h
      refine q_aload_n dX11_write_21 rfl rfl ?_
      refine q_getA dX11_write_22 fl_X11_49 (hL 0 (by decide)) sh_0 (by decide) rfl rfl ?_
      refine q_iload_n dX11_write_25 rfl rfl ?_
      obtain ⟨q1623, h1624, h⟩ := Option.bind_eq_some_iff.mp h
      refine q_callVi (as := [qi x1]) (c := 6) dX11_write_26 ml_X11_178 rfl rfl (hL 6 (by decide)) sh_6 rfl rfl (Nat.le_of_ble_eq_true rfl) (Stays_has_ok hL (d + 1) x1 _ _ h1624) rfl ?_
      refine q_jn (G := fun (t1666 : qSto) => qW X (d + 2) yX11_write cX11_write 3 (some .int) 131 [(0, qr 0), (1, qi x1)] [] t1666 Q) h (fun t1666 h => ?_) (fun t1666 h hk3833 => ?_)
      · try dsimp only at h
        refine q_iinc (lv' := [(1, qi (x1 + 1)), (0, qr 0)]) dX11_write_131 (by decide) rfl rfl rfl ?_
        refine q_goto (pc' := 10) dX11_write_134 (by decide) ?_
        exact q_pick [1, 0] rfl (ih (x1 + 1) _ _ h hE)
      · skip
        obtain ⟨c1625, h⟩ := qk_some h
        refine q_if_eq (tgt := 131) dX11_write_29 (by decide) rfl (qRb_R c1625)  (fun g => ?_) (fun g => ?_)
        · rw [if_pos (show q1623.1 = 0 from g)] at h
          cases h
          exact q_pick [0, 1] rfl hk3833
        · rw [if_neg (show ¬ (q1623.1 = 0) from g)] at h
          refine q_iconst dX11_write_32 rfl rfl ?_
          refine q_istore_n (lv' := [(2, qi 0), (0, qr 0), (1, qi x1)]) dX11_write_33 (by decide) rfl rfl ?_
          obtain ⟨q1637, h1638, h⟩ := Option.bind_eq_some_iff.mp h
          refine q_pick [1, 2, 0] rfl (C_write_L34_ok hL d qF x1 0 _ _ h1638 ?_)
          refine q_aload_n dX11_write_74 rfl rfl ?_
          refine q_getA dX11_write_75 fl_X11_106 (hL 0 (by decide)) sh_0 (by decide) rfl rfl ?_
          refine q_aload_n dX11_write_78 rfl rfl ?_
          refine q_getA dX11_write_79 fl_X11_49 (hL 0 (by decide)) sh_0 (by decide) rfl rfl ?_
          refine q_getA dX11_write_82 fl_X11_225 (hL 6 (by decide)) sh_6 (by decide) rfl rfl ?_
          refine q_iload_n dX11_write_85 rfl rfl ?_
          obtain ⟨c1639, h⟩ := qk_some h
          refine q_iaload dX11_write_86 (hL 37 (by decide)) sh_37 (qIx_0 c1639) (qIx_1 c1639) rfl ?_
          obtain ⟨q1656, h1657, h⟩ := Option.bind_eq_some_iff.mp h
          refine q_callVv (as := [qi (q1637 37 (Int.toNat x1))]) (c := 13) dX11_write_87 ml_X11_411 rfl rfl (hL 13 (by decide)) sh_13 rfl rfl (Nat.le_of_ble_eq_true rfl) (Written_addNumber_ok hL d (q1637 37 (Int.toNat x1)) _ _ h1657) rfl ?_
          refine q_aload_n dX11_write_90 rfl rfl ?_
          refine q_getA dX11_write_91 fl_X11_106 (hL 0 (by decide)) sh_0 (by decide) rfl rfl ?_
          refine q_aload_n dX11_write_94 rfl rfl ?_
          refine q_getA dX11_write_95 fl_X11_49 (hL 0 (by decide)) sh_0 (by decide) rfl rfl ?_
          refine q_getA dX11_write_98 fl_X11_228 (hL 6 (by decide)) sh_6 (by decide) rfl rfl ?_
          refine q_iload_n dX11_write_101 rfl rfl ?_
          obtain ⟨c1658, h⟩ := qk_some h
          refine q_iaload dX11_write_102 (hL 39 (by decide)) sh_39 (qIx_0 c1658) (qIx_1 c1658) rfl ?_
          obtain ⟨q1659, h1660, h⟩ := Option.bind_eq_some_iff.mp h
          refine q_callVv (as := [qi (q1656 39 (Int.toNat x1))]) (c := 13) dX11_write_103 ml_X11_411 rfl rfl (hL 13 (by decide)) sh_13 rfl rfl (Nat.le_of_ble_eq_true rfl) (Written_addNumber_ok hL d (q1656 39 (Int.toNat x1)) _ _ h1660) rfl ?_
          refine q_aload_n dX11_write_106 rfl rfl ?_
          refine q_getA dX11_write_107 fl_X11_106 (hL 0 (by decide)) sh_0 (by decide) rfl rfl ?_
          refine q_aload_n dX11_write_110 rfl rfl ?_
          refine q_getA dX11_write_111 fl_X11_49 (hL 0 (by decide)) sh_0 (by decide) rfl rfl ?_
          refine q_getA dX11_write_114 fl_X11_231 (hL 6 (by decide)) sh_6 (by decide) rfl rfl ?_
          refine q_iload_n dX11_write_117 rfl rfl ?_
          obtain ⟨c1661, h⟩ := qk_some h
          refine q_iaload dX11_write_118 (hL 40 (by decide)) sh_40 (qIx_0 c1661) (qIx_1 c1661) rfl ?_
          obtain ⟨q1662, h1663, h⟩ := Option.bind_eq_some_iff.mp h
          refine q_callVv (as := [qi (q1659 40 (Int.toNat x1))]) (c := 13) dX11_write_119 ml_X11_411 rfl rfl (hL 13 (by decide)) sh_13 rfl rfl (Nat.le_of_ble_eq_true rfl) (Written_addNumber_ok hL d (q1659 40 (Int.toNat x1)) _ _ h1663) rfl ?_
          refine q_aload_n dX11_write_122 rfl rfl ?_
          refine q_getA dX11_write_123 fl_X11_106 (hL 0 (by decide)) sh_0 (by decide) rfl rfl ?_
          refine q_bipush dX11_write_126 (by decide) rfl ?_
          obtain ⟨q1664, h1665, h⟩ := Option.bind_eq_some_iff.mp h
          refine q_callVv (as := [qi 59]) (c := 13) dX11_write_128 ml_X11_408 rfl rfl (hL 13 (by decide)) sh_13 rfl rfl (Nat.le_of_ble_eq_true rfl) (Written_add_ok hL (d + 1) 59 _ _ h1665) rfl ?_
          cases h
          exact q_pick [0, 1] rfl hk3833
set_option maxRecDepth 20000 in
theorem C_write_ok {X : qX} (hL : ∀ c, c < 93 → c ∈ qLs X) (d : Nat) (S : qSto) (o : (Int × qSto)) (h : C_write S = some o) (Q : Option qV → qSto → Prop) (hQ : Q (some (qi o.1)) o.2) : qC X (d + 2) yX11_write cX11_write 3 (some .int) [qr 0] S Q := by
  refine q_entry (lv := [(0, qr 0)]) pn_X11 (Nat.le_of_ble_eq_true rfl) rfl ?_
  unfold C_write at h
  refine q_aload_n dX11_write_0 rfl rfl ?_
  refine q_getA dX11_write_1 fl_X11_106 (hL 0 (by decide)) sh_0 (by decide) rfl rfl ?_
  refine q_iconst dX11_write_4 rfl rfl ?_
  refine q_putI dX11_write_5 fl_X11_405 (hL 13 (by decide)) sh_13 (by decide) pf_10_1 pt_10_1 rfl rfl ?_
  refine q_iconst dX11_write_8 rfl rfl ?_
  refine q_istore_n (lv' := [(1, qi 0), (0, qr 0)]) dX11_write_9 (by decide) rfl rfl ?_
  obtain ⟨q1667, h1668, h⟩ := Option.bind_eq_some_iff.mp h
  refine q_pick [1, 0] rfl (C_write_L10_ok hL d qF 0 _ _ h1668 ?_)
  refine q_aload_n dX11_write_137 rfl rfl ?_
  refine q_getA dX11_write_138 fl_X11_106 (hL 0 (by decide)) sh_0 (by decide) rfl rfl ?_
  refine q_getI dX11_write_141 fl_X11_405 (hL 13 (by decide)) sh_13 (by decide) rfl rfl ?_
  cases h
  exact q_ireturn dX11_write_144 rfl hQ
set_option maxRecDepth 20000 in
theorem C_octet_ok {X : qX} (hL : ∀ c, c < 93 → c ∈ qLs X) (d : Nat) (a1 : Int) (S : qSto) (o : (Int × qSto)) (h : C_octet a1 S = some o) (Q : Option qV → qSto → Prop) (hQ : Q (some (qi o.1)) o.2) : qC X d yX11_octet cX11_octet 2 (some .int) [qr 0, qi a1] S Q := by
  refine q_entry (lv := [(0, qr 0), (1, qi a1)]) pn_X11 (Nat.le_of_ble_eq_true rfl) rfl ?_
  unfold C_octet at h
  refine q_iload_n dX11_octet_0 rfl rfl ?_
  obtain ⟨c1669, h⟩ := qk_some h
  refine q_if_lt (tgt := 27) dX11_octet_1 (by decide) rfl (qRb_R c1669)  (fun g => ?_) (fun g => ?_)
  · rw [if_pos (show a1 < 0 from g)] at h
    refine q_iconst dX11_octet_27 rfl rfl ?_
    cases h
    exact q_ireturn dX11_octet_28 rfl hQ
  · rw [if_neg (show ¬ (a1 < 0) from g)] at h
    refine q_iload_n dX11_octet_4 rfl rfl ?_
    refine q_aload_n dX11_octet_5 rfl rfl ?_
    refine q_getA dX11_octet_6 fl_X11_106 (hL 0 (by decide)) sh_0 (by decide) rfl rfl ?_
    refine q_getI dX11_octet_9 fl_X11_405 (hL 13 (by decide)) sh_13 (by decide) rfl rfl ?_
    obtain ⟨c1670, h⟩ := qk_some h
    obtain ⟨c1671, h⟩ := qk_some h
    refine q_icmp_ge (tgt := 27) dX11_octet_12 (by decide) rfl (qRb_R c1670) (qRb_R c1671) (fun g => ?_) (fun g => ?_)
    · rw [if_pos (show (S 13 1) ≤ a1 from g)] at h
      refine q_iconst dX11_octet_27 rfl rfl ?_
      cases h
      exact q_ireturn dX11_octet_28 rfl hQ
    · rw [if_neg (show ¬ ((S 13 1) ≤ a1) from g)] at h
      refine q_aload_n dX11_octet_15 rfl rfl ?_
      refine q_getA dX11_octet_16 fl_X11_106 (hL 0 (by decide)) sh_0 (by decide) rfl rfl ?_
      refine q_getA dX11_octet_19 fl_X11_414 (hL 13 (by decide)) sh_13 (by decide) rfl rfl ?_
      refine q_iload_n dX11_octet_22 rfl rfl ?_
      obtain ⟨c1672, h⟩ := qk_some h
      refine q_baload dX11_octet_23 (hL 69 (by decide)) sh_69 (qIx_0 c1672) (qIx_1 c1672) rfl ?_
      refine q_goto (pc' := 28) dX11_octet_24 (by decide) ?_
      cases h
      exact q_ireturn dX11_octet_28 rfl hQ
set_option maxRecDepth 20000 in
theorem History_isMade_ok {X : qX} (hL : ∀ c, c < 93 → c ∈ qLs X) (d : Nat) (a1 : Int) (S : qSto) (o : (Int × qSto)) (h : History_isMade a1 S = some o) (Q : Option qV → qSto → Prop) (hQ : Q (some (qi o.1)) o.2) : qC X d yX2_isMade cX2_isMade 2 (some .boolean) [qr 12, qi a1] S Q := by
  refine q_entry (lv := [(0, qr 12), (1, qi a1)]) pn_X2 (Nat.le_of_ble_eq_true rfl) rfl ?_
  unfold History_isMade at h
  refine q_iload_n dX2_isMade_0 rfl rfl ?_
  obtain ⟨c1673, h⟩ := qk_some h
  refine q_if_lt (tgt := 24) dX2_isMade_1 (by decide) rfl (qRb_R c1673)  (fun g => ?_) (fun g => ?_)
  · rw [if_pos (show a1 < 0 from g)] at h
    refine q_iconst dX2_isMade_24 rfl rfl ?_
    cases h
    exact q_zreturn dX2_isMade_25 rfl (by decide) hQ
  · rw [if_neg (show ¬ (a1 < 0) from g)] at h
    refine q_iload_n dX2_isMade_4 rfl rfl ?_
    refine q_iconst dX2_isMade_5 rfl rfl ?_
    obtain ⟨c1674, h⟩ := qk_some h
    refine q_icmp_ge (tgt := 24) dX2_isMade_6 (by decide) rfl (qRb_R c1674) ⟨by decide, by decide⟩ (fun g => ?_) (fun g => ?_)
    · rw [if_pos (show 4 ≤ a1 from g)] at h
      refine q_iconst dX2_isMade_24 rfl rfl ?_
      cases h
      exact q_zreturn dX2_isMade_25 rfl (by decide) hQ
    · rw [if_neg (show ¬ (4 ≤ a1) from g)] at h
      refine q_aload_n dX2_isMade_9 rfl rfl ?_
      refine q_getI dX2_isMade_10 fl_X2_23 (hL 12 (by decide)) sh_12 (by decide) rfl rfl ?_
      refine q_iload_n dX2_isMade_13 rfl rfl ?_
      refine q_ishr dX2_isMade_14 rfl ?_
      refine q_iconst dX2_isMade_15 rfl rfl ?_
      refine q_iand dX2_isMade_16 rfl ?_
      obtain ⟨c1675, h⟩ := qk_some h
      refine q_if_eq (tgt := 24) dX2_isMade_17 (by decide) rfl (qRb_R c1675)  (fun g => ?_) (fun g => ?_)
      · rw [if_pos (show (qb_iand (qb_ishr (S 12 4) a1) 1) = 0 from g)] at h
        refine q_iconst dX2_isMade_24 rfl rfl ?_
        cases h
        exact q_zreturn dX2_isMade_25 rfl (by decide) hQ
      · rw [if_neg (show ¬ ((qb_iand (qb_ishr (S 12 4) a1) 1) = 0) from g)] at h
        refine q_iconst dX2_isMade_20 rfl rfl ?_
        refine q_goto (pc' := 25) dX2_isMade_21 (by decide) ?_
        cases h
        exact q_zreturn dX2_isMade_25 rfl (by decide) hQ
set_option maxRecDepth 20000 in
theorem Stays_isAsSaved_x_ok {X : qX} (hL : ∀ c, c < 93 → c ∈ qLs X) (d : Nat) (a1 : Int) (a2 : Nat) (S : qSto) (o : (Int × qSto)) (h : Stays_isAsSaved_x a1 a2 S = some o) (Q : Option qV → qSto → Prop) (hQ : Q (some (qi o.1)) o.2) : qC X (d + 1) yX7_isAsSaved cX7_isAsSaved 3 (some .boolean) [qr 6, qi a1, qr a2] S Q := by
  refine q_entry (lv := [(0, qr 6), (1, qi a1), (2, qr a2)]) pn_X7 (Nat.le_of_ble_eq_true rfl) rfl ?_
  unfold Stays_isAsSaved_x at h
  refine q_aload_n dX7_isAsSaved_0 rfl rfl ?_
  refine q_getA dX7_isAsSaved_1 fl_X7_21 (hL 6 (by decide)) sh_6 (by decide) rfl rfl ?_
  refine q_iload_n dX7_isAsSaved_4 rfl rfl ?_
  obtain ⟨c1682, h⟩ := qk_some h
  refine q_iaload dX7_isAsSaved_5 (hL 40 (by decide)) sh_40 (qIx_0 c1682) (qIx_1 c1682) rfl ?_
  refine q_aload_n dX7_isAsSaved_6 rfl rfl ?_
  refine q_iload_n dX7_isAsSaved_7 rfl rfl ?_
  refine q_iconst dX7_isAsSaved_8 rfl rfl ?_
  refine q_imul dX7_isAsSaved_9 rfl ?_
  refine q_iconst dX7_isAsSaved_10 rfl rfl ?_
  refine q_iadd dX7_isAsSaved_11 rfl ?_
  obtain ⟨c1683, h⟩ := qk_some h
  obtain ⟨c1684, h⟩ := qk_some h
  refine q_iaload dX7_isAsSaved_12 (hL _ (qAr_L c1683)) (qAr_S c1683) (qIx_0 c1684) (qIx_1 c1684) rfl ?_
  obtain ⟨c1685, h⟩ := qk_some h
  obtain ⟨c1686, h⟩ := qk_some h
  refine q_icmp_eq (tgt := 18) dX7_isAsSaved_13 (by decide) rfl (qRb_R c1685) (qRb_R c1686) (fun g => ?_) (fun g => ?_)
  · rw [if_pos (show (S 40 (Int.toNat a1)) = (S a2 (Int.toNat ((a1 * 3) + 2))) from g)] at h
    refine q_aload_n dX7_isAsSaved_18 rfl rfl ?_
    refine q_iload_n dX7_isAsSaved_19 rfl rfl ?_
    obtain ⟨q1687, h1688, h⟩ := Option.bind_eq_some_iff.mp h
    refine q_callVi (as := [qi a1]) (c := 6) dX7_isAsSaved_20 ml_X7_50 rfl rfl (hL 6 (by decide)) sh_6 rfl rfl (Nat.le_of_ble_eq_true rfl) (Stays_has_ok hL d a1 _ _ h1688) rfl ?_
    obtain ⟨c1689, h⟩ := qk_some h
    refine q_if_eq (tgt := 56) dX7_isAsSaved_23 (by decide) rfl (qRb_R c1689)  (fun g => ?_) (fun g => ?_)
    · rw [if_pos (show q1687.1 = 0 from g)] at h
      refine q_iconst dX7_isAsSaved_56 rfl rfl ?_
      refine q_goto (pc' := 61) dX7_isAsSaved_57 (by decide) ?_
      cases h
      exact q_zreturn dX7_isAsSaved_61 rfl (by decide) hQ
    · rw [if_neg (show ¬ (q1687.1 = 0) from g)] at h
      refine q_aload_n dX7_isAsSaved_26 rfl rfl ?_
      refine q_getA dX7_isAsSaved_27 fl_X7_9 (hL 6 (by decide)) sh_6 (by decide) rfl rfl ?_
      refine q_iload_n dX7_isAsSaved_30 rfl rfl ?_
      obtain ⟨c1690, h⟩ := qk_some h
      refine q_iaload dX7_isAsSaved_31 (hL 37 (by decide)) sh_37 (qIx_0 c1690) (qIx_1 c1690) rfl ?_
      refine q_aload_n dX7_isAsSaved_32 rfl rfl ?_
      refine q_iload_n dX7_isAsSaved_33 rfl rfl ?_
      refine q_iconst dX7_isAsSaved_34 rfl rfl ?_
      refine q_imul dX7_isAsSaved_35 rfl ?_
      obtain ⟨c1691, h⟩ := qk_some h
      obtain ⟨c1692, h⟩ := qk_some h
      refine q_iaload dX7_isAsSaved_36 (hL _ (qAr_L c1691)) (qAr_S c1691) (qIx_0 c1692) (qIx_1 c1692) rfl ?_
      obtain ⟨c1693, h⟩ := qk_some h
      obtain ⟨c1694, h⟩ := qk_some h
      refine q_icmp_ne (tgt := 60) dX7_isAsSaved_37 (by decide) rfl (qRb_R c1693) (qRb_R c1694) (fun g => ?_) (fun g => ?_)
      · rw [if_neg (show ¬ ((q1687.2 37 (Int.toNat a1)) = (q1687.2 a2 (Int.toNat (a1 * 3)))) from g)] at h
        refine q_iconst dX7_isAsSaved_60 rfl rfl ?_
        cases h
        exact q_zreturn dX7_isAsSaved_61 rfl (by decide) hQ
      · rw [if_pos (show (q1687.2 37 (Int.toNat a1)) = (q1687.2 a2 (Int.toNat (a1 * 3))) from g)] at h
        refine q_aload_n dX7_isAsSaved_40 rfl rfl ?_
        refine q_getA dX7_isAsSaved_41 fl_X7_18 (hL 6 (by decide)) sh_6 (by decide) rfl rfl ?_
        refine q_iload_n dX7_isAsSaved_44 rfl rfl ?_
        obtain ⟨c1695, h⟩ := qk_some h
        refine q_iaload dX7_isAsSaved_45 (hL 39 (by decide)) sh_39 (qIx_0 c1695) (qIx_1 c1695) rfl ?_
        refine q_aload_n dX7_isAsSaved_46 rfl rfl ?_
        refine q_iload_n dX7_isAsSaved_47 rfl rfl ?_
        refine q_iconst dX7_isAsSaved_48 rfl rfl ?_
        refine q_imul dX7_isAsSaved_49 rfl ?_
        refine q_iconst dX7_isAsSaved_50 rfl rfl ?_
        refine q_iadd dX7_isAsSaved_51 rfl ?_
        obtain ⟨c1696, h⟩ := qk_some h
        obtain ⟨c1697, h⟩ := qk_some h
        refine q_iaload dX7_isAsSaved_52 (hL _ (qAr_L c1696)) (qAr_S c1696) (qIx_0 c1697) (qIx_1 c1697) rfl ?_
        obtain ⟨c1698, h⟩ := qk_some h
        obtain ⟨c1699, h⟩ := qk_some h
        refine q_icmp_ne (tgt := 60) dX7_isAsSaved_53 (by decide) rfl (qRb_R c1698) (qRb_R c1699) (fun g => ?_) (fun g => ?_)
        · rw [if_neg (show ¬ ((q1687.2 39 (Int.toNat a1)) = (q1687.2 a2 (Int.toNat ((a1 * 3) + 1)))) from g)] at h
          refine q_iconst dX7_isAsSaved_60 rfl rfl ?_
          cases h
          exact q_zreturn dX7_isAsSaved_61 rfl (by decide) hQ
        · rw [if_pos (show (q1687.2 39 (Int.toNat a1)) = (q1687.2 a2 (Int.toNat ((a1 * 3) + 1))) from g)] at h
          refine q_iconst dX7_isAsSaved_56 rfl rfl ?_
          refine q_goto (pc' := 61) dX7_isAsSaved_57 (by decide) ?_
          cases h
          exact q_zreturn dX7_isAsSaved_61 rfl (by decide) hQ
  · rw [if_neg (show ¬ ((S 40 (Int.toNat a1)) = (S a2 (Int.toNat ((a1 * 3) + 2)))) from g)] at h
    refine q_iconst dX7_isAsSaved_16 rfl rfl ?_
    cases h
    exact q_zreturn dX7_isAsSaved_17 rfl (by decide) hQ
set_option maxRecDepth 20000 in
theorem C_differs_L17_ok {X : qX} (hL : ∀ c, c < 93 → c ∈ qLs X) (d : Nat) {Q : Option qV → qSto → Prop} : ∀ (n : Nat) (x1 : Int) (x2 : Int) (x3 : Int) (S : qSto) (o : (Int × qSto)), C_differs_L17 n x1 x2 x3 S = some o → (qW X (d + 2) yX11_differs cX11_differs 4 (some .int) 60 [(2, qi o.1)] [] o.2 Q) → qW X (d + 2) yX11_differs cX11_differs 4 (some .int) 17 [(0, qr 0), (1, qi x1), (2, qi x2), (3, qi x3)] [] S Q := by
  intro n
  induction n with
  | zero =>
    intro x1 x2 x3 S o h
    simp [C_differs_L17] at h
  | succ n ih =>
    intro x1 x2 x3 S o h hE
    rw [C_differs_L17] at h
    refine q_iload_n dX11_differs_17 rfl rfl ?_
    refine q_aload_n dX11_differs_18 rfl rfl ?_
    refine q_getA dX11_differs_19 fl_X11_16 (hL 0 (by decide)) sh_0 (by decide) rfl rfl ?_
    refine q_getI dX11_differs_22 fl_X11_158 (hL 2 (by decide)) sh_2 (by decide) rfl rfl ?_
    obtain ⟨c1679, h⟩ := qk_some h
    obtain ⟨c1680, h⟩ := qk_some h
    refine q_icmp_ge (tgt := 60) dX11_differs_25 (by decide) rfl (qRb_R c1679) (qRb_R c1680) (fun g => ?_) (fun g => ?_)
    · rw [if_pos (show (S 2 12) ≤ x3 from g)] at h
      cases h
      exact q_pick [2] rfl (hE)
    · rw [if_neg (show ¬ ((S 2 12) ≤ x3) from g)] at h
      refine q_aload_n dX11_differs_28 rfl rfl ?_
      refine q_getA dX11_differs_29 fl_X11_49 (hL 0 (by decide)) sh_0 (by decide) rfl rfl ?_
      refine q_iload_n dX11_differs_32 rfl rfl ?_
      refine q_aload_n dX11_differs_33 rfl rfl ?_
      refine q_getA dX11_differs_34 fl_X11_99 (hL 0 (by decide)) sh_0 (by decide) rfl rfl ?_
      refine q_getA dX11_differs_37 fl_X11_420 (hL 12 (by decide)) sh_12 (by decide) rfl rfl ?_
      refine q_iload_n dX11_differs_40 rfl rfl ?_
      obtain ⟨c1681, h⟩ := qk_some h
      refine q_aaload dX11_differs_41 (hL 64 (by decide)) sh_64 (qIx_0 c1681) (qIx_1 c1681) rfl ?_
      obtain ⟨q1700, h1701, h⟩ := Option.bind_eq_some_iff.mp h
      refine q_callVi (as := [qi x3, qr (qrf 64 (Int.toNat x1))]) (c := 6) dX11_differs_42 ml_X11_424 rfl rfl (hL 6 (by decide)) sh_6 rfl rfl (Nat.le_of_ble_eq_true rfl) (Stays_isAsSaved_x_ok hL d x3 (qrf 64 (Int.toNat x1)) _ _ h1701) rfl ?_
      refine q_jn (G := fun (t1703 : Int) => qW X (d + 2) yX11_differs cX11_differs 4 (some .int) 54 [(0, qr 0), (1, qi x1), (2, qi t1703), (3, qi x3)] [] q1700.2 Q) h (fun t1703 h => ?_) (fun t1703 h hk3834 => ?_)
      · try dsimp only at h
        refine q_iinc (lv' := [(3, qi (x3 + 1)), (0, qr 0), (1, qi x1), (2, qi t1703)]) dX11_differs_54 (by decide) rfl rfl rfl ?_
        refine q_goto (pc' := 17) dX11_differs_57 (by decide) ?_
        exact q_pick [1, 2, 3, 0] rfl (ih x1 t1703 (x3 + 1) _ _ h hE)
      · skip
        obtain ⟨c1702, h⟩ := qk_some h
        refine q_if_ne (tgt := 54) dX11_differs_45 (by decide) rfl (qRb_R c1702)  (fun g => ?_) (fun g => ?_)
        · rw [if_neg (show ¬ (q1700.1 = 0) from g)] at h
          cases h
          exact q_pick [0, 1, 2, 3] rfl hk3834
        · rw [if_pos (show q1700.1 = 0 from g)] at h
          refine q_iload_n dX11_differs_48 rfl rfl ?_
          refine q_iconst dX11_differs_49 rfl rfl ?_
          refine q_iload_n dX11_differs_50 rfl rfl ?_
          refine q_ishl dX11_differs_51 rfl ?_
          refine q_ior dX11_differs_52 rfl ?_
          refine q_istore_n (lv' := [(2, qi (qb_ior x2 (qb_ishl 1 x3))), (0, qr 0), (1, qi x1), (3, qi x3)]) dX11_differs_53 (by decide) rfl rfl ?_
          cases h
          exact q_pick [1, 2, 0, 3] rfl hk3834
set_option maxRecDepth 20000 in
theorem C_differs_ok {X : qX} (hL : ∀ c, c < 93 → c ∈ qLs X) (d : Nat) (a1 : Int) (S : qSto) (o : (Int × qSto)) (h : C_differs a1 S = some o) (Q : Option qV → qSto → Prop) (hQ : Q (some (qi o.1)) o.2) : qC X (d + 2) yX11_differs cX11_differs 4 (some .int) [qr 0, qi a1] S Q := by
  refine q_entry (lv := [(0, qr 0), (1, qi a1)]) pn_X11 (Nat.le_of_ble_eq_true rfl) rfl ?_
  unfold C_differs at h
  refine q_aload_n dX11_differs_0 rfl rfl ?_
  refine q_getA dX11_differs_1 fl_X11_99 (hL 0 (by decide)) sh_0 (by decide) rfl rfl ?_
  refine q_iload_n dX11_differs_4 rfl rfl ?_
  obtain ⟨q1676, h1677, h⟩ := Option.bind_eq_some_iff.mp h
  refine q_callVi (as := [qi a1]) (c := 12) dX11_differs_5 ml_X11_417 rfl rfl (hL 12 (by decide)) sh_12 rfl rfl (Nat.le_of_ble_eq_true rfl) (History_isMade_ok hL (d + 1) a1 _ _ h1677) rfl ?_
  obtain ⟨c1678, h⟩ := qk_some h
  refine q_if_ne (tgt := 13) dX11_differs_8 (by decide) rfl (qRb_R c1678)  (fun g => ?_) (fun g => ?_)
  · rw [if_neg (show ¬ (q1676.1 = 0) from g)] at h
    refine q_iconst dX11_differs_13 rfl rfl ?_
    refine q_istore_n (lv' := [(2, qi 0), (0, qr 0), (1, qi a1)]) dX11_differs_14 (by decide) rfl rfl ?_
    refine q_iconst dX11_differs_15 rfl rfl ?_
    refine q_istore_n (lv' := [(3, qi 0), (2, qi 0), (0, qr 0), (1, qi a1)]) dX11_differs_16 (by decide) rfl rfl ?_
    obtain ⟨q1704, h1705, h⟩ := Option.bind_eq_some_iff.mp h
    refine q_pick [2, 3, 1, 0] rfl (C_differs_L17_ok hL d qF a1 0 0 _ _ h1705 ?_)
    refine q_iload_n dX11_differs_60 rfl rfl ?_
    cases h
    exact q_ireturn dX11_differs_61 rfl hQ
  · rw [if_pos (show q1676.1 = 0 from g)] at h
    refine q_iconst dX11_differs_11 rfl rfl ?_
    cases h
    exact q_ireturn dX11_differs_12 rfl hQ
set_option maxRecDepth 20000 in
theorem History_takeLatest_14_ok {X : qX} (hL : ∀ c, c < 93 → c ∈ qLs X) (d : Nat) (S : qSto) (o : (Int × qSto)) (h : History_takeLatest_14 S = some o) (Q : Option qV → qSto → Prop) (hQ : Q (some (qi o.1)) o.2) : qC X d yX2_takeLatest cX2_takeLatest 2 (some .boolean) [qr 12, qr 14] S Q := by
  refine q_entry (lv := [(0, qr 12), (1, qr 14)]) pn_X2 (Nat.le_of_ble_eq_true rfl) rfl ?_
  unfold History_takeLatest_14 at h
  refine q_aload_n dX2_takeLatest_0 rfl rfl ?_
  refine q_getI dX2_takeLatest_1 fl_X2_19 (hL 12 (by decide)) sh_12 (by decide) rfl rfl ?_
  obtain ⟨c1706, h⟩ := qk_some h
  refine q_if_ne (tgt := 9) dX2_takeLatest_4 (by decide) rfl (qRb_R c1706)  (fun g => ?_) (fun g => ?_)
  · rw [if_neg (show ¬ ((S 12 2) = 0) from g)] at h
    refine q_aload_n dX2_takeLatest_9 rfl rfl ?_
    refine q_dupA dX2_takeLatest_10 rfl ?_
    refine q_getI dX2_takeLatest_11 fl_X2_19 (hL 12 (by decide)) sh_12 (by decide) rfl rfl ?_
    refine q_iconst dX2_takeLatest_14 rfl rfl ?_
    refine q_isub dX2_takeLatest_15 rfl ?_
    refine q_putI dX2_takeLatest_16 fl_X2_19 (hL 12 (by decide)) sh_12 (by decide) pf_2_2 pt_2_2 rfl rfl ?_
    refine q_aload_n dX2_takeLatest_19 rfl rfl ?_
    refine q_getA dX2_takeLatest_20 fl_X2_11 (hL 12 (by decide)) sh_12 (by decide) rfl rfl ?_
    refine q_aload_n dX2_takeLatest_23 rfl rfl ?_
    refine q_getI dX2_takeLatest_24 fl_X2_26 (hL 12 (by decide)) sh_12 (by decide) rfl rfl ?_
    refine q_aload_n dX2_takeLatest_27 rfl rfl ?_
    refine q_getI dX2_takeLatest_28 fl_X2_19 (hL 12 (by decide)) sh_12 (by decide) rfl rfl ?_
    refine q_iadd dX2_takeLatest_31 rfl ?_
    refine q_bipush dX2_takeLatest_32 (by decide) rfl ?_
    obtain ⟨c1707, h⟩ := qk_some h
    refine q_irem dX2_takeLatest_34 (qRb_R c1707) ⟨by decide, by decide⟩ (by decide) rfl ?_
    obtain ⟨c1708, h⟩ := qk_some h
    refine q_aaload dX2_takeLatest_35 (hL 51 (by decide)) sh_51 (qIx_0 c1708) (qIx_1 c1708) rfl ?_
    refine q_iconst dX2_takeLatest_36 rfl rfl ?_
    refine q_aload_n dX2_takeLatest_37 rfl rfl ?_
    refine q_iconst dX2_takeLatest_38 rfl rfl ?_
    refine q_bipush dX2_takeLatest_39 (by decide) rfl ?_
    obtain ⟨c1709, h⟩ := qk_some h
    refine q_copy dX2_takeLatest_41 cw_X2_29 (hL _ (qAr_L c1709)) (hL 14 (by decide)) (qAr_S c1709) sh_14 (by decide) (by decide) (by decide) (by decide) (by decide) (Nat.le_of_ble_eq_true rfl) rfl ?_
    refine q_iconst dX2_takeLatest_44 rfl rfl ?_
    cases h
    exact q_zreturn dX2_takeLatest_45 rfl (by decide) hQ
  · rw [if_pos (show (S 12 2) = 0 from g)] at h
    refine q_iconst dX2_takeLatest_7 rfl rfl ?_
    cases h
    exact q_zreturn dX2_takeLatest_8 rfl (by decide) hQ
set_option maxRecDepth 20000 in
theorem C_undo_ok {X : qX} (hL : ∀ c, c < 93 → c ∈ qLs X) (d : Nat) (S : qSto) (o : (Int × qSto)) (h : C_undo S = some o) (Q : Option qV → qSto → Prop) (hQ : Q (some (qi o.1)) o.2) : qC X (d + 5) yX11_undo cX11_undo 1 (some .int) [qr 0] S Q := by
  refine q_entry (lv := [(0, qr 0)]) pn_X11 (Nat.le_of_ble_eq_true rfl) rfl ?_
  unfold C_undo at h
  refine q_aload_n dX11_undo_0 rfl rfl ?_
  refine q_getA dX11_undo_1 fl_X11_99 (hL 0 (by decide)) sh_0 (by decide) rfl rfl ?_
  refine q_aload_n dX11_undo_4 rfl rfl ?_
  refine q_getA dX11_undo_5 fl_X11_110 (hL 0 (by decide)) sh_0 (by decide) rfl rfl ?_
  obtain ⟨q1710, h1711, h⟩ := Option.bind_eq_some_iff.mp h
  refine q_callVi (as := [qr 14]) (c := 12) dX11_undo_8 ml_X11_428 rfl rfl (hL 12 (by decide)) sh_12 rfl rfl (Nat.le_of_ble_eq_true rfl) (History_takeLatest_14_ok hL (d + 4) _ _ h1711) rfl ?_
  obtain ⟨c1712, h⟩ := qk_some h
  refine q_if_ne (tgt := 16) dX11_undo_11 (by decide) rfl (qRb_R c1712)  (fun g => ?_) (fun g => ?_)
  · rw [if_neg (show ¬ (q1710.1 = 0) from g)] at h
    refine q_aload_n dX11_undo_16 rfl rfl ?_
    refine q_getA dX11_undo_17 fl_X11_49 (hL 0 (by decide)) sh_0 (by decide) rfl rfl ?_
    refine q_aload_n dX11_undo_20 rfl rfl ?_
    refine q_getA dX11_undo_21 fl_X11_110 (hL 0 (by decide)) sh_0 (by decide) rfl rfl ?_
    obtain ⟨q1713, h1714, h⟩ := Option.bind_eq_some_iff.mp h
    refine q_callVv (as := [qr 14]) (c := 6) dX11_undo_24 ml_X11_335 rfl rfl (hL 6 (by decide)) sh_6 rfl rfl (Nat.le_of_ble_eq_true rfl) (Stays_load_14_ok hL d _ _ h1714) rfl ?_
    refine q_aload_n dX11_undo_27 rfl rfl ?_
    refine q_getA dX11_undo_28 fl_X11_92 (hL 0 (by decide)) sh_0 (by decide) rfl rfl ?_
    refine q_iconst dX11_undo_31 rfl rfl ?_
    refine q_putZ dX11_undo_32 fl_X11_136 (hL 11 (by decide)) sh_11 (by decide) pf_1_3 pt_1_3 rfl (by decide) rfl ?_
    refine q_aload_n dX11_undo_35 rfl rfl ?_
    refine q_getA dX11_undo_36 fl_X11_99 (hL 0 (by decide)) sh_0 (by decide) rfl rfl ?_
    refine q_getI dX11_undo_39 fl_X11_165 (hL 12 (by decide)) sh_12 (by decide) rfl rfl ?_
    cases h
    exact q_ireturn dX11_undo_42 rfl hQ
  · rw [if_pos (show q1710.1 = 0 from g)] at h
    refine q_iconst dX11_undo_14 rfl rfl ?_
    cases h
    exact q_ireturn dX11_undo_15 rfl hQ
set_option maxRecDepth 20000 in
theorem Stays_save_x_L2_ok {X : qX} (hL : ∀ c, c < 93 → c ∈ qLs X) (d : Nat) {Q : Option qV → qSto → Prop} : ∀ (n : Nat) (x1 : Nat) (x2 : Int) (S : qSto) (o : qSto), Stays_save_x_L2 n x1 x2 S = some o → (qW X d yX7_save cX7_save 3 none 51 [] [] o Q) → qW X d yX7_save cX7_save 3 none 2 [(0, qr 6), (1, qr x1), (2, qi x2)] [] S Q := by
  intro n
  induction n with
  | zero =>
    intro x1 x2 S o h
    simp [Stays_save_x_L2] at h
  | succ n ih =>
    intro x1 x2 S o h hE
    rw [Stays_save_x_L2] at h
    refine q_iload_n dX7_save_2 rfl rfl ?_
    refine q_bipush dX7_save_3 (by decide) rfl ?_
    obtain ⟨c1718, h⟩ := qk_some h
    refine q_icmp_ge (tgt := 51) dX7_save_5 (by decide) rfl (qRb_R c1718) ⟨by decide, by decide⟩ (fun g => ?_) (fun g => ?_)
    · rw [if_pos (show 14 ≤ x2 from g)] at h
      cases h
      exact q_pick [] rfl (hE)
    · rw [if_neg (show ¬ (14 ≤ x2) from g)] at h
      refine q_aload_n dX7_save_8 rfl rfl ?_
      refine q_iload_n dX7_save_9 rfl rfl ?_
      refine q_iconst dX7_save_10 rfl rfl ?_
      refine q_imul dX7_save_11 rfl ?_
      refine q_aload_n dX7_save_12 rfl rfl ?_
      refine q_getA dX7_save_13 fl_X7_9 (hL 6 (by decide)) sh_6 (by decide) rfl rfl ?_
      refine q_iload_n dX7_save_16 rfl rfl ?_
      obtain ⟨c1719, h⟩ := qk_some h
      refine q_iaload dX7_save_17 (hL 37 (by decide)) sh_37 (qIx_0 c1719) (qIx_1 c1719) rfl ?_
      obtain ⟨c1720, h⟩ := qk_some h
      obtain ⟨c1721, h⟩ := qk_some h
      refine q_iastore dX7_save_18 (hL _ (qAr_L c1720)) (qAr_S c1720) (qIx_0 c1721) (qIx_1 c1721) rfl ?_
      refine q_aload_n dX7_save_19 rfl rfl ?_
      refine q_iload_n dX7_save_20 rfl rfl ?_
      refine q_iconst dX7_save_21 rfl rfl ?_
      refine q_imul dX7_save_22 rfl ?_
      refine q_iconst dX7_save_23 rfl rfl ?_
      refine q_iadd dX7_save_24 rfl ?_
      refine q_aload_n dX7_save_25 rfl rfl ?_
      refine q_getA dX7_save_26 fl_X7_18 (hL 6 (by decide)) sh_6 (by decide) rfl rfl ?_
      refine q_iload_n dX7_save_29 rfl rfl ?_
      obtain ⟨c1722, h⟩ := qk_some h
      refine q_iaload dX7_save_30 (hL 39 (by decide)) sh_39 (qIx_0 c1722) (qIx_1 c1722) rfl ?_
      obtain ⟨c1723, h⟩ := qk_some h
      obtain ⟨c1724, h⟩ := qk_some h
      refine q_iastore dX7_save_31 (hL _ (qAr_L c1723)) (qAr_S c1723) (qIx_0 c1724) (qIx_1 c1724) rfl ?_
      refine q_aload_n dX7_save_32 rfl rfl ?_
      refine q_iload_n dX7_save_33 rfl rfl ?_
      refine q_iconst dX7_save_34 rfl rfl ?_
      refine q_imul dX7_save_35 rfl ?_
      refine q_iconst dX7_save_36 rfl rfl ?_
      refine q_iadd dX7_save_37 rfl ?_
      refine q_aload_n dX7_save_38 rfl rfl ?_
      refine q_getA dX7_save_39 fl_X7_21 (hL 6 (by decide)) sh_6 (by decide) rfl rfl ?_
      refine q_iload_n dX7_save_42 rfl rfl ?_
      obtain ⟨c1725, h⟩ := qk_some h
      refine q_iaload dX7_save_43 (hL 40 (by decide)) sh_40 (qIx_0 c1725) (qIx_1 c1725) rfl ?_
      obtain ⟨c1726, h⟩ := qk_some h
      obtain ⟨c1727, h⟩ := qk_some h
      refine q_iastore dX7_save_44 (hL _ (qAr_L c1726)) (qAr_S c1726) (qIx_0 c1727) (qIx_1 c1727) rfl ?_
      refine q_iinc (lv' := [(2, qi (x2 + 1)), (0, qr 6), (1, qr x1)]) dX7_save_45 (by decide) rfl rfl rfl ?_
      refine q_goto (pc' := 2) dX7_save_48 (by decide) ?_
      exact q_pick [1, 2, 0] rfl (ih x1 (x2 + 1) _ _ h hE)
set_option maxRecDepth 20000 in
theorem Stays_save_x_ok {X : qX} (hL : ∀ c, c < 93 → c ∈ qLs X) (d : Nat) (a1 : Nat) (S : qSto) (o : qSto) (h : Stays_save_x a1 S = some o) (Q : Option qV → qSto → Prop) (hQ : Q none o) : qC X d yX7_save cX7_save 3 none [qr 6, qr a1] S Q := by
  refine q_entry (lv := [(0, qr 6), (1, qr a1)]) pn_X7 (Nat.le_of_ble_eq_true rfl) rfl ?_
  unfold Stays_save_x at h
  refine q_iconst dX7_save_0 rfl rfl ?_
  refine q_istore_n (lv' := [(2, qi 0), (0, qr 6), (1, qr a1)]) dX7_save_1 (by decide) rfl rfl ?_
  obtain ⟨q1728, h1729, h⟩ := Option.bind_eq_some_iff.mp h
  refine q_pick [1, 2, 0] rfl (Stays_save_x_L2_ok hL d qF a1 0 _ _ h1729 ?_)
  cases h
  exact q_return dX7_save_51 rfl hQ
set_option maxRecDepth 20000 in
theorem C_mark_ok {X : qX} (hL : ∀ c, c < 93 → c ∈ qLs X) (d : Nat) (a1 : Int) (S : qSto) (o : (Int × qSto)) (h : C_mark a1 S = some o) (Q : Option qV → qSto → Prop) (hQ : Q (some (qi o.1)) o.2) : qC X (d + 2) yX11_mark cX11_mark 2 (some .int) [qr 0, qi a1] S Q := by
  refine q_entry (lv := [(0, qr 0), (1, qi a1)]) pn_X11 (Nat.le_of_ble_eq_true rfl) rfl ?_
  unfold C_mark at h
  refine q_iload_n dX11_mark_0 rfl rfl ?_
  obtain ⟨c1715, h⟩ := qk_some h
  refine q_if_lt (tgt := 9) dX11_mark_1 (by decide) rfl (qRb_R c1715)  (fun g => ?_) (fun g => ?_)
  · rw [if_pos (show a1 < 0 from g)] at h
    refine q_iconst dX11_mark_9 rfl rfl ?_
    cases h
    exact q_ireturn dX11_mark_10 rfl hQ
  · rw [if_neg (show ¬ (a1 < 0) from g)] at h
    refine q_iload_n dX11_mark_4 rfl rfl ?_
    refine q_iconst dX11_mark_5 rfl rfl ?_
    obtain ⟨c1716, h⟩ := qk_some h
    refine q_icmp_lt (tgt := 11) dX11_mark_6 (by decide) rfl (qRb_R c1716) ⟨by decide, by decide⟩ (fun g => ?_) (fun g => ?_)
    · rw [if_pos (show a1 < 4 from g)] at h
      refine q_aload_n dX11_mark_11 rfl rfl ?_
      refine q_getA dX11_mark_12 fl_X11_49 (hL 0 (by decide)) sh_0 (by decide) rfl rfl ?_
      refine q_aload_n dX11_mark_15 rfl rfl ?_
      refine q_getA dX11_mark_16 fl_X11_99 (hL 0 (by decide)) sh_0 (by decide) rfl rfl ?_
      refine q_getA dX11_mark_19 fl_X11_420 (hL 12 (by decide)) sh_12 (by decide) rfl rfl ?_
      refine q_iload_n dX11_mark_22 rfl rfl ?_
      obtain ⟨c1717, h⟩ := qk_some h
      refine q_aaload dX11_mark_23 (hL 64 (by decide)) sh_64 (qIx_0 c1717) (qIx_1 c1717) rfl ?_
      obtain ⟨q1730, h1731, h⟩ := Option.bind_eq_some_iff.mp h
      refine q_callVv (as := [qr (qrf 64 (Int.toNat a1))]) (c := 6) dX11_mark_24 ml_X11_295 rfl rfl (hL 6 (by decide)) sh_6 rfl rfl (Nat.le_of_ble_eq_true rfl) (Stays_save_x_ok hL (d + 1) (qrf 64 (Int.toNat a1)) _ _ h1731) rfl ?_
      refine q_aload_n dX11_mark_27 rfl rfl ?_
      refine q_getA dX11_mark_28 fl_X11_99 (hL 0 (by decide)) sh_0 (by decide) rfl rfl ?_
      refine q_dupA dX11_mark_31 rfl ?_
      refine q_getI dX11_mark_32 fl_X11_432 (hL 12 (by decide)) sh_12 (by decide) rfl rfl ?_
      refine q_iconst dX11_mark_35 rfl rfl ?_
      refine q_iload_n dX11_mark_36 rfl rfl ?_
      refine q_ishl dX11_mark_37 rfl ?_
      refine q_ior dX11_mark_38 rfl ?_
      refine q_putI dX11_mark_39 fl_X11_432 (hL 12 (by decide)) sh_12 (by decide) pf_2_4 pt_2_4 rfl rfl ?_
      refine q_aload_n dX11_mark_42 rfl rfl ?_
      refine q_getA dX11_mark_43 fl_X11_49 (hL 0 (by decide)) sh_0 (by decide) rfl rfl ?_
      obtain ⟨q1732, h1733, h⟩ := Option.bind_eq_some_iff.mp h
      refine q_callVi (as := []) (c := 6) dX11_mark_46 ml_X11_161 rfl rfl (hL 6 (by decide)) sh_6 rfl rfl (Nat.le_of_ble_eq_true rfl) (Stays_howMany_ok hL d _ _ h1733) rfl ?_
      cases h
      exact q_ireturn dX11_mark_49 rfl hQ
    · rw [if_neg (show ¬ (a1 < 4) from g)] at h
      refine q_iconst dX11_mark_9 rfl rfl ?_
      cases h
      exact q_ireturn dX11_mark_10 rfl hQ
set_option maxRecDepth 20000 in
theorem Stays_load_x_L6_ok {X : qX} (hL : ∀ c, c < 93 → c ∈ qLs X) (d : Nat) {Q : Option qV → qSto → Prop} : ∀ (n : Nat) (x1 : Nat) (x2 : Int) (S : qSto) (o : qSto), Stays_load_x_L6 n x1 x2 S = some o → (qW X (d + 4) yX7_load cX7_load 3 none 57 [] [] o Q) → qW X (d + 4) yX7_load cX7_load 3 none 6 [(0, qr 6), (1, qr x1), (2, qi x2)] [] S Q := by
  intro n
  induction n with
  | zero =>
    intro x1 x2 S o h
    simp [Stays_load_x_L6] at h
  | succ n ih =>
    intro x1 x2 S o h hE
    rw [Stays_load_x_L6] at h
    refine q_iload_n dX7_load_6 rfl rfl ?_
    refine q_aload_n dX7_load_7 rfl rfl ?_
    refine q_getA dX7_load_8 fl_X7_36 (hL 6 (by decide)) sh_6 (by decide) rfl rfl ?_
    refine q_getI dX7_load_11 fl_X7_44 (hL 2 (by decide)) sh_2 (by decide) rfl rfl ?_
    obtain ⟨c1740, h⟩ := qk_some h
    obtain ⟨c1741, h⟩ := qk_some h
    refine q_icmp_ge (tgt := 57) dX7_load_14 (by decide) rfl (qRb_R c1740) (qRb_R c1741) (fun g => ?_) (fun g => ?_)
    · rw [if_pos (show (S 2 12) ≤ x2 from g)] at h
      cases h
      exact q_pick [] rfl (hE)
    · rw [if_neg (show ¬ ((S 2 12) ≤ x2) from g)] at h
      refine q_aload_n dX7_load_17 rfl rfl ?_
      refine q_iload_n dX7_load_18 rfl rfl ?_
      refine q_iconst dX7_load_19 rfl rfl ?_
      refine q_imul dX7_load_20 rfl ?_
      refine q_iconst dX7_load_21 rfl rfl ?_
      refine q_iadd dX7_load_22 rfl ?_
      obtain ⟨c1742, h⟩ := qk_some h
      obtain ⟨c1743, h⟩ := qk_some h
      refine q_iaload dX7_load_23 (hL _ (qAr_L c1742)) (qAr_S c1742) (qIx_0 c1743) (qIx_1 c1743) rfl ?_
      refine q_jn (G := fun (t1753 : qSto) => qW X (d + 4) yX7_load cX7_load 3 none 51 [(0, qr 6), (1, qr x1), (2, qi x2)] [] t1753 Q) h (fun t1753 h => ?_) (fun t1753 h hk3835 => ?_)
      · try dsimp only at h
        refine q_iinc (lv' := [(2, qi (x2 + 1)), (0, qr 6), (1, qr x1)]) dX7_load_51 (by decide) rfl rfl rfl ?_
        refine q_goto (pc' := 6) dX7_load_54 (by decide) ?_
        exact q_pick [1, 2, 0] rfl (ih x1 (x2 + 1) _ _ h hE)
      · skip
        obtain ⟨c1744, h⟩ := qk_some h
        refine q_if_le (tgt := 51) dX7_load_24 (by decide) rfl (qRb_R c1744)  (fun g => ?_) (fun g => ?_)
        · rw [if_pos (show (S x1 (Int.toNat ((x2 * 3) + 2))) ≤ 0 from g)] at h
          cases h
          exact q_pick [0, 1, 2] rfl hk3835
        · rw [if_neg (show ¬ ((S x1 (Int.toNat ((x2 * 3) + 2))) ≤ 0) from g)] at h
          refine q_aload_n dX7_load_27 rfl rfl ?_
          refine q_iload_n dX7_load_28 rfl rfl ?_
          refine q_aload_n dX7_load_29 rfl rfl ?_
          refine q_iload_n dX7_load_30 rfl rfl ?_
          refine q_iconst dX7_load_31 rfl rfl ?_
          refine q_imul dX7_load_32 rfl ?_
          obtain ⟨c1745, h⟩ := qk_some h
          obtain ⟨c1746, h⟩ := qk_some h
          refine q_iaload dX7_load_33 (hL _ (qAr_L c1745)) (qAr_S c1745) (qIx_0 c1746) (qIx_1 c1746) rfl ?_
          refine q_aload_n dX7_load_34 rfl rfl ?_
          refine q_iload_n dX7_load_35 rfl rfl ?_
          refine q_iconst dX7_load_36 rfl rfl ?_
          refine q_imul dX7_load_37 rfl ?_
          refine q_iconst dX7_load_38 rfl rfl ?_
          refine q_iadd dX7_load_39 rfl ?_
          obtain ⟨c1747, h⟩ := qk_some h
          obtain ⟨c1748, h⟩ := qk_some h
          refine q_iaload dX7_load_40 (hL _ (qAr_L c1747)) (qAr_S c1747) (qIx_0 c1748) (qIx_1 c1748) rfl ?_
          refine q_aload_n dX7_load_41 rfl rfl ?_
          refine q_iload_n dX7_load_42 rfl rfl ?_
          refine q_iconst dX7_load_43 rfl rfl ?_
          refine q_imul dX7_load_44 rfl ?_
          refine q_iconst dX7_load_45 rfl rfl ?_
          refine q_iadd dX7_load_46 rfl ?_
          obtain ⟨c1749, h⟩ := qk_some h
          obtain ⟨c1750, h⟩ := qk_some h
          refine q_iaload dX7_load_47 (hL _ (qAr_L c1749)) (qAr_S c1749) (qIx_0 c1750) (qIx_1 c1750) rfl ?_
          obtain ⟨q1751, h1752, h⟩ := Option.bind_eq_some_iff.mp h
          refine q_callVv (as := [qi x2, qi (S x1 (Int.toNat (x2 * 3))), qi (S x1 (Int.toNat ((x2 * 3) + 1))), qi (S x1 (Int.toNat ((x2 * 3) + 2)))]) (c := 6) dX7_load_48 ml_X7_92 rfl rfl (hL 6 (by decide)) sh_6 rfl rfl (Nat.le_of_ble_eq_true rfl) (Stays_lay_ok hL d x2 (S x1 (Int.toNat (x2 * 3))) (S x1 (Int.toNat ((x2 * 3) + 1))) (S x1 (Int.toNat ((x2 * 3) + 2))) _ _ h1752) rfl ?_
          cases h
          exact q_pick [0, 1, 2] rfl hk3835
set_option maxRecDepth 20000 in
theorem Stays_load_x_ok {X : qX} (hL : ∀ c, c < 93 → c ∈ qLs X) (d : Nat) (a1 : Nat) (S : qSto) (o : qSto) (h : Stays_load_x a1 S = some o) (Q : Option qV → qSto → Prop) (hQ : Q none o) : qC X (d + 4) yX7_load cX7_load 3 none [qr 6, qr a1] S Q := by
  refine q_entry (lv := [(0, qr 6), (1, qr a1)]) pn_X7 (Nat.le_of_ble_eq_true rfl) rfl ?_
  unfold Stays_load_x at h
  refine q_aload_n dX7_load_0 rfl rfl ?_
  obtain ⟨q1738, h1739, h⟩ := Option.bind_eq_some_iff.mp h
  refine q_callVv (as := []) (c := 6) dX7_load_1 ml_X7_102 rfl rfl (hL 6 (by decide)) sh_6 rfl rfl (Nat.le_of_ble_eq_true rfl) (Stays_clear_ok hL (d + 2) _ _ h1739) rfl ?_
  refine q_iconst dX7_load_4 rfl rfl ?_
  refine q_istore_n (lv' := [(2, qi 0), (0, qr 6), (1, qr a1)]) dX7_load_5 (by decide) rfl rfl ?_
  obtain ⟨q1754, h1755, h⟩ := Option.bind_eq_some_iff.mp h
  refine q_pick [1, 2, 0] rfl (Stays_load_x_L6_ok hL d qF a1 0 _ _ h1755 ?_)
  cases h
  exact q_return dX7_load_57 rfl hQ
set_option maxRecDepth 20000 in
theorem C_back_ok {X : qX} (hL : ∀ c, c < 93 → c ∈ qLs X) (d : Nat) (a1 : Int) (S : qSto) (o : (Int × qSto)) (h : C_back a1 S = some o) (Q : Option qV → qSto → Prop) (hQ : Q (some (qi o.1)) o.2) : qC X (d + 5) yX11_back cX11_back 2 (some .int) [qr 0, qi a1] S Q := by
  refine q_entry (lv := [(0, qr 0), (1, qi a1)]) pn_X11 (Nat.le_of_ble_eq_true rfl) rfl ?_
  unfold C_back at h
  refine q_aload_n dX11_back_0 rfl rfl ?_
  refine q_getA dX11_back_1 fl_X11_99 (hL 0 (by decide)) sh_0 (by decide) rfl rfl ?_
  refine q_iload_n dX11_back_4 rfl rfl ?_
  obtain ⟨q1734, h1735, h⟩ := Option.bind_eq_some_iff.mp h
  refine q_callVi (as := [qi a1]) (c := 12) dX11_back_5 ml_X11_417 rfl rfl (hL 12 (by decide)) sh_12 rfl rfl (Nat.le_of_ble_eq_true rfl) (History_isMade_ok hL (d + 4) a1 _ _ h1735) rfl ?_
  obtain ⟨c1736, h⟩ := qk_some h
  refine q_if_ne (tgt := 13) dX11_back_8 (by decide) rfl (qRb_R c1736)  (fun g => ?_) (fun g => ?_)
  · rw [if_neg (show ¬ (q1734.1 = 0) from g)] at h
    refine q_aload_n dX11_back_13 rfl rfl ?_
    refine q_getA dX11_back_14 fl_X11_49 (hL 0 (by decide)) sh_0 (by decide) rfl rfl ?_
    refine q_aload_n dX11_back_17 rfl rfl ?_
    refine q_getA dX11_back_18 fl_X11_99 (hL 0 (by decide)) sh_0 (by decide) rfl rfl ?_
    refine q_getA dX11_back_21 fl_X11_420 (hL 12 (by decide)) sh_12 (by decide) rfl rfl ?_
    refine q_iload_n dX11_back_24 rfl rfl ?_
    obtain ⟨c1737, h⟩ := qk_some h
    refine q_aaload dX11_back_25 (hL 64 (by decide)) sh_64 (qIx_0 c1737) (qIx_1 c1737) rfl ?_
    obtain ⟨q1756, h1757, h⟩ := Option.bind_eq_some_iff.mp h
    refine q_callVv (as := [qr (qrf 64 (Int.toNat a1))]) (c := 6) dX11_back_26 ml_X11_335 rfl rfl (hL 6 (by decide)) sh_6 rfl rfl (Nat.le_of_ble_eq_true rfl) (Stays_load_x_ok hL d (qrf 64 (Int.toNat a1)) _ _ h1757) rfl ?_
    refine q_aload_n dX11_back_29 rfl rfl ?_
    refine q_getA dX11_back_30 fl_X11_99 (hL 0 (by decide)) sh_0 (by decide) rfl rfl ?_
    refine q_iconst dX11_back_33 rfl rfl ?_
    refine q_putI dX11_back_34 fl_X11_165 (hL 12 (by decide)) sh_12 (by decide) pf_2_2 pt_2_2 rfl rfl ?_
    refine q_aload_n dX11_back_37 rfl rfl ?_
    refine q_getA dX11_back_38 fl_X11_92 (hL 0 (by decide)) sh_0 (by decide) rfl rfl ?_
    refine q_iconst dX11_back_41 rfl rfl ?_
    refine q_putZ dX11_back_42 fl_X11_136 (hL 11 (by decide)) sh_11 (by decide) pf_1_3 pt_1_3 rfl (by decide) rfl ?_
    refine q_aload_n dX11_back_45 rfl rfl ?_
    refine q_getA dX11_back_46 fl_X11_49 (hL 0 (by decide)) sh_0 (by decide) rfl rfl ?_
    obtain ⟨q1758, h1759, h⟩ := Option.bind_eq_some_iff.mp h
    refine q_callVi (as := []) (c := 6) dX11_back_49 ml_X11_161 rfl rfl (hL 6 (by decide)) sh_6 rfl rfl (Nat.le_of_ble_eq_true rfl) (Stays_howMany_ok hL (d + 3) _ _ h1759) rfl ?_
    cases h
    exact q_ireturn dX11_back_52 rfl hQ
  · rw [if_pos (show q1734.1 = 0 from g)] at h
    refine q_iconst dX11_back_11 rfl rfl ?_
    cases h
    exact q_ireturn dX11_back_12 rfl hQ
set_option maxRecDepth 20000 in
theorem M_four_L2_ok {X : qX} (hL : ∀ c, c < 93 → c ∈ qLs X) (d : Nat) {Q : Option qV → qSto → Prop} : ∀ (n : Nat) (x1 : Int) (x2 : Int) (S : qSto) (o : qSto), M_four_L2 n x1 x2 S = some o → (qW X d yX12_four cX12_four 3 none 41 [] [] o Q) → qW X d yX12_four cX12_four 3 none 2 [(0, qr 70), (1, qi x1), (2, qi x2)] [] S Q := by
  intro n
  induction n with
  | zero =>
    intro x1 x2 S o h
    simp [M_four_L2] at h
  | succ n ih =>
    intro x1 x2 S o h hE
    rw [M_four_L2] at h
    refine q_iload_n dX12_four_2 rfl rfl ?_
    obtain ⟨c1761, h⟩ := qk_some h
    refine q_if_lt (tgt := 41) dX12_four_3 (by decide) rfl (qRb_R c1761)  (fun g => ?_) (fun g => ?_)
    · rw [if_pos (show x2 < 0 from g)] at h
      cases h
      exact q_pick [] rfl (hE)
    · rw [if_neg (show ¬ (x2 < 0) from g)] at h
      refine q_aload_n dX12_four_6 rfl rfl ?_
      refine q_getA dX12_four_7 fl_X12_23 (hL 70 (by decide)) sh_70 (by decide) rfl rfl ?_
      refine q_aload_n dX12_four_10 rfl rfl ?_
      refine q_getI dX12_four_11 fl_X12_88 (hL 70 (by decide)) sh_70 (by decide) rfl rfl ?_
      refine q_iload_n dX12_four_14 rfl rfl ?_
      refine q_bipush dX12_four_15 (by decide) rfl ?_
      refine q_iload_n dX12_four_17 rfl rfl ?_
      refine q_imul dX12_four_18 rfl ?_
      refine q_ishr dX12_four_19 rfl ?_
      refine q_sipush dX12_four_20 (by decide) rfl ?_
      refine q_iand dX12_four_23 rfl ?_
      obtain ⟨c1762, h⟩ := qk_some h
      refine q_iastore dX12_four_24 (hL 75 (by decide)) sh_75 (qIx_0 c1762) (qIx_1 c1762) rfl ?_
      refine q_aload_n dX12_four_25 rfl rfl ?_
      refine q_aload_n dX12_four_26 rfl rfl ?_
      refine q_getI dX12_four_27 fl_X12_88 (hL 70 (by decide)) sh_70 (by decide) rfl rfl ?_
      refine q_iconst dX12_four_30 rfl rfl ?_
      refine q_iadd dX12_four_31 rfl ?_
      refine q_putI dX12_four_32 fl_X12_88 (hL 70 (by decide)) sh_70 (by decide) pf_12_5 pt_12_5 rfl rfl ?_
      refine q_iinc (lv' := [(2, qi (x2 + (-1))), (0, qr 70), (1, qi x1)]) dX12_four_35 (by decide) rfl rfl rfl ?_
      refine q_goto (pc' := 2) dX12_four_38 (by decide) ?_
      exact q_pick [1, 2, 0] rfl (ih x1 (x2 + (-1)) _ _ h hE)
set_option maxRecDepth 20000 in
theorem M_four_ok {X : qX} (hL : ∀ c, c < 93 → c ∈ qLs X) (d : Nat) (a1 : Int) (S : qSto) (o : qSto) (h : M_four a1 S = some o) (Q : Option qV → qSto → Prop) (hQ : Q none o) : qC X d yX12_four cX12_four 3 none [qr 70, qi a1] S Q := by
  refine q_entry (lv := [(0, qr 70), (1, qi a1)]) pn_X12 (Nat.le_of_ble_eq_true rfl) rfl ?_
  unfold M_four at h
  refine q_iconst dX12_four_0 rfl rfl ?_
  refine q_istore_n (lv' := [(2, qi 3), (0, qr 70), (1, qi a1)]) dX12_four_1 (by decide) rfl rfl ?_
  obtain ⟨q1763, h1764, h⟩ := Option.bind_eq_some_iff.mp h
  refine q_pick [1, 2, 0] rfl (M_four_L2_ok hL d qF a1 3 _ _ h1764 ?_)
  cases h
  exact q_return dX12_four_41 rfl hQ
set_option maxRecDepth 20000 in
theorem M_feed_ok {X : qX} (hL : ∀ c, c < 93 → c ∈ qLs X) (d : Nat) (a1 : Int) (a2 : Int) (a3 : Int) (a4 : Int) (a5 : Int) (S : qSto) (o : (Int × qSto)) (h : M_feed a1 a2 a3 a4 a5 S = some o) (Q : Option qV → qSto → Prop) (hQ : Q (some (qi o.1)) o.2) : qC X (d + 1) yX12_feed cX12_feed 6 (some .int) [qr 70, qi a1, qi a2, qi a3, qi a4, qi a5] S Q := by
  refine q_entry (lv := [(0, qr 70), (1, qi a1), (2, qi a2), (3, qi a3), (4, qi a4), (5, qi a5)]) pn_X12 (Nat.le_of_ble_eq_true rfl) rfl ?_
  unfold M_feed at h
  refine q_aload_n dX12_feed_0 rfl rfl ?_
  refine q_getI dX12_feed_1 fl_X12_88 (hL 70 (by decide)) sh_70 (by decide) rfl rfl ?_
  refine q_bipush dX12_feed_4 (by decide) rfl ?_
  refine q_iadd dX12_feed_6 rfl ?_
  refine q_sipush dX12_feed_7 (by decide) rfl ?_
  obtain ⟨c1760, h⟩ := qk_some h
  refine q_icmp_le (tgt := 15) dX12_feed_10 (by decide) rfl (qRb_R c1760) ⟨by decide, by decide⟩ (fun g => ?_) (fun g => ?_)
  · rw [if_pos (show ((S 70 5) + 20) ≤ 1200 from g)] at h
    refine q_aload_n dX12_feed_15 rfl rfl ?_
    refine q_iload_n dX12_feed_16 rfl rfl ?_
    obtain ⟨q1765, h1766, h⟩ := Option.bind_eq_some_iff.mp h
    refine q_callVv (as := [qi a1]) (c := 70) dX12_feed_17 ml_X12_91 rfl rfl (hL 70 (by decide)) sh_70 rfl rfl (Nat.le_of_ble_eq_true rfl) (M_four_ok hL d a1 _ _ h1766) rfl ?_
    refine q_aload_n dX12_feed_20 rfl rfl ?_
    refine q_iload_n dX12_feed_21 rfl rfl ?_
    obtain ⟨q1767, h1768, h⟩ := Option.bind_eq_some_iff.mp h
    refine q_callVv (as := [qi a2]) (c := 70) dX12_feed_22 ml_X12_91 rfl rfl (hL 70 (by decide)) sh_70 rfl rfl (Nat.le_of_ble_eq_true rfl) (M_four_ok hL d a2 _ _ h1768) rfl ?_
    refine q_aload_n dX12_feed_25 rfl rfl ?_
    refine q_iload_n dX12_feed_26 rfl rfl ?_
    obtain ⟨q1769, h1770, h⟩ := Option.bind_eq_some_iff.mp h
    refine q_callVv (as := [qi a3]) (c := 70) dX12_feed_27 ml_X12_91 rfl rfl (hL 70 (by decide)) sh_70 rfl rfl (Nat.le_of_ble_eq_true rfl) (M_four_ok hL d a3 _ _ h1770) rfl ?_
    refine q_aload_n dX12_feed_30 rfl rfl ?_
    refine q_iload dX12_feed_31 rfl rfl ?_
    obtain ⟨q1771, h1772, h⟩ := Option.bind_eq_some_iff.mp h
    refine q_callVv (as := [qi a4]) (c := 70) dX12_feed_33 ml_X12_91 rfl rfl (hL 70 (by decide)) sh_70 rfl rfl (Nat.le_of_ble_eq_true rfl) (M_four_ok hL d a4 _ _ h1772) rfl ?_
    refine q_aload_n dX12_feed_36 rfl rfl ?_
    refine q_iload dX12_feed_37 rfl rfl ?_
    obtain ⟨q1773, h1774, h⟩ := Option.bind_eq_some_iff.mp h
    refine q_callVv (as := [qi a5]) (c := 70) dX12_feed_39 ml_X12_91 rfl rfl (hL 70 (by decide)) sh_70 rfl rfl (Nat.le_of_ble_eq_true rfl) (M_four_ok hL d a5 _ _ h1774) rfl ?_
    refine q_aload_n dX12_feed_42 rfl rfl ?_
    refine q_getI dX12_feed_43 fl_X12_88 (hL 70 (by decide)) sh_70 (by decide) rfl rfl ?_
    cases h
    exact q_ireturn dX12_feed_46 rfl hQ
  · rw [if_neg (show ¬ (((S 70 5) + 20) ≤ 1200) from g)] at h
    refine q_iconst dX12_feed_13 rfl rfl ?_
    cases h
    exact q_ireturn dX12_feed_14 rfl hQ
set_option maxRecDepth 20000 in
theorem M_blank_L2_ok {X : qX} (hL : ∀ c, c < 93 → c ∈ qLs X) (d : Nat) {Q : Option qV → qSto → Prop} : ∀ (n : Nat) (x1 : Int) (S : qSto) (o : qSto), M_blank_L2 n x1 S = some o → (qW X d yX12_blank cX12_blank 2 none 22 [(0, qr 70)] [] o Q) → qW X d yX12_blank cX12_blank 2 none 2 [(0, qr 70), (1, qi x1)] [] S Q := by
  intro n
  induction n with
  | zero =>
    intro x1 S o h
    simp [M_blank_L2] at h
  | succ n ih =>
    intro x1 S o h hE
    rw [M_blank_L2] at h
    refine q_iload_n dX12_blank_2 rfl rfl ?_
    refine q_sipush dX12_blank_3 (by decide) rfl ?_
    obtain ⟨c1778, h⟩ := qk_some h
    refine q_icmp_ge (tgt := 22) dX12_blank_6 (by decide) rfl (qRb_R c1778) ⟨by decide, by decide⟩ (fun g => ?_) (fun g => ?_)
    · rw [if_pos (show 250 ≤ x1 from g)] at h
      cases h
      exact q_pick [0] rfl (hE)
    · rw [if_neg (show ¬ (250 ≤ x1) from g)] at h
      refine q_aload_n dX12_blank_9 rfl rfl ?_
      refine q_getA dX12_blank_10 fl_X12_7 (hL 70 (by decide)) sh_70 (by decide) rfl rfl ?_
      refine q_iload_n dX12_blank_13 rfl rfl ?_
      refine q_iconst dX12_blank_14 rfl rfl ?_
      obtain ⟨c1779, h⟩ := qk_some h
      refine q_iastore dX12_blank_15 (hL 71 (by decide)) sh_71 (qIx_0 c1779) (qIx_1 c1779) rfl ?_
      refine q_iinc (lv' := [(1, qi (x1 + 1)), (0, qr 70)]) dX12_blank_16 (by decide) rfl rfl rfl ?_
      refine q_goto (pc' := 2) dX12_blank_19 (by decide) ?_
      exact q_pick [1, 0] rfl (ih (x1 + 1) _ _ h hE)
set_option maxRecDepth 20000 in
theorem M_blank_L24_ok {X : qX} (hL : ∀ c, c < 93 → c ∈ qLs X) (d : Nat) {Q : Option qV → qSto → Prop} : ∀ (n : Nat) (x1 : Int) (S : qSto) (o : qSto), M_blank_L24 n x1 S = some o → (qW X d yX12_blank cX12_blank 2 none 46 [(0, qr 70)] [] o Q) → qW X d yX12_blank cX12_blank 2 none 24 [(0, qr 70), (1, qi x1)] [] S Q := by
  intro n
  induction n with
  | zero =>
    intro x1 S o h
    simp [M_blank_L24] at h
  | succ n ih =>
    intro x1 S o h hE
    rw [M_blank_L24] at h
    refine q_iload_n dX12_blank_24 rfl rfl ?_
    refine q_bipush dX12_blank_25 (by decide) rfl ?_
    obtain ⟨c1782, h⟩ := qk_some h
    refine q_icmp_ge (tgt := 46) dX12_blank_27 (by decide) rfl (qRb_R c1782) ⟨by decide, by decide⟩ (fun g => ?_) (fun g => ?_)
    · rw [if_pos (show 21 ≤ x1 from g)] at h
      cases h
      exact q_pick [0] rfl (hE)
    · rw [if_neg (show ¬ (21 ≤ x1) from g)] at h
      refine q_aload_n dX12_blank_30 rfl rfl ?_
      refine q_getA dX12_blank_31 fl_X12_7 (hL 70 (by decide)) sh_70 (by decide) rfl rfl ?_
      refine q_bipush dX12_blank_34 (by decide) rfl ?_
      refine q_iload_n dX12_blank_36 rfl rfl ?_
      refine q_iadd dX12_blank_37 rfl ?_
      refine q_iconst dX12_blank_38 rfl rfl ?_
      obtain ⟨c1783, h⟩ := qk_some h
      refine q_iastore dX12_blank_39 (hL 71 (by decide)) sh_71 (qIx_0 c1783) (qIx_1 c1783) rfl ?_
      refine q_iinc (lv' := [(1, qi (x1 + 1)), (0, qr 70)]) dX12_blank_40 (by decide) rfl rfl rfl ?_
      refine q_goto (pc' := 24) dX12_blank_43 (by decide) ?_
      exact q_pick [1, 0] rfl (ih (x1 + 1) _ _ h hE)
set_option maxRecDepth 20000 in
theorem M_blank_ok {X : qX} (hL : ∀ c, c < 93 → c ∈ qLs X) (d : Nat) (S : qSto) (o : qSto) (h : M_blank S = some o) (Q : Option qV → qSto → Prop) (hQ : Q none o) : qC X d yX12_blank cX12_blank 2 none [qr 70] S Q := by
  refine q_entry (lv := [(0, qr 70)]) pn_X12 (Nat.le_of_ble_eq_true rfl) rfl ?_
  unfold M_blank at h
  refine q_iconst dX12_blank_0 rfl rfl ?_
  refine q_istore_n (lv' := [(1, qi 0), (0, qr 70)]) dX12_blank_1 (by decide) rfl rfl ?_
  obtain ⟨q1780, h1781, h⟩ := Option.bind_eq_some_iff.mp h
  refine q_pick [1, 0] rfl (M_blank_L2_ok hL d qF 0 _ _ h1781 ?_)
  refine q_iconst dX12_blank_22 rfl rfl ?_
  refine q_istore_n (lv' := [(1, qi 0), (0, qr 70)]) dX12_blank_23 (by decide) rfl rfl ?_
  obtain ⟨q1784, h1785, h⟩ := Option.bind_eq_some_iff.mp h
  refine q_pick [1, 0] rfl (M_blank_L24_ok hL d qF 0 _ _ h1785 ?_)
  refine q_aload_n dX12_blank_46 rfl rfl ?_
  refine q_getA dX12_blank_47 fl_X12_7 (hL 70 (by decide)) sh_70 (by decide) rfl rfl ?_
  refine q_iconst dX12_blank_50 rfl rfl ?_
  refine q_sipush dX12_blank_51 (by decide) rfl ?_
  refine q_iastore dX12_blank_54 (hL 71 (by decide)) sh_71 (by decide) (by decide) rfl ?_
  refine q_aload_n dX12_blank_55 rfl rfl ?_
  refine q_getA dX12_blank_56 fl_X12_7 (hL 70 (by decide)) sh_70 (by decide) rfl rfl ?_
  refine q_iconst dX12_blank_59 rfl rfl ?_
  refine q_bipush dX12_blank_60 (by decide) rfl ?_
  refine q_iastore dX12_blank_62 (hL 71 (by decide)) sh_71 (by decide) (by decide) rfl ?_
  refine q_aload_n dX12_blank_63 rfl rfl ?_
  refine q_getA dX12_blank_64 fl_X12_7 (hL 70 (by decide)) sh_70 (by decide) rfl rfl ?_
  refine q_iconst dX12_blank_67 rfl rfl ?_
  refine q_bipush dX12_blank_68 (by decide) rfl ?_
  refine q_iastore dX12_blank_70 (hL 71 (by decide)) sh_71 (by decide) (by decide) rfl ?_
  refine q_aload_n dX12_blank_71 rfl rfl ?_
  refine q_iconst dX12_blank_72 rfl rfl ?_
  refine q_putI dX12_blank_73 fl_X12_185 (hL 70 (by decide)) sh_70 (by decide) pf_12_14 pt_12_14 rfl rfl ?_
  cases h
  exact q_return dX12_blank_76 rfl hQ
set_option maxRecDepth 20000 in
theorem M_byteAt_ok {X : qX} (hL : ∀ c, c < 93 → c ∈ qLs X) (d : Nat) (a1 : Int) (S : qSto) (o : (Int × qSto)) (h : M_byteAt a1 S = some o) (Q : Option qV → qSto → Prop) (hQ : Q (some (qi o.1)) o.2) : qC X d yX12_byteAt cX12_byteAt 2 (some .int) [qr 70, qi a1] S Q := by
  refine q_entry (lv := [(0, qr 70), (1, qi a1)]) pn_X12 (Nat.le_of_ble_eq_true rfl) rfl ?_
  unfold M_byteAt at h
  refine q_iload_n dX12_byteAt_0 rfl rfl ?_
  obtain ⟨c1788, h⟩ := qk_some h
  refine q_if_lt (tgt := 21) dX12_byteAt_1 (by decide) rfl (qRb_R c1788)  (fun g => ?_) (fun g => ?_)
  · rw [if_pos (show a1 < 0 from g)] at h
    refine q_iconst dX12_byteAt_21 rfl rfl ?_
    cases h
    exact q_ireturn dX12_byteAt_22 rfl hQ
  · rw [if_neg (show ¬ (a1 < 0) from g)] at h
    refine q_iload_n dX12_byteAt_4 rfl rfl ?_
    refine q_aload_n dX12_byteAt_5 rfl rfl ?_
    refine q_getI dX12_byteAt_6 fl_X12_107 (hL 70 (by decide)) sh_70 (by decide) rfl rfl ?_
    obtain ⟨c1789, h⟩ := qk_some h
    obtain ⟨c1790, h⟩ := qk_some h
    refine q_icmp_ge (tgt := 21) dX12_byteAt_9 (by decide) rfl (qRb_R c1789) (qRb_R c1790) (fun g => ?_) (fun g => ?_)
    · rw [if_pos (show (S 70 6) ≤ a1 from g)] at h
      refine q_iconst dX12_byteAt_21 rfl rfl ?_
      cases h
      exact q_ireturn dX12_byteAt_22 rfl hQ
    · rw [if_neg (show ¬ ((S 70 6) ≤ a1) from g)] at h
      refine q_aload_n dX12_byteAt_12 rfl rfl ?_
      refine q_getA dX12_byteAt_13 fl_X12_23 (hL 70 (by decide)) sh_70 (by decide) rfl rfl ?_
      refine q_iload_n dX12_byteAt_16 rfl rfl ?_
      obtain ⟨c1791, h⟩ := qk_some h
      refine q_iaload dX12_byteAt_17 (hL 75 (by decide)) sh_75 (qIx_0 c1791) (qIx_1 c1791) rfl ?_
      refine q_goto (pc' := 22) dX12_byteAt_18 (by decide) ?_
      cases h
      exact q_ireturn dX12_byteAt_22 rfl hQ
set_option maxRecDepth 20000 in
theorem M_in_ok {X : qX} (hL : ∀ c, c < 93 → c ∈ qLs X) (d : Nat) (a0 : Int) (a2 : Int) (a4 : Int) (S : qSto) (o : (Int × qSto)) (h : M_in a0 a2 a4 S = some o) (Q : Option qV → qSto → Prop) (hQ : Q (some (qi o.1)) o.2) : qC X d yX12_in cX12_in 6 (some .boolean) [ql a0, ql a2, ql a4] S Q := by
  refine q_entry (lv := [(0, ql a0), (2, ql a2), (4, ql a4)]) pn_X12 (Nat.le_of_ble_eq_true rfl) rfl ?_
  unfold M_in at h
  refine q_lload_n dX12_in_0 rfl rfl ?_
  refine q_lload_n dX12_in_1 rfl rfl ?_
  obtain ⟨c1804, h⟩ := qk_some h
  obtain ⟨c1805, h⟩ := qk_some h
  refine q_lcmp dX12_in_2 (qRLb_R c1804) (qRLb_R c1805) rfl ?_
  refine q_if_lt (tgt := 17) dX12_in_3 (by decide) rfl (q3_R _ _)  (fun g => ?_) (fun g => ?_)
  · rw [if_pos (show a0 < a2 from (q3_lt _ _).mp g)] at h
    refine q_iconst dX12_in_17 rfl rfl ?_
    cases h
    exact q_zreturn dX12_in_18 rfl (by decide) hQ
  · rw [if_neg (show ¬ (a0 < a2) from fun e => g ((q3_lt _ _).mpr e))] at h
    refine q_lload_n dX12_in_6 rfl rfl ?_
    refine q_lload dX12_in_7 rfl rfl ?_
    obtain ⟨c1806, h⟩ := qk_some h
    obtain ⟨c1807, h⟩ := qk_some h
    refine q_lcmp dX12_in_9 (qRLb_R c1806) (qRLb_R c1807) rfl ?_
    refine q_if_gt (tgt := 17) dX12_in_10 (by decide) rfl (q3_R _ _)  (fun g => ?_) (fun g => ?_)
    · rw [if_pos (show a4 < a0 from (q3_gt _ _).mp g)] at h
      refine q_iconst dX12_in_17 rfl rfl ?_
      cases h
      exact q_zreturn dX12_in_18 rfl (by decide) hQ
    · rw [if_neg (show ¬ (a4 < a0) from fun e => g ((q3_gt _ _).mpr e))] at h
      refine q_iconst dX12_in_13 rfl rfl ?_
      refine q_goto (pc' := 18) dX12_in_14 (by decide) ?_
      cases h
      exact q_zreturn dX12_in_18 rfl (by decide) hQ
set_option maxRecDepth 20000 in
theorem M_isLetter_ok {X : qX} (hL : ∀ c, c < 93 → c ∈ qLs X) (d : Nat) (a0 : Int) (S : qSto) (o : (Int × qSto)) (h : M_isLetter a0 S = some o) (Q : Option qV → qSto → Prop) (hQ : Q (some (qi o.1)) o.2) : qC X (d + 1) yX12_isLetter cX12_isLetter 1 (some .boolean) [qi a0] S Q := by
  refine q_entry (lv := [(0, qi a0)]) pn_X12 (Nat.le_of_ble_eq_true rfl) rfl ?_
  unfold M_isLetter at h
  refine q_iload_n dX12_isLetter_0 rfl rfl ?_
  obtain ⟨c1803, h⟩ := qk_some h
  refine q_i2l dX12_isLetter_1 (qRb_R c1803) rfl ?_
  refine q_ldc2 (v := 97) dX12_isLetter_2 qw_1499 rfl ?_
  refine q_ldc2 (v := 122) dX12_isLetter_5 qw_1500 rfl ?_
  obtain ⟨q1808, h1809, h⟩ := Option.bind_eq_some_iff.mp h
  refine q_callSi (as := [ql a0, ql 97, ql 122]) dX12_isLetter_8 ml_X12_99 rfl rfl (Nat.le_of_ble_eq_true rfl) (M_in_ok hL d a0 97 122 _ _ h1809) rfl ?_
  obtain ⟨c1810, h⟩ := qk_some h
  cases h
  exact q_zreturn dX12_isLetter_11 rfl (qZb_Z c1810) hQ
set_option maxRecDepth 20000 in
theorem M_isDigit_ok {X : qX} (hL : ∀ c, c < 93 → c ∈ qLs X) (d : Nat) (a0 : Int) (S : qSto) (o : (Int × qSto)) (h : M_isDigit a0 S = some o) (Q : Option qV → qSto → Prop) (hQ : Q (some (qi o.1)) o.2) : qC X (d + 1) yX12_isDigit cX12_isDigit 1 (some .boolean) [qi a0] S Q := by
  refine q_entry (lv := [(0, qi a0)]) pn_X12 (Nat.le_of_ble_eq_true rfl) rfl ?_
  unfold M_isDigit at h
  refine q_iload_n dX12_isDigit_0 rfl rfl ?_
  obtain ⟨c1814, h⟩ := qk_some h
  refine q_i2l dX12_isDigit_1 (qRb_R c1814) rfl ?_
  refine q_ldc2 (v := 48) dX12_isDigit_2 qw_1511 rfl ?_
  refine q_ldc2 (v := 57) dX12_isDigit_5 qw_1512 rfl ?_
  obtain ⟨q1815, h1816, h⟩ := Option.bind_eq_some_iff.mp h
  refine q_callSi (as := [ql a0, ql 48, ql 57]) dX12_isDigit_8 ml_X12_99 rfl rfl (Nat.le_of_ble_eq_true rfl) (M_in_ok hL d a0 48 57 _ _ h1816) rfl ?_
  obtain ⟨c1817, h⟩ := qk_some h
  cases h
  exact q_zreturn dX12_isDigit_11 rfl (qZb_Z c1817) hQ
set_option maxRecDepth 20000 in
theorem M_digits_L21_ok {X : qX} (hL : ∀ c, c < 93 → c ∈ qLs X) (d : Nat) {Q : Option qV → qSto → Prop} : ∀ (n : Nat) (x1 : Int) (x2 : Int) (S : qSto) (o : (Int × qSto)), M_digits_L21 n x2 S = some o → (qW X (d + 2) yX12_digits cX12_digits 3 none 80 [(0, qr 70), (1, qi x1), (2, qi o.1)] [] o.2 Q) → qW X (d + 2) yX12_digits cX12_digits 3 none 21 [(0, qr 70), (1, qi x1), (2, qi x2)] [] S Q := by
  intro n
  induction n with
  | zero =>
    intro x1 x2 S o h
    simp [M_digits_L21] at h
  | succ n ih =>
    intro x1 x2 S o h hE
    rw [M_digits_L21] at h
    refine q_aload_n dX12_digits_21 rfl rfl ?_
    refine q_aload_n dX12_digits_22 rfl rfl ?_
    refine q_getI dX12_digits_23 fl_X12_110 (hL 70 (by decide)) sh_70 (by decide) rfl rfl ?_
    obtain ⟨q1826, h1827, h⟩ := Option.bind_eq_some_iff.mp h
    refine q_callVi (as := [qi (S 70 7)]) (c := 70) dX12_digits_26 ml_X12_113 rfl rfl (hL 70 (by decide)) sh_70 rfl rfl (Nat.le_of_ble_eq_true rfl) (M_byteAt_ok hL (d + 1) (S 70 7) _ _ h1827) rfl ?_
    obtain ⟨q1828, h1829, h⟩ := Option.bind_eq_some_iff.mp h
    refine q_callSi (as := [qi q1826.1]) dX12_digits_29 ml_X12_130 rfl rfl (Nat.le_of_ble_eq_true rfl) (M_isDigit_ok hL d q1826.1 _ _ h1829) rfl ?_
    obtain ⟨c1830, h⟩ := qk_some h
    refine q_if_eq (tgt := 80) dX12_digits_32 (by decide) rfl (qRb_R c1830)  (fun g => ?_) (fun g => ?_)
    · rw [if_pos (show q1828.1 = 0 from g)] at h
      cases h
      exact q_pick [0, 1, 2] rfl (hE)
    · rw [if_neg (show ¬ (q1828.1 = 0) from g)] at h
      refine q_iload_n dX12_digits_35 rfl rfl ?_
      refine q_iconst dX12_digits_36 rfl rfl ?_
      refine q_jn (G := fun (t1834 : qSto) => qW X (d + 2) yX12_digits cX12_digits 3 none 63 [(0, qr 70), (1, qi x1), (2, qi x2)] [] t1834 Q) h (fun t1834 h => ?_) (fun t1834 h hk3836 => ?_)
      · try dsimp only at h
        refine q_iload_n dX12_digits_63 rfl rfl ?_
        refine q_iconst dX12_digits_64 rfl rfl ?_
        refine q_iadd dX12_digits_65 rfl ?_
        refine q_istore_n (lv' := [(2, qi (x2 + 1)), (0, qr 70), (1, qi x1)]) dX12_digits_66 (by decide) rfl rfl ?_
        refine q_aload_n dX12_digits_67 rfl rfl ?_
        refine q_aload_n dX12_digits_68 rfl rfl ?_
        refine q_getI dX12_digits_69 fl_X12_110 (hL 70 (by decide)) sh_70 (by decide) rfl rfl ?_
        refine q_iconst dX12_digits_72 rfl rfl ?_
        refine q_iadd dX12_digits_73 rfl ?_
        refine q_putI dX12_digits_74 fl_X12_110 (hL 70 (by decide)) sh_70 (by decide) pf_12_7 pt_12_7 rfl rfl ?_
        refine q_goto (pc' := 21) dX12_digits_77 (by decide) ?_
        exact q_pick [1, 2, 0] rfl (ih x1 (x2 + 1) _ _ h hE)
      · skip
        obtain ⟨c1831, h⟩ := qk_some h
        refine q_icmp_ge (tgt := 63) dX12_digits_37 (by decide) rfl (qRb_R c1831) ⟨by decide, by decide⟩ (fun g => ?_) (fun g => ?_)
        · rw [if_pos (show 4 ≤ x2 from g)] at h
          cases h
          exact q_pick [0, 1, 2] rfl hk3836
        · rw [if_neg (show ¬ (4 ≤ x2) from g)] at h
          refine q_aload_n dX12_digits_40 rfl rfl ?_
          refine q_bipush dX12_digits_41 (by decide) rfl ?_
          refine q_aload_n dX12_digits_43 rfl rfl ?_
          refine q_getI dX12_digits_44 fl_X12_144 (hL 70 (by decide)) sh_70 (by decide) rfl rfl ?_
          refine q_imul dX12_digits_47 rfl ?_
          refine q_aload_n dX12_digits_48 rfl rfl ?_
          refine q_aload_n dX12_digits_49 rfl rfl ?_
          refine q_getI dX12_digits_50 fl_X12_110 (hL 70 (by decide)) sh_70 (by decide) rfl rfl ?_
          obtain ⟨q1832, h1833, h⟩ := Option.bind_eq_some_iff.mp h
          refine q_callVi (as := [qi (q1828.2 70 7)]) (c := 70) dX12_digits_53 ml_X12_113 rfl rfl (hL 70 (by decide)) sh_70 rfl rfl (Nat.le_of_ble_eq_true rfl) (M_byteAt_ok hL (d + 1) (q1828.2 70 7) _ _ h1833) rfl ?_
          refine q_iadd dX12_digits_56 rfl ?_
          refine q_bipush dX12_digits_57 (by decide) rfl ?_
          refine q_isub dX12_digits_59 rfl ?_
          refine q_putI dX12_digits_60 fl_X12_144 (hL 70 (by decide)) sh_70 (by decide) pf_12_10 pt_12_10 rfl rfl ?_
          cases h
          exact q_pick [0, 1, 2] rfl hk3836
set_option maxRecDepth 20000 in
theorem M_digits_ok {X : qX} (hL : ∀ c, c < 93 → c ∈ qLs X) (d : Nat) (S : qSto) (o : qSto) (h : M_digits S = some o) (Q : Option qV → qSto → Prop) (hQ : Q none o) : qC X (d + 2) yX12_digits cX12_digits 3 none [qr 70] S Q := by
  refine q_entry (lv := [(0, qr 70)]) pn_X12 (Nat.le_of_ble_eq_true rfl) rfl ?_
  unfold M_digits at h
  refine q_aload_n dX12_digits_0 rfl rfl ?_
  refine q_aload_n dX12_digits_1 rfl rfl ?_
  refine q_getI dX12_digits_2 fl_X12_110 (hL 70 (by decide)) sh_70 (by decide) rfl rfl ?_
  refine q_iconst dX12_digits_5 rfl rfl ?_
  refine q_isub dX12_digits_6 rfl ?_
  obtain ⟨q1822, h1823, h⟩ := Option.bind_eq_some_iff.mp h
  refine q_callVi (as := [qi ((S 70 7) - 1)]) (c := 70) dX12_digits_7 ml_X12_113 rfl rfl (hL 70 (by decide)) sh_70 rfl rfl (Nat.le_of_ble_eq_true rfl) (M_byteAt_ok hL (d + 1) ((S 70 7) - 1) _ _ h1823) rfl ?_
  obtain ⟨q1824, h1825, h⟩ := Option.bind_eq_some_iff.mp h
  refine q_callSi (as := [qi q1822.1]) dX12_digits_10 ml_X12_123 rfl rfl (Nat.le_of_ble_eq_true rfl) (M_isLetter_ok hL d q1822.1 _ _ h1825) rfl ?_
  refine q_istore_n (lv' := [(1, qi q1824.1), (0, qr 70)]) dX12_digits_13 (by decide) rfl rfl ?_
  refine q_iconst dX12_digits_14 rfl rfl ?_
  refine q_istore_n (lv' := [(2, qi 0), (1, qi q1824.1), (0, qr 70)]) dX12_digits_15 (by decide) rfl rfl ?_
  refine q_aload_n dX12_digits_16 rfl rfl ?_
  refine q_iconst dX12_digits_17 rfl rfl ?_
  refine q_putI dX12_digits_18 fl_X12_144 (hL 70 (by decide)) sh_70 (by decide) pf_12_10 pt_12_10 rfl rfl ?_
  obtain ⟨q1835, h1836, h⟩ := Option.bind_eq_some_iff.mp h
  refine q_pick [2, 1, 0] rfl (M_digits_L21_ok hL d qF q1824.1 0 _ _ h1836 ?_)
  refine q_aload_n dX12_digits_80 rfl rfl ?_
  refine q_iload_n dX12_digits_81 rfl rfl ?_
  obtain ⟨c1837, h⟩ := qk_some h
  refine q_if_ne (tgt := 90) dX12_digits_82 (by decide) rfl (qRb_R c1837)  (fun g => ?_) (fun g => ?_)
  · rw [if_neg (show ¬ (q1824.1 = 0) from g)] at h
    refine q_iconst dX12_digits_90 rfl rfl ?_
    refine q_goto (pc' := 95) dX12_digits_91 (by decide) ?_
    refine q_putI dX12_digits_95 fl_X12_120 (hL 70 (by decide)) sh_70 (by decide) pf_12_9 pt_12_9 rfl rfl ?_
    cases h
    exact q_return dX12_digits_98 rfl hQ
  · rw [if_pos (show q1824.1 = 0 from g)] at h
    refine q_iload_n dX12_digits_85 rfl rfl ?_
    refine q_iconst dX12_digits_86 rfl rfl ?_
    obtain ⟨c1838, h⟩ := qk_some h
    refine q_icmp_le (tgt := 94) dX12_digits_87 (by decide) rfl (qRb_R c1838) ⟨by decide, by decide⟩ (fun g => ?_) (fun g => ?_)
    · rw [if_pos (show q1835.1 ≤ 4 from g)] at h
      refine q_iconst dX12_digits_94 rfl rfl ?_
      refine q_putI dX12_digits_95 fl_X12_120 (hL 70 (by decide)) sh_70 (by decide) pf_12_9 pt_12_9 rfl rfl ?_
      cases h
      exact q_return dX12_digits_98 rfl hQ
    · rw [if_neg (show ¬ (q1835.1 ≤ 4) from g)] at h
      refine q_iconst dX12_digits_90 rfl rfl ?_
      refine q_goto (pc' := 95) dX12_digits_91 (by decide) ?_
      refine q_putI dX12_digits_95 fl_X12_120 (hL 70 (by decide)) sh_70 (by decide) pf_12_9 pt_12_9 rfl rfl ?_
      cases h
      exact q_return dX12_digits_98 rfl hQ
set_option maxRecDepth 20000 in
theorem M_letters_L21_ok {X : qX} (hL : ∀ c, c < 93 → c ∈ qLs X) (d : Nat) {Q : Option qV → qSto → Prop} : ∀ (n : Nat) (x1 : Int) (x2 : Int) (S : qSto) (o : (Int × qSto)), M_letters_L21 n x2 S = some o → (qW X (d + 2) yX12_letters cX12_letters 3 none 84 [(0, qr 70), (1, qi x1), (2, qi o.1)] [] o.2 Q) → qW X (d + 2) yX12_letters cX12_letters 3 none 21 [(0, qr 70), (1, qi x1), (2, qi x2)] [] S Q := by
  intro n
  induction n with
  | zero =>
    intro x1 x2 S o h
    simp [M_letters_L21] at h
  | succ n ih =>
    intro x1 x2 S o h hE
    rw [M_letters_L21] at h
    refine q_aload_n dX12_letters_21 rfl rfl ?_
    refine q_aload_n dX12_letters_22 rfl rfl ?_
    refine q_getI dX12_letters_23 fl_X12_110 (hL 70 (by decide)) sh_70 (by decide) rfl rfl ?_
    obtain ⟨q1845, h1846, h⟩ := Option.bind_eq_some_iff.mp h
    refine q_callVi (as := [qi (S 70 7)]) (c := 70) dX12_letters_26 ml_X12_113 rfl rfl (hL 70 (by decide)) sh_70 rfl rfl (Nat.le_of_ble_eq_true rfl) (M_byteAt_ok hL (d + 1) (S 70 7) _ _ h1846) rfl ?_
    obtain ⟨q1847, h1848, h⟩ := Option.bind_eq_some_iff.mp h
    refine q_callSi (as := [qi q1845.1]) dX12_letters_29 ml_X12_123 rfl rfl (Nat.le_of_ble_eq_true rfl) (M_isLetter_ok hL d q1845.1 _ _ h1848) rfl ?_
    obtain ⟨c1849, h⟩ := qk_some h
    refine q_if_eq (tgt := 84) dX12_letters_32 (by decide) rfl (qRb_R c1849)  (fun g => ?_) (fun g => ?_)
    · rw [if_pos (show q1847.1 = 0 from g)] at h
      cases h
      exact q_pick [0, 1, 2] rfl (hE)
    · rw [if_neg (show ¬ (q1847.1 = 0) from g)] at h
      refine q_iload_n dX12_letters_35 rfl rfl ?_
      refine q_bipush dX12_letters_36 (by decide) rfl ?_
      refine q_jn (G := fun (t1854 : qSto) => qW X (d + 2) yX12_letters cX12_letters 3 none 67 [(0, qr 70), (1, qi x1), (2, qi x2)] [] t1854 Q) h (fun t1854 h => ?_) (fun t1854 h hk3837 => ?_)
      · try dsimp only at h
        refine q_iload_n dX12_letters_67 rfl rfl ?_
        refine q_iconst dX12_letters_68 rfl rfl ?_
        refine q_iadd dX12_letters_69 rfl ?_
        refine q_istore_n (lv' := [(2, qi (x2 + 1)), (0, qr 70), (1, qi x1)]) dX12_letters_70 (by decide) rfl rfl ?_
        refine q_aload_n dX12_letters_71 rfl rfl ?_
        refine q_aload_n dX12_letters_72 rfl rfl ?_
        refine q_getI dX12_letters_73 fl_X12_110 (hL 70 (by decide)) sh_70 (by decide) rfl rfl ?_
        refine q_iconst dX12_letters_76 rfl rfl ?_
        refine q_iadd dX12_letters_77 rfl ?_
        refine q_putI dX12_letters_78 fl_X12_110 (hL 70 (by decide)) sh_70 (by decide) pf_12_7 pt_12_7 rfl rfl ?_
        refine q_goto (pc' := 21) dX12_letters_81 (by decide) ?_
        exact q_pick [1, 2, 0] rfl (ih x1 (x2 + 1) _ _ h hE)
      · skip
        obtain ⟨c1850, h⟩ := qk_some h
        refine q_icmp_ge (tgt := 67) dX12_letters_38 (by decide) rfl (qRb_R c1850) ⟨by decide, by decide⟩ (fun g => ?_) (fun g => ?_)
        · rw [if_pos (show 8 ≤ x2 from g)] at h
          cases h
          exact q_pick [0, 1, 2] rfl hk3837
        · rw [if_neg (show ¬ (8 ≤ x2) from g)] at h
          refine q_aload_n dX12_letters_41 rfl rfl ?_
          refine q_ldc2 (v := 32) dX12_letters_42 qw_1513 rfl ?_
          refine q_aload_n dX12_letters_45 rfl rfl ?_
          refine q_getL dX12_letters_46 fl_X12_136 (hL 70 (by decide)) sh_70 (by decide) rfl rfl ?_
          refine q_lmul dX12_letters_49 rfl ?_
          refine q_aload_n dX12_letters_50 rfl rfl ?_
          refine q_aload_n dX12_letters_51 rfl rfl ?_
          refine q_getI dX12_letters_52 fl_X12_110 (hL 70 (by decide)) sh_70 (by decide) rfl rfl ?_
          obtain ⟨q1851, h1852, h⟩ := Option.bind_eq_some_iff.mp h
          refine q_callVi (as := [qi (q1847.2 70 7)]) (c := 70) dX12_letters_55 ml_X12_113 rfl rfl (hL 70 (by decide)) sh_70 rfl rfl (Nat.le_of_ble_eq_true rfl) (M_byteAt_ok hL (d + 1) (q1847.2 70 7) _ _ h1852) rfl ?_
          obtain ⟨c1853, h⟩ := qk_some h
          refine q_i2l dX12_letters_58 (qRb_R c1853) rfl ?_
          refine q_ladd dX12_letters_59 rfl ?_
          refine q_ldc2 (v := 96) dX12_letters_60 qw_1514 rfl ?_
          refine q_lsub dX12_letters_63 rfl ?_
          refine q_putL dX12_letters_64 fl_X12_136 (hL 70 (by decide)) sh_70 (by decide) pf_12_17 pt_12_17 rfl rfl ?_
          cases h
          exact q_pick [0, 1, 2] rfl hk3837
set_option maxRecDepth 20000 in
theorem M_letters_ok {X : qX} (hL : ∀ c, c < 93 → c ∈ qLs X) (d : Nat) (S : qSto) (o : qSto) (h : M_letters S = some o) (Q : Option qV → qSto → Prop) (hQ : Q none o) : qC X (d + 2) yX12_letters cX12_letters 3 none [qr 70] S Q := by
  refine q_entry (lv := [(0, qr 70)]) pn_X12 (Nat.le_of_ble_eq_true rfl) rfl ?_
  unfold M_letters at h
  refine q_aload_n dX12_letters_0 rfl rfl ?_
  refine q_aload_n dX12_letters_1 rfl rfl ?_
  refine q_getI dX12_letters_2 fl_X12_110 (hL 70 (by decide)) sh_70 (by decide) rfl rfl ?_
  refine q_iconst dX12_letters_5 rfl rfl ?_
  refine q_isub dX12_letters_6 rfl ?_
  obtain ⟨q1841, h1842, h⟩ := Option.bind_eq_some_iff.mp h
  refine q_callVi (as := [qi ((S 70 7) - 1)]) (c := 70) dX12_letters_7 ml_X12_113 rfl rfl (hL 70 (by decide)) sh_70 rfl rfl (Nat.le_of_ble_eq_true rfl) (M_byteAt_ok hL (d + 1) ((S 70 7) - 1) _ _ h1842) rfl ?_
  obtain ⟨q1843, h1844, h⟩ := Option.bind_eq_some_iff.mp h
  refine q_callSi (as := [qi q1841.1]) dX12_letters_10 ml_X12_130 rfl rfl (Nat.le_of_ble_eq_true rfl) (M_isDigit_ok hL d q1841.1 _ _ h1844) rfl ?_
  refine q_istore_n (lv' := [(1, qi q1843.1), (0, qr 70)]) dX12_letters_13 (by decide) rfl rfl ?_
  refine q_iconst dX12_letters_14 rfl rfl ?_
  refine q_istore_n (lv' := [(2, qi 0), (1, qi q1843.1), (0, qr 70)]) dX12_letters_15 (by decide) rfl rfl ?_
  refine q_aload_n dX12_letters_16 rfl rfl ?_
  refine q_lconst (v := 0) dX12_letters_17 rfl rfl ?_
  refine q_putL dX12_letters_18 fl_X12_136 (hL 70 (by decide)) sh_70 (by decide) pf_12_17 pt_12_17 rfl rfl ?_
  obtain ⟨q1855, h1856, h⟩ := Option.bind_eq_some_iff.mp h
  refine q_pick [2, 1, 0] rfl (M_letters_L21_ok hL d qF q1843.1 0 _ _ h1856 ?_)
  refine q_aload_n dX12_letters_84 rfl rfl ?_
  refine q_iload_n dX12_letters_85 rfl rfl ?_
  obtain ⟨c1857, h⟩ := qk_some h
  refine q_if_ne (tgt := 95) dX12_letters_86 (by decide) rfl (qRb_R c1857)  (fun g => ?_) (fun g => ?_)
  · rw [if_neg (show ¬ (q1843.1 = 0) from g)] at h
    refine q_iconst dX12_letters_95 rfl rfl ?_
    refine q_goto (pc' := 100) dX12_letters_96 (by decide) ?_
    refine q_putI dX12_letters_100 fl_X12_120 (hL 70 (by decide)) sh_70 (by decide) pf_12_9 pt_12_9 rfl rfl ?_
    cases h
    exact q_return dX12_letters_103 rfl hQ
  · rw [if_pos (show q1843.1 = 0 from g)] at h
    refine q_iload_n dX12_letters_89 rfl rfl ?_
    refine q_bipush dX12_letters_90 (by decide) rfl ?_
    obtain ⟨c1858, h⟩ := qk_some h
    refine q_icmp_le (tgt := 99) dX12_letters_92 (by decide) rfl (qRb_R c1858) ⟨by decide, by decide⟩ (fun g => ?_) (fun g => ?_)
    · rw [if_pos (show q1855.1 ≤ 8 from g)] at h
      refine q_iconst dX12_letters_99 rfl rfl ?_
      refine q_putI dX12_letters_100 fl_X12_120 (hL 70 (by decide)) sh_70 (by decide) pf_12_9 pt_12_9 rfl rfl ?_
      cases h
      exact q_return dX12_letters_103 rfl hQ
    · rw [if_neg (show ¬ (q1855.1 ≤ 8) from g)] at h
      refine q_iconst dX12_letters_95 rfl rfl ?_
      refine q_goto (pc' := 100) dX12_letters_96 (by decide) ?_
      refine q_putI dX12_letters_100 fl_X12_120 (hL 70 (by decide)) sh_70 (by decide) pf_12_9 pt_12_9 rfl rfl ?_
      cases h
      exact q_return dX12_letters_103 rfl hQ
set_option maxRecDepth 20000 in
theorem M_goOn_L0_ok {X : qX} (hL : ∀ c, c < 93 → c ∈ qLs X) (d : Nat) {Q : Option qV → qSto → Prop} : ∀ (n : Nat) (S : qSto) (o : qSto), M_goOn_L0 n S = some o → (qW X (d + 3) yX12_goOn cX12_goOn 2 none 39 [(0, qr 70)] [] o Q) → qW X (d + 3) yX12_goOn cX12_goOn 2 none 0 [(0, qr 70)] [] S Q := by
  intro n
  induction n with
  | zero =>
    intro S o h
    simp [M_goOn_L0] at h
  | succ n ih =>
    intro S o h hE
    rw [M_goOn_L0] at h
    refine q_aload_n dX12_goOn_0 rfl rfl ?_
    refine q_aload_n dX12_goOn_1 rfl rfl ?_
    refine q_getI dX12_goOn_2 fl_X12_110 (hL 70 (by decide)) sh_70 (by decide) rfl rfl ?_
    obtain ⟨q1792, h1793, h⟩ := Option.bind_eq_some_iff.mp h
    refine q_callVi (as := [qi (S 70 7)]) (c := 70) dX12_goOn_5 ml_X12_113 rfl rfl (hL 70 (by decide)) sh_70 rfl rfl (Nat.le_of_ble_eq_true rfl) (M_byteAt_ok hL (d + 2) (S 70 7) _ _ h1793) rfl ?_
    refine q_bipush dX12_goOn_8 (by decide) rfl ?_
    obtain ⟨c1794, h⟩ := qk_some h
    refine q_icmp_eq (tgt := 26) dX12_goOn_10 (by decide) rfl (qRb_R c1794) ⟨by decide, by decide⟩ (fun g => ?_) (fun g => ?_)
    · rw [if_pos (show q1792.1 = 32 from g)] at h
      refine q_aload_n dX12_goOn_26 rfl rfl ?_
      refine q_aload_n dX12_goOn_27 rfl rfl ?_
      refine q_getI dX12_goOn_28 fl_X12_110 (hL 70 (by decide)) sh_70 (by decide) rfl rfl ?_
      refine q_iconst dX12_goOn_31 rfl rfl ?_
      refine q_iadd dX12_goOn_32 rfl ?_
      refine q_putI dX12_goOn_33 fl_X12_110 (hL 70 (by decide)) sh_70 (by decide) pf_12_7 pt_12_7 rfl rfl ?_
      refine q_goto (pc' := 0) dX12_goOn_36 (by decide) ?_
      exact q_pick [0] rfl (ih _ _ h hE)
    · rw [if_neg (show ¬ (q1792.1 = 32) from g)] at h
      refine q_aload_n dX12_goOn_13 rfl rfl ?_
      refine q_aload_n dX12_goOn_14 rfl rfl ?_
      refine q_getI dX12_goOn_15 fl_X12_110 (hL 70 (by decide)) sh_70 (by decide) rfl rfl ?_
      obtain ⟨q1795, h1796, h⟩ := Option.bind_eq_some_iff.mp h
      refine q_callVi (as := [qi (q1792.2 70 7)]) (c := 70) dX12_goOn_18 ml_X12_113 rfl rfl (hL 70 (by decide)) sh_70 rfl rfl (Nat.le_of_ble_eq_true rfl) (M_byteAt_ok hL (d + 2) (q1792.2 70 7) _ _ h1796) rfl ?_
      refine q_bipush dX12_goOn_21 (by decide) rfl ?_
      obtain ⟨c1797, h⟩ := qk_some h
      refine q_icmp_ne (tgt := 39) dX12_goOn_23 (by decide) rfl (qRb_R c1797) ⟨by decide, by decide⟩ (fun g => ?_) (fun g => ?_)
      · rw [if_neg (show ¬ (q1795.1 = 10) from g)] at h
        cases h
        exact q_pick [0] rfl (hE)
      · rw [if_pos (show q1795.1 = 10 from g)] at h
        refine q_aload_n dX12_goOn_26 rfl rfl ?_
        refine q_aload_n dX12_goOn_27 rfl rfl ?_
        refine q_getI dX12_goOn_28 fl_X12_110 (hL 70 (by decide)) sh_70 (by decide) rfl rfl ?_
        refine q_iconst dX12_goOn_31 rfl rfl ?_
        refine q_iadd dX12_goOn_32 rfl ?_
        refine q_putI dX12_goOn_33 fl_X12_110 (hL 70 (by decide)) sh_70 (by decide) pf_12_7 pt_12_7 rfl rfl ?_
        refine q_goto (pc' := 0) dX12_goOn_36 (by decide) ?_
        exact q_pick [0] rfl (ih _ _ h hE)
set_option maxRecDepth 20000 in
theorem M_goOn_ok {X : qX} (hL : ∀ c, c < 93 → c ∈ qLs X) (d : Nat) (S : qSto) (o : qSto) (h : M_goOn S = some o) (Q : Option qV → qSto → Prop) (hQ : Q none o) : qC X (d + 3) yX12_goOn cX12_goOn 2 none [qr 70] S Q := by
  refine q_entry (lv := [(0, qr 70)]) pn_X12 (Nat.le_of_ble_eq_true rfl) rfl ?_
  unfold M_goOn at h
  obtain ⟨q1798, h1799, h⟩ := Option.bind_eq_some_iff.mp h
  refine q_pick [0] rfl (M_goOn_L0_ok hL d qF _ _ h1799 ?_)
  refine q_aload_n dX12_goOn_39 rfl rfl ?_
  refine q_aload_n dX12_goOn_40 rfl rfl ?_
  refine q_getI dX12_goOn_41 fl_X12_110 (hL 70 (by decide)) sh_70 (by decide) rfl rfl ?_
  refine q_putI dX12_goOn_44 fl_X12_117 (hL 70 (by decide)) sh_70 (by decide) pf_12_8 pt_12_8 rfl rfl ?_
  refine q_aload_n dX12_goOn_47 rfl rfl ?_
  refine q_aload_n dX12_goOn_48 rfl rfl ?_
  refine q_getI dX12_goOn_49 fl_X12_110 (hL 70 (by decide)) sh_70 (by decide) rfl rfl ?_
  obtain ⟨q1800, h1801, h⟩ := Option.bind_eq_some_iff.mp h
  refine q_callVi (as := [qi ((qup q1798 70 8 (q1798 70 7)) 70 7)]) (c := 70) dX12_goOn_52 ml_X12_113 rfl rfl (hL 70 (by decide)) sh_70 rfl rfl (Nat.le_of_ble_eq_true rfl) (M_byteAt_ok hL (d + 2) ((qup q1798 70 8 (q1798 70 7)) 70 7) _ _ h1801) rfl ?_
  refine q_istore_n (lv' := [(1, qi q1800.1), (0, qr 70)]) dX12_goOn_55 (by decide) rfl rfl ?_
  refine q_iload_n dX12_goOn_56 rfl rfl ?_
  refine q_iconst dX12_goOn_57 rfl rfl ?_
  obtain ⟨c1802, h⟩ := qk_some h
  refine q_icmp_ne (tgt := 69) dX12_goOn_58 (by decide) rfl (qRb_R c1802) ⟨by decide, by decide⟩ (fun g => ?_) (fun g => ?_)
  · rw [if_neg (show ¬ (q1800.1 = (-1)) from g)] at h
    refine q_iload_n dX12_goOn_69 rfl rfl ?_
    obtain ⟨q1811, h1812, h⟩ := Option.bind_eq_some_iff.mp h
    refine q_callSi (as := [qi q1800.1]) dX12_goOn_70 ml_X12_123 rfl rfl (Nat.le_of_ble_eq_true rfl) (M_isLetter_ok hL (d + 1) q1800.1 _ _ h1812) rfl ?_
    obtain ⟨c1813, h⟩ := qk_some h
    refine q_if_eq (tgt := 83) dX12_goOn_73 (by decide) rfl (qRb_R c1813)  (fun g => ?_) (fun g => ?_)
    · rw [if_pos (show q1811.1 = 0 from g)] at h
      refine q_iload_n dX12_goOn_83 rfl rfl ?_
      obtain ⟨q1818, h1819, h⟩ := Option.bind_eq_some_iff.mp h
      refine q_callSi (as := [qi q1800.1]) dX12_goOn_84 ml_X12_130 rfl rfl (Nat.le_of_ble_eq_true rfl) (M_isDigit_ok hL (d + 1) q1800.1 _ _ h1819) rfl ?_
      obtain ⟨c1820, h⟩ := qk_some h
      refine q_if_eq (tgt := 97) dX12_goOn_87 (by decide) rfl (qRb_R c1820)  (fun g => ?_) (fun g => ?_)
      · rw [if_pos (show q1818.1 = 0 from g)] at h
        refine q_aload_n dX12_goOn_97 rfl rfl ?_
        refine q_aload_n dX12_goOn_98 rfl rfl ?_
        refine q_getI dX12_goOn_99 fl_X12_110 (hL 70 (by decide)) sh_70 (by decide) rfl rfl ?_
        refine q_iconst dX12_goOn_102 rfl rfl ?_
        refine q_iadd dX12_goOn_103 rfl ?_
        refine q_putI dX12_goOn_104 fl_X12_110 (hL 70 (by decide)) sh_70 (by decide) pf_12_7 pt_12_7 rfl rfl ?_
        refine q_aload_n dX12_goOn_107 rfl rfl ?_
        refine q_iload_n dX12_goOn_108 rfl rfl ?_
        refine q_bipush dX12_goOn_109 (by decide) rfl ?_
        obtain ⟨c1821, h⟩ := qk_some h
        refine q_icmp_ne (tgt := 118) dX12_goOn_111 (by decide) rfl (qRb_R c1821) ⟨by decide, by decide⟩ (fun g => ?_) (fun g => ?_)
        · rw [if_neg (show ¬ (q1800.1 = 59) from g)] at h
          refine q_iconst dX12_goOn_118 rfl rfl ?_
          refine q_putI dX12_goOn_119 fl_X12_120 (hL 70 (by decide)) sh_70 (by decide) pf_12_9 pt_12_9 rfl rfl ?_
          cases h
          exact q_return dX12_goOn_122 rfl hQ
        · rw [if_pos (show q1800.1 = 59 from g)] at h
          refine q_iconst dX12_goOn_114 rfl rfl ?_
          refine q_goto (pc' := 119) dX12_goOn_115 (by decide) ?_
          refine q_putI dX12_goOn_119 fl_X12_120 (hL 70 (by decide)) sh_70 (by decide) pf_12_9 pt_12_9 rfl rfl ?_
          cases h
          exact q_return dX12_goOn_122 rfl hQ
      · rw [if_neg (show ¬ (q1818.1 = 0) from g)] at h
        refine q_aload_n dX12_goOn_90 rfl rfl ?_
        obtain ⟨q1839, h1840, h⟩ := Option.bind_eq_some_iff.mp h
        refine q_callVv (as := []) (c := 70) dX12_goOn_91 ml_X12_133 rfl rfl (hL 70 (by decide)) sh_70 rfl rfl (Nat.le_of_ble_eq_true rfl) (M_digits_ok hL d _ _ h1840) rfl ?_
        refine q_goto (pc' := 122) dX12_goOn_94 (by decide) ?_
        cases h
        exact q_return dX12_goOn_122 rfl hQ
    · rw [if_neg (show ¬ (q1811.1 = 0) from g)] at h
      refine q_aload_n dX12_goOn_76 rfl rfl ?_
      obtain ⟨q1859, h1860, h⟩ := Option.bind_eq_some_iff.mp h
      refine q_callVv (as := []) (c := 70) dX12_goOn_77 ml_X12_127 rfl rfl (hL 70 (by decide)) sh_70 rfl rfl (Nat.le_of_ble_eq_true rfl) (M_letters_ok hL d _ _ h1860) rfl ?_
      refine q_goto (pc' := 122) dX12_goOn_80 (by decide) ?_
      cases h
      exact q_return dX12_goOn_122 rfl hQ
  · rw [if_pos (show q1800.1 = (-1) from g)] at h
    refine q_aload_n dX12_goOn_61 rfl rfl ?_
    refine q_iconst dX12_goOn_62 rfl rfl ?_
    refine q_putI dX12_goOn_63 fl_X12_120 (hL 70 (by decide)) sh_70 (by decide) pf_12_9 pt_12_9 rfl rfl ?_
    refine q_goto (pc' := 122) dX12_goOn_66 (by decide) ?_
    cases h
    exact q_return dX12_goOn_122 rfl hQ
set_option maxRecDepth 20000 in
theorem M_key_ok {X : qX} (hL : ∀ c, c < 93 → c ∈ qLs X) (d : Nat) (S : qSto) (o : (Int × qSto)) (h : M_key S = some o) (Q : Option qV → qSto → Prop) (hQ : Q (some (qi o.1)) o.2) : qC X d yX12_key cX12_key 1 (some .int) [qr 70] S Q := by
  refine q_entry (lv := [(0, qr 70)]) pn_X12 (Nat.le_of_ble_eq_true rfl) rfl ?_
  unfold M_key at h
  refine q_aload_n dX12_key_0 rfl rfl ?_
  refine q_getI dX12_key_1 fl_X12_120 (hL 70 (by decide)) sh_70 (by decide) rfl rfl ?_
  refine q_iconst dX12_key_4 rfl rfl ?_
  obtain ⟨c1865, h⟩ := qk_some h
  refine q_icmp_eq (tgt := 10) dX12_key_5 (by decide) rfl (qRb_R c1865) ⟨by decide, by decide⟩ (fun g => ?_) (fun g => ?_)
  · rw [if_pos (show (S 70 9) = 1 from g)] at h
    refine q_aload_n dX12_key_10 rfl rfl ?_
    refine q_getL dX12_key_11 fl_X12_136 (hL 70 (by decide)) sh_70 (by decide) rfl rfl ?_
    refine q_ldc2 (v := 578617) dX12_key_14 qw_1527 rfl ?_
    obtain ⟨c1866, h⟩ := qk_some h
    refine q_lcmp dX12_key_17 (qRLb_R c1866) ⟨by decide, by decide⟩ rfl ?_
    refine q_if_ne (tgt := 23) dX12_key_18 (by decide) rfl (q3_R _ _)  (fun g => ?_) (fun g => ?_)
    · rw [if_neg (show ¬ ((S 70 17) = 578617) from fun e => g ((q3_eq _ _).mpr e))] at h
      refine q_aload_n dX12_key_23 rfl rfl ?_
      refine q_getL dX12_key_24 fl_X12_136 (hL 70 (by decide)) sh_70 (by decide) rfl rfl ?_
      refine q_ldc2 (v := 7216) dX12_key_27 qw_1528 rfl ?_
      obtain ⟨c1867, h⟩ := qk_some h
      refine q_lcmp dX12_key_30 (qRLb_R c1867) ⟨by decide, by decide⟩ rfl ?_
      refine q_if_ne (tgt := 36) dX12_key_31 (by decide) rfl (q3_R _ _)  (fun g => ?_) (fun g => ?_)
      · rw [if_neg (show ¬ ((S 70 17) = 7216) from fun e => g ((q3_eq _ _).mpr e))] at h
        refine q_aload_n dX12_key_36 rfl rfl ?_
        refine q_getL dX12_key_37 fl_X12_136 (hL 70 (by decide)) sh_70 (by decide) rfl rfl ?_
        refine q_ldc2 (v := 365740) dX12_key_40 qw_1529 rfl ?_
        obtain ⟨c1868, h⟩ := qk_some h
        refine q_lcmp dX12_key_43 (qRLb_R c1868) ⟨by decide, by decide⟩ rfl ?_
        refine q_if_ne (tgt := 49) dX12_key_44 (by decide) rfl (q3_R _ _)  (fun g => ?_) (fun g => ?_)
        · rw [if_neg (show ¬ ((S 70 17) = 365740) from fun e => g ((q3_eq _ _).mpr e))] at h
          refine q_aload_n dX12_key_49 rfl rfl ?_
          refine q_getL dX12_key_50 fl_X12_136 (hL 70 (by decide)) sh_70 (by decide) rfl rfl ?_
          refine q_ldc2 (v := 3491182764) dX12_key_53 qw_1530 rfl ?_
          obtain ⟨c1869, h⟩ := qk_some h
          refine q_lcmp dX12_key_56 (qRLb_R c1869) ⟨by decide, by decide⟩ rfl ?_
          refine q_if_ne (tgt := 62) dX12_key_57 (by decide) rfl (q3_R _ _)  (fun g => ?_) (fun g => ?_)
          · rw [if_neg (show ¬ ((S 70 17) = 3491182764) from fun e => g ((q3_eq _ _).mpr e))] at h
            refine q_aload_n dX12_key_62 rfl rfl ?_
            refine q_getL dX12_key_63 fl_X12_136 (hL 70 (by decide)) sh_70 (by decide) rfl rfl ?_
            refine q_ldc2 (v := 591493) dX12_key_66 qw_1531 rfl ?_
            obtain ⟨c1870, h⟩ := qk_some h
            refine q_lcmp dX12_key_69 (qRLb_R c1870) ⟨by decide, by decide⟩ rfl ?_
            refine q_if_ne (tgt := 75) dX12_key_70 (by decide) rfl (q3_R _ _)  (fun g => ?_) (fun g => ?_)
            · rw [if_neg (show ¬ ((S 70 17) = 591493) from fun e => g ((q3_eq _ _).mpr e))] at h
              refine q_aload_n dX12_key_75 rfl rfl ?_
              refine q_getL dX12_key_76 fl_X12_136 (hL 70 (by decide)) sh_70 (by decide) rfl rfl ?_
              refine q_ldc2 (v := 409203) dX12_key_79 qw_1532 rfl ?_
              obtain ⟨c1871, h⟩ := qk_some h
              refine q_lcmp dX12_key_82 (qRLb_R c1871) ⟨by decide, by decide⟩ rfl ?_
              refine q_if_ne (tgt := 88) dX12_key_83 (by decide) rfl (q3_R _ _)  (fun g => ?_) (fun g => ?_)
              · rw [if_neg (show ¬ ((S 70 17) = 409203) from fun e => g ((q3_eq _ _).mpr e))] at h
                refine q_aload_n dX12_key_88 rfl rfl ?_
                refine q_getL dX12_key_89 fl_X12_136 (hL 70 (by decide)) sh_70 (by decide) rfl rfl ?_
                refine q_ldc2 (v := 20572677614) dX12_key_92 qw_1533 rfl ?_
                obtain ⟨c1872, h⟩ := qk_some h
                refine q_lcmp dX12_key_95 (qRLb_R c1872) ⟨by decide, by decide⟩ rfl ?_
                refine q_if_ne (tgt := 102) dX12_key_96 (by decide) rfl (q3_R _ _)  (fun g => ?_) (fun g => ?_)
                · rw [if_neg (show ¬ ((S 70 17) = 20572677614) from fun e => g ((q3_eq _ _).mpr e))] at h
                  refine q_aload_n dX12_key_102 rfl rfl ?_
                  refine q_getL dX12_key_103 fl_X12_136 (hL 70 (by decide)) sh_70 (by decide) rfl rfl ?_
                  refine q_ldc2 (v := 3737029) dX12_key_106 qw_1534 rfl ?_
                  obtain ⟨c1873, h⟩ := qk_some h
                  refine q_lcmp dX12_key_109 (qRLb_R c1873) ⟨by decide, by decide⟩ rfl ?_
                  refine q_if_ne (tgt := 116) dX12_key_110 (by decide) rfl (q3_R _ _)  (fun g => ?_) (fun g => ?_)
                  · rw [if_neg (show ¬ ((S 70 17) = 3737029) from fun e => g ((q3_eq _ _).mpr e))] at h
                    refine q_aload_n dX12_key_116 rfl rfl ?_
                    refine q_getL dX12_key_117 fl_X12_136 (hL 70 (by decide)) sh_70 (by decide) rfl rfl ?_
                    refine q_ldc2 (v := 664709) dX12_key_120 qw_1535 rfl ?_
                    obtain ⟨c1874, h⟩ := qk_some h
                    refine q_lcmp dX12_key_123 (qRLb_R c1874) ⟨by decide, by decide⟩ rfl ?_
                    refine q_if_ne (tgt := 130) dX12_key_124 (by decide) rfl (q3_R _ _)  (fun g => ?_) (fun g => ?_)
                    · rw [if_neg (show ¬ ((S 70 17) = 664709) from fun e => g ((q3_eq _ _).mpr e))] at h
                      refine q_aload_n dX12_key_130 rfl rfl ?_
                      refine q_getL dX12_key_131 fl_X12_136 (hL 70 (by decide)) sh_70 (by decide) rfl rfl ?_
                      refine q_ldc2 (v := 7387379) dX12_key_134 qw_1536 rfl ?_
                      obtain ⟨c1875, h⟩ := qk_some h
                      refine q_lcmp dX12_key_137 (qRLb_R c1875) ⟨by decide, by decide⟩ rfl ?_
                      refine q_if_ne (tgt := 144) dX12_key_138 (by decide) rfl (q3_R _ _)  (fun g => ?_) (fun g => ?_)
                      · rw [if_neg (show ¬ ((S 70 17) = 7387379) from fun e => g ((q3_eq _ _).mpr e))] at h
                        refine q_aload_n dX12_key_144 rfl rfl ?_
                        refine q_getL dX12_key_145 fl_X12_136 (hL 70 (by decide)) sh_70 (by decide) rfl rfl ?_
                        refine q_ldc2 (v := 631088) dX12_key_148 qw_1537 rfl ?_
                        obtain ⟨c1876, h⟩ := qk_some h
                        refine q_lcmp dX12_key_151 (qRLb_R c1876) ⟨by decide, by decide⟩ rfl ?_
                        refine q_if_ne (tgt := 160) dX12_key_152 (by decide) rfl (q3_R _ _)  (fun g => ?_) (fun g => ?_)
                        · rw [if_neg (show ¬ ((S 70 17) = 631088) from fun e => g ((q3_eq _ _).mpr e))] at h
                          refine q_iconst dX12_key_160 rfl rfl ?_
                          cases h
                          exact q_ireturn dX12_key_161 rfl hQ
                        · rw [if_pos (show (S 70 17) = 631088 from (q3_eq _ _).mp g)] at h
                          refine q_bipush dX12_key_155 (by decide) rfl ?_
                          refine q_goto (pc' := 161) dX12_key_157 (by decide) ?_
                          cases h
                          exact q_ireturn dX12_key_161 rfl hQ
                      · rw [if_pos (show (S 70 17) = 7387379 from (q3_eq _ _).mp g)] at h
                        refine q_bipush dX12_key_141 (by decide) rfl ?_
                        cases h
                        exact q_ireturn dX12_key_143 rfl hQ
                    · rw [if_pos (show (S 70 17) = 664709 from (q3_eq _ _).mp g)] at h
                      refine q_bipush dX12_key_127 (by decide) rfl ?_
                      cases h
                      exact q_ireturn dX12_key_129 rfl hQ
                  · rw [if_pos (show (S 70 17) = 3737029 from (q3_eq _ _).mp g)] at h
                    refine q_bipush dX12_key_113 (by decide) rfl ?_
                    cases h
                    exact q_ireturn dX12_key_115 rfl hQ
                · rw [if_pos (show (S 70 17) = 20572677614 from (q3_eq _ _).mp g)] at h
                  refine q_bipush dX12_key_99 (by decide) rfl ?_
                  cases h
                  exact q_ireturn dX12_key_101 rfl hQ
              · rw [if_pos (show (S 70 17) = 409203 from (q3_eq _ _).mp g)] at h
                refine q_iconst dX12_key_86 rfl rfl ?_
                cases h
                exact q_ireturn dX12_key_87 rfl hQ
            · rw [if_pos (show (S 70 17) = 591493 from (q3_eq _ _).mp g)] at h
              refine q_iconst dX12_key_73 rfl rfl ?_
              cases h
              exact q_ireturn dX12_key_74 rfl hQ
          · rw [if_pos (show (S 70 17) = 3491182764 from (q3_eq _ _).mp g)] at h
            refine q_iconst dX12_key_60 rfl rfl ?_
            cases h
            exact q_ireturn dX12_key_61 rfl hQ
        · rw [if_pos (show (S 70 17) = 365740 from (q3_eq _ _).mp g)] at h
          refine q_iconst dX12_key_47 rfl rfl ?_
          cases h
          exact q_ireturn dX12_key_48 rfl hQ
      · rw [if_pos (show (S 70 17) = 7216 from (q3_eq _ _).mp g)] at h
        refine q_iconst dX12_key_34 rfl rfl ?_
        cases h
        exact q_ireturn dX12_key_35 rfl hQ
    · rw [if_pos (show (S 70 17) = 578617 from (q3_eq _ _).mp g)] at h
      refine q_iconst dX12_key_21 rfl rfl ?_
      cases h
      exact q_ireturn dX12_key_22 rfl hQ
  · rw [if_neg (show ¬ ((S 70 9) = 1) from g)] at h
    refine q_iconst dX12_key_8 rfl rfl ?_
    cases h
    exact q_ireturn dX12_key_9 rfl hQ
set_option maxRecDepth 20000 in
theorem M_fail_ok {X : qX} (hL : ∀ c, c < 93 → c ∈ qLs X) (d : Nat) (a1 : Int) (a2 : Int) (S : qSto) (o : qSto) (h : M_fail a1 a2 S = some o) (Q : Option qV → qSto → Prop) (hQ : Q none o) : qC X d yX12_fail cX12_fail 3 none [qr 70, qi a1, qi a2] S Q := by
  refine q_entry (lv := [(0, qr 70), (1, qi a1), (2, qi a2)]) pn_X12 (Nat.le_of_ble_eq_true rfl) rfl ?_
  unfold M_fail at h
  refine q_aload_n dX12_fail_0 rfl rfl ?_
  refine q_getI dX12_fail_1 fl_X12_147 (hL 70 (by decide)) sh_70 (by decide) rfl rfl ?_
  obtain ⟨c1888, h⟩ := qk_some h
  refine q_if_le (tgt := 8) dX12_fail_4 (by decide) rfl (qRb_R c1888)  (fun g => ?_) (fun g => ?_)
  · rw [if_pos (show (S 70 11) ≤ 0 from g)] at h
    refine q_aload_n dX12_fail_8 rfl rfl ?_
    refine q_iload_n dX12_fail_9 rfl rfl ?_
    refine q_putI dX12_fail_10 fl_X12_147 (hL 70 (by decide)) sh_70 (by decide) pf_12_11 pt_12_11 rfl rfl ?_
    refine q_aload_n dX12_fail_13 rfl rfl ?_
    refine q_iload_n dX12_fail_14 rfl rfl ?_
    refine q_putI dX12_fail_15 fl_X12_150 (hL 70 (by decide)) sh_70 (by decide) pf_12_12 pt_12_12 rfl rfl ?_
    cases h
    exact q_return dX12_fail_18 rfl hQ
  · rw [if_neg (show ¬ ((S 70 11) ≤ 0) from g)] at h
    cases h
    exact q_return dX12_fail_7 rfl hQ
set_option maxRecDepth 20000 in
theorem M_begins_ok {X : qX} (hL : ∀ c, c < 93 → c ∈ qLs X) (d : Nat) (a1 : Int) (a2 : Int) (S : qSto) (o : (Int × qSto)) (h : M_begins a1 a2 S = some o) (Q : Option qV → qSto → Prop) (hQ : Q (some (qi o.1)) o.2) : qC X (d + 4) yX12_begins cX12_begins 3 (some .boolean) [qr 70, qi a1, qi a2] S Q := by
  refine q_entry (lv := [(0, qr 70), (1, qi a1), (2, qi a2)]) pn_X12 (Nat.le_of_ble_eq_true rfl) rfl ?_
  unfold M_begins at h
  refine q_aload_n dX12_begins_0 rfl rfl ?_
  refine q_getA dX12_begins_1 fl_X12_7 (hL 70 (by decide)) sh_70 (by decide) rfl rfl ?_
  refine q_iload_n dX12_begins_4 rfl rfl ?_
  obtain ⟨c1885, h⟩ := qk_some h
  refine q_iaload dX12_begins_5 (hL 71 (by decide)) sh_71 (qIx_0 c1885) (qIx_1 c1885) rfl ?_
  refine q_iload_n dX12_begins_6 rfl rfl ?_
  refine q_jn (G := fun (t1891 : qSto) => qW X (d + 4) yX12_begins cX12_begins 3 (some .boolean) 19 [(0, qr 70)] [] t1891 Q) h (fun t1891 h => ?_) (fun t1891 h hk3838 => ?_)
  · try dsimp only at h
    refine q_aload_n dX12_begins_19 rfl rfl ?_
    refine q_getI dX12_begins_20 fl_X12_147 (hL 70 (by decide)) sh_70 (by decide) rfl rfl ?_
    refine q_jn (G := fun (t1895 : qSto) => qW X (d + 4) yX12_begins cX12_begins 3 (some .boolean) 30 [(0, qr 70)] [] t1895 Q) h (fun t1895 h => ?_) (fun t1895 h hk3839 => ?_)
    · try dsimp only at h
      refine q_aload_n dX12_begins_30 rfl rfl ?_
      refine q_getI dX12_begins_31 fl_X12_147 (hL 70 (by decide)) sh_70 (by decide) rfl rfl ?_
      obtain ⟨c1896, h⟩ := qk_some h
      refine q_if_ne (tgt := 41) dX12_begins_34 (by decide) rfl (qRb_R c1896)  (fun g => ?_) (fun g => ?_)
      · rw [if_neg (show ¬ ((t1895 70 11) = 0) from g)] at h
        refine q_iconst dX12_begins_41 rfl rfl ?_
        cases h
        exact q_zreturn dX12_begins_42 rfl (by decide) hQ
      · rw [if_pos (show (t1895 70 11) = 0 from g)] at h
        refine q_iconst dX12_begins_37 rfl rfl ?_
        refine q_goto (pc' := 42) dX12_begins_38 (by decide) ?_
        cases h
        exact q_zreturn dX12_begins_42 rfl (by decide) hQ
    · skip
      obtain ⟨c1892, h⟩ := qk_some h
      refine q_if_ne (tgt := 30) dX12_begins_23 (by decide) rfl (qRb_R c1892)  (fun g => ?_) (fun g => ?_)
      · rw [if_neg (show ¬ ((t1891 70 11) = 0) from g)] at h
        cases h
        exact q_pick [0] rfl hk3839
      · rw [if_pos (show (t1891 70 11) = 0 from g)] at h
        refine q_aload_n dX12_begins_26 rfl rfl ?_
        obtain ⟨q1893, h1894, h⟩ := Option.bind_eq_some_iff.mp h
        refine q_callVv (as := []) (c := 70) dX12_begins_27 ml_X12_160 rfl rfl (hL 70 (by decide)) sh_70 rfl rfl (Nat.le_of_ble_eq_true rfl) (M_goOn_ok hL d _ _ h1894) rfl ?_
        cases h
        exact q_pick [0] rfl hk3839
  · skip
    obtain ⟨c1886, h⟩ := qk_some h
    obtain ⟨c1887, h⟩ := qk_some h
    refine q_icmp_ne (tgt := 19) dX12_begins_7 (by decide) rfl (qRb_R c1886) (qRb_R c1887) (fun g => ?_) (fun g => ?_)
    · rw [if_neg (show ¬ ((S 71 (Int.toNat a1)) = a2) from g)] at h
      cases h
      exact q_pick [0] rfl hk3838
    · rw [if_pos (show (S 71 (Int.toNat a1)) = a2 from g)] at h
      refine q_aload_n dX12_begins_10 rfl rfl ?_
      refine q_iconst dX12_begins_11 rfl rfl ?_
      refine q_aload_n dX12_begins_12 rfl rfl ?_
      refine q_getI dX12_begins_13 fl_X12_117 (hL 70 (by decide)) sh_70 (by decide) rfl rfl ?_
      obtain ⟨q1889, h1890, h⟩ := Option.bind_eq_some_iff.mp h
      refine q_callVv (as := [qi 4, qi (S 70 8)]) (c := 70) dX12_begins_16 ml_X12_153 rfl rfl (hL 70 (by decide)) sh_70 rfl rfl (Nat.le_of_ble_eq_true rfl) (M_fail_ok hL (d + 3) 4 (S 70 8) _ _ h1890) rfl ?_
      cases h
      exact q_pick [0] rfl hk3838
set_option maxRecDepth 20000 in
theorem M_nameTold_L27_ok {X : qX} (hL : ∀ c, c < 93 → c ∈ qLs X) (d : Nat) {Q : Option qV → qSto → Prop} : ∀ (n : Nat) (x1 : Int) (x2 : Int) (S : qSto) (o : qSto), M_nameTold_L27 n x1 x2 S = some o → (qW X (d + 4) yX12_nameTold cX12_nameTold 3 none 68 [(0, qr 70), (1, qi x1)] [] o Q) → qW X (d + 4) yX12_nameTold cX12_nameTold 3 none 27 [(0, qr 70), (1, qi x1), (2, qi x2)] [] S Q := by
  intro n
  induction n with
  | zero =>
    intro x1 x2 S o h
    simp [M_nameTold_L27] at h
  | succ n ih =>
    intro x1 x2 S o h hE
    rw [M_nameTold_L27] at h
    refine q_iload_n dX12_nameTold_27 rfl rfl ?_
    refine q_iload_n dX12_nameTold_28 rfl rfl ?_
    obtain ⟨c1909, h⟩ := qk_some h
    obtain ⟨c1910, h⟩ := qk_some h
    refine q_icmp_ge (tgt := 68) dX12_nameTold_29 (by decide) rfl (qRb_R c1909) (qRb_R c1910) (fun g => ?_) (fun g => ?_)
    · rw [if_pos (show x1 ≤ x2 from g)] at h
      cases h
      exact q_pick [0, 1] rfl (hE)
    · rw [if_neg (show ¬ (x1 ≤ x2) from g)] at h
      refine q_aload_n dX12_nameTold_32 rfl rfl ?_
      refine q_getI dX12_nameTold_33 fl_X12_147 (hL 70 (by decide)) sh_70 (by decide) rfl rfl ?_
      refine q_jn (G := fun (t1917 : qSto) => qW X (d + 4) yX12_nameTold cX12_nameTold 3 none 62 [(0, qr 70), (1, qi x1), (2, qi x2)] [] t1917 Q) h (fun t1917 h => ?_) (fun t1917 h hk3840 => ?_)
      · try dsimp only at h
        refine q_iinc (lv' := [(2, qi (x2 + 1)), (0, qr 70), (1, qi x1)]) dX12_nameTold_62 (by decide) rfl rfl rfl ?_
        refine q_goto (pc' := 27) dX12_nameTold_65 (by decide) ?_
        exact q_pick [1, 2, 0] rfl (ih x1 (x2 + 1) _ _ h hE)
      · skip
        obtain ⟨c1911, h⟩ := qk_some h
        refine q_if_ne (tgt := 62) dX12_nameTold_36 (by decide) rfl (qRb_R c1911)  (fun g => ?_) (fun g => ?_)
        · rw [if_neg (show ¬ ((S 70 11) = 0) from g)] at h
          cases h
          exact q_pick [0, 1, 2] rfl hk3840
        · rw [if_pos (show (S 70 11) = 0 from g)] at h
          refine q_aload_n dX12_nameTold_39 rfl rfl ?_
          refine q_getA dX12_nameTold_40 fl_X12_16 (hL 70 (by decide)) sh_70 (by decide) rfl rfl ?_
          refine q_iload_n dX12_nameTold_43 rfl rfl ?_
          obtain ⟨c1912, h⟩ := qk_some h
          refine q_laload dX12_nameTold_44 (hL 73 (by decide)) sh_73 (qIx_0 c1912) (qIx_1 c1912) rfl ?_
          refine q_aload_n dX12_nameTold_45 rfl rfl ?_
          refine q_getL dX12_nameTold_46 fl_X12_136 (hL 70 (by decide)) sh_70 (by decide) rfl rfl ?_
          obtain ⟨c1913, h⟩ := qk_some h
          obtain ⟨c1914, h⟩ := qk_some h
          refine q_lcmp dX12_nameTold_49 (qRLb_R c1913) (qRLb_R c1914) rfl ?_
          refine q_if_ne (tgt := 62) dX12_nameTold_50 (by decide) rfl (q3_R _ _)  (fun g => ?_) (fun g => ?_)
          · rw [if_neg (show ¬ ((S 73 (Int.toNat x2)) = (S 70 17)) from fun e => g ((q3_eq _ _).mpr e))] at h
            cases h
            exact q_pick [0, 1, 2] rfl hk3840
          · rw [if_pos (show (S 73 (Int.toNat x2)) = (S 70 17) from (q3_eq _ _).mp g)] at h
            refine q_aload_n dX12_nameTold_53 rfl rfl ?_
            refine q_iconst dX12_nameTold_54 rfl rfl ?_
            refine q_aload_n dX12_nameTold_55 rfl rfl ?_
            refine q_getI dX12_nameTold_56 fl_X12_117 (hL 70 (by decide)) sh_70 (by decide) rfl rfl ?_
            obtain ⟨q1915, h1916, h⟩ := Option.bind_eq_some_iff.mp h
            refine q_callVv (as := [qi 3, qi (S 70 8)]) (c := 70) dX12_nameTold_59 ml_X12_153 rfl rfl (hL 70 (by decide)) sh_70 rfl rfl (Nat.le_of_ble_eq_true rfl) (M_fail_ok hL (d + 3) 3 (S 70 8) _ _ h1916) rfl ?_
            cases h
            exact q_pick [0, 1, 2] rfl hk3840
set_option maxRecDepth 20000 in
theorem M_nameTold_ok {X : qX} (hL : ∀ c, c < 93 → c ∈ qLs X) (d : Nat) (a1 : Int) (S : qSto) (o : qSto) (h : M_nameTold a1 S = some o) (Q : Option qV → qSto → Prop) (hQ : Q none o) : qC X (d + 4) yX12_nameTold cX12_nameTold 3 none [qr 70, qi a1] S Q := by
  refine q_entry (lv := [(0, qr 70), (1, qi a1)]) pn_X12 (Nat.le_of_ble_eq_true rfl) rfl ?_
  unfold M_nameTold at h
  refine q_aload_n dX12_nameTold_0 rfl rfl ?_
  refine q_getI dX12_nameTold_1 fl_X12_120 (hL 70 (by decide)) sh_70 (by decide) rfl rfl ?_
  refine q_iconst dX12_nameTold_4 rfl rfl ?_
  refine q_jn (G := fun (t1908 : qSto) => qW X (d + 4) yX12_nameTold cX12_nameTold 3 none 25 [(0, qr 70), (1, qi a1)] [] t1908 Q) h (fun t1908 h => ?_) (fun t1908 h hk3841 => ?_)
  · try dsimp only at h
    refine q_iconst dX12_nameTold_25 rfl rfl ?_
    refine q_istore_n (lv' := [(2, qi 0), (0, qr 70), (1, qi a1)]) dX12_nameTold_26 (by decide) rfl rfl ?_
    obtain ⟨q1918, h1919, h⟩ := Option.bind_eq_some_iff.mp h
    refine q_pick [1, 2, 0] rfl (M_nameTold_L27_ok hL d qF a1 0 _ _ h1919 ?_)
    refine q_aload_n dX12_nameTold_68 rfl rfl ?_
    refine q_getI dX12_nameTold_69 fl_X12_147 (hL 70 (by decide)) sh_70 (by decide) rfl rfl ?_
    obtain ⟨c1920, h⟩ := qk_some h
    refine q_if_le (tgt := 76) dX12_nameTold_72 (by decide) rfl (qRb_R c1920)  (fun g => ?_) (fun g => ?_)
    · rw [if_pos (show (q1918 70 11) ≤ 0 from g)] at h
      refine q_aload_n dX12_nameTold_76 rfl rfl ?_
      refine q_getA dX12_nameTold_77 fl_X12_16 (hL 70 (by decide)) sh_70 (by decide) rfl rfl ?_
      refine q_iload_n dX12_nameTold_80 rfl rfl ?_
      refine q_aload_n dX12_nameTold_81 rfl rfl ?_
      refine q_getL dX12_nameTold_82 fl_X12_136 (hL 70 (by decide)) sh_70 (by decide) rfl rfl ?_
      obtain ⟨c1921, h⟩ := qk_some h
      refine q_lastore dX12_nameTold_85 (hL 73 (by decide)) sh_73 (qIx_0 c1921) (qIx_1 c1921) rfl ?_
      refine q_aload_n dX12_nameTold_86 rfl rfl ?_
      obtain ⟨q1922, h1923, h⟩ := Option.bind_eq_some_iff.mp h
      refine q_callVv (as := []) (c := 70) dX12_nameTold_87 ml_X12_160 rfl rfl (hL 70 (by decide)) sh_70 rfl rfl (Nat.le_of_ble_eq_true rfl) (M_goOn_ok hL d _ _ h1923) rfl ?_
      cases h
      exact q_return dX12_nameTold_90 rfl hQ
    · rw [if_neg (show ¬ ((q1918 70 11) ≤ 0) from g)] at h
      cases h
      exact q_return dX12_nameTold_75 rfl hQ
  · skip
    obtain ⟨c1900, h⟩ := qk_some h
    refine q_icmp_ne (tgt := 16) dX12_nameTold_5 (by decide) rfl (qRb_R c1900) ⟨by decide, by decide⟩ (fun g => ?_) (fun g => ?_)
    · rw [if_neg (show ¬ ((S 70 9) = 1) from g)] at h
      refine q_aload_n dX12_nameTold_16 rfl rfl ?_
      refine q_iconst dX12_nameTold_17 rfl rfl ?_
      refine q_aload_n dX12_nameTold_18 rfl rfl ?_
      refine q_getI dX12_nameTold_19 fl_X12_117 (hL 70 (by decide)) sh_70 (by decide) rfl rfl ?_
      obtain ⟨q1901, h1902, h⟩ := Option.bind_eq_some_iff.mp h
      refine q_callVv (as := [qi 1, qi (S 70 8)]) (c := 70) dX12_nameTold_22 ml_X12_153 rfl rfl (hL 70 (by decide)) sh_70 rfl rfl (Nat.le_of_ble_eq_true rfl) (M_fail_ok hL (d + 3) 1 (S 70 8) _ _ h1902) rfl ?_
      cases h
      exact q_pick [0, 1] rfl hk3841
    · rw [if_pos (show (S 70 9) = 1 from g)] at h
      refine q_aload_n dX12_nameTold_8 rfl rfl ?_
      obtain ⟨q1903, h1904, h⟩ := Option.bind_eq_some_iff.mp h
      refine q_callVi (as := []) (c := 70) dX12_nameTold_9 ml_X12_209 rfl rfl (hL 70 (by decide)) sh_70 rfl rfl (Nat.le_of_ble_eq_true rfl) (M_key_ok hL (d + 3) _ _ h1904) rfl ?_
      refine q_iconst dX12_nameTold_12 rfl rfl ?_
      obtain ⟨c1905, h⟩ := qk_some h
      refine q_icmp_eq (tgt := 25) dX12_nameTold_13 (by decide) rfl (qRb_R c1905) ⟨by decide, by decide⟩ (fun g => ?_) (fun g => ?_)
      · rw [if_pos (show q1903.1 = (-1) from g)] at h
        cases h
        exact q_pick [0, 1] rfl hk3841
      · rw [if_neg (show ¬ (q1903.1 = (-1)) from g)] at h
        refine q_aload_n dX12_nameTold_16 rfl rfl ?_
        refine q_iconst dX12_nameTold_17 rfl rfl ?_
        refine q_aload_n dX12_nameTold_18 rfl rfl ?_
        refine q_getI dX12_nameTold_19 fl_X12_117 (hL 70 (by decide)) sh_70 (by decide) rfl rfl ?_
        obtain ⟨q1906, h1907, h⟩ := Option.bind_eq_some_iff.mp h
        refine q_callVv (as := [qi 1, qi (q1903.2 70 8)]) (c := 70) dX12_nameTold_22 ml_X12_153 rfl rfl (hL 70 (by decide)) sh_70 rfl rfl (Nat.le_of_ble_eq_true rfl) (M_fail_ok hL (d + 3) 1 (q1903.2 70 8) _ _ h1907) rfl ?_
        cases h
        exact q_pick [0, 1] rfl hk3841
set_option maxRecDepth 20000 in
theorem M_shipLow_ok {X : qX} (hL : ∀ c, c < 93 → c ∈ qLs X) (d : Nat) (a0 : Int) (S : qSto) (o : (Int × qSto)) (h : M_shipLow a0 S = some o) (Q : Option qV → qSto → Prop) (hQ : Q (some (qi o.1)) o.2) : qC X d yX12_shipLow cX12_shipLow 1 (some .int) [qi a0] S Q := by
  refine q_entry (lv := [(0, qi a0)]) pn_X12 (Nat.le_of_ble_eq_true rfl) rfl ?_
  unfold M_shipLow at h
  refine q_iload_n dX12_shipLow_0 rfl rfl ?_
  obtain ⟨c1927, h⟩ := qk_some h
  refine q_if_eq (tgt := 10) dX12_shipLow_1 (by decide) rfl (qRb_R c1927)  (fun g => ?_) (fun g => ?_)
  · rw [if_pos (show a0 = 0 from g)] at h
    refine q_iconst dX12_shipLow_10 rfl rfl ?_
    refine q_goto (pc' := 15) dX12_shipLow_11 (by decide) ?_
    cases h
    exact q_ireturn dX12_shipLow_15 rfl hQ
  · rw [if_neg (show ¬ (a0 = 0) from g)] at h
    refine q_iload_n dX12_shipLow_4 rfl rfl ?_
    refine q_bipush dX12_shipLow_5 (by decide) rfl ?_
    obtain ⟨c1928, h⟩ := qk_some h
    refine q_icmp_lt (tgt := 14) dX12_shipLow_7 (by decide) rfl (qRb_R c1928) ⟨by decide, by decide⟩ (fun g => ?_) (fun g => ?_)
    · rw [if_pos (show a0 < 7 from g)] at h
      refine q_iconst dX12_shipLow_14 rfl rfl ?_
      cases h
      exact q_ireturn dX12_shipLow_15 rfl hQ
    · rw [if_neg (show ¬ (a0 < 7) from g)] at h
      refine q_iconst dX12_shipLow_10 rfl rfl ?_
      refine q_goto (pc' := 15) dX12_shipLow_11 (by decide) ?_
      cases h
      exact q_ireturn dX12_shipLow_15 rfl hQ
set_option maxRecDepth 20000 in
theorem M_shipHigh_ok {X : qX} (hL : ∀ c, c < 93 → c ∈ qLs X) (d : Nat) (a0 : Int) (S : qSto) (o : (Int × qSto)) (h : M_shipHigh a0 S = some o) (Q : Option qV → qSto → Prop) (hQ : Q (some (qi o.1)) o.2) : qC X d yX12_shipHigh cX12_shipHigh 1 (some .int) [qi a0] S Q := by
  refine q_entry (lv := [(0, qi a0)]) pn_X12 (Nat.le_of_ble_eq_true rfl) rfl ?_
  unfold M_shipHigh at h
  refine q_iload_n dX12_shipHigh_0 rfl rfl ?_
  obtain ⟨c1931, h⟩ := qk_some h
  by_cases e3842 : a0 = 0
  · rw [if_pos e3842] at h
    refine q_tsw (tgt := 70) dX12_shipHigh_1 (qRb_R c1931) (by decide) (fun g => absurd g (by rw [e3842]; decide)) (fun _ _ => ⟨43, 44, by rw [e3842]; rfl, by decide, ?_⟩)
    refine q_sipush dX12_shipHigh_44 (by decide) rfl ?_
    cases h
    exact q_ireturn dX12_shipHigh_47 rfl hQ
  · rw [if_neg e3842] at h
    by_cases e3843 : a0 = 1
    · rw [if_pos e3843] at h
      refine q_tsw (tgt := 70) dX12_shipHigh_1 (qRb_R c1931) (by decide) (fun g => absurd g (by rw [e3843]; decide)) (fun _ _ => ⟨47, 48, by rw [e3843]; rfl, by decide, ?_⟩)
      refine q_sipush dX12_shipHigh_48 (by decide) rfl ?_
      cases h
      exact q_ireturn dX12_shipHigh_51 rfl hQ
    · rw [if_neg e3843] at h
      by_cases e3844 : a0 = 2
      · rw [if_pos e3844] at h
        refine q_tsw (tgt := 70) dX12_shipHigh_1 (qRb_R c1931) (by decide) (fun g => absurd g (by rw [e3844]; decide)) (fun _ _ => ⟨51, 52, by rw [e3844]; rfl, by decide, ?_⟩)
        refine q_sipush dX12_shipHigh_52 (by decide) rfl ?_
        cases h
        exact q_ireturn dX12_shipHigh_55 rfl hQ
      · rw [if_neg e3844] at h
        by_cases e3845 : a0 = 3
        · rw [if_pos e3845] at h
          refine q_tsw (tgt := 70) dX12_shipHigh_1 (qRb_R c1931) (by decide) (fun g => absurd g (by rw [e3845]; decide)) (fun _ _ => ⟨55, 56, by rw [e3845]; rfl, by decide, ?_⟩)
          refine q_sipush dX12_shipHigh_56 (by decide) rfl ?_
          cases h
          exact q_ireturn dX12_shipHigh_59 rfl hQ
        · rw [if_neg e3845] at h
          by_cases e3846 : a0 = 4
          · rw [if_pos e3846] at h
            refine q_tsw (tgt := 70) dX12_shipHigh_1 (qRb_R c1931) (by decide) (fun g => absurd g (by rw [e3846]; decide)) (fun _ _ => ⟨59, 60, by rw [e3846]; rfl, by decide, ?_⟩)
            refine q_sipush dX12_shipHigh_60 (by decide) rfl ?_
            cases h
            exact q_ireturn dX12_shipHigh_63 rfl hQ
          · rw [if_neg e3846] at h
            by_cases e3847 : a0 = 5
            · rw [if_pos e3847] at h
              refine q_tsw (tgt := 70) dX12_shipHigh_1 (qRb_R c1931) (by decide) (fun g => absurd g (by rw [e3847]; decide)) (fun _ _ => ⟨63, 64, by rw [e3847]; rfl, by decide, ?_⟩)
              refine q_sipush dX12_shipHigh_64 (by decide) rfl ?_
              cases h
              exact q_ireturn dX12_shipHigh_67 rfl hQ
            · rw [if_neg e3847] at h
              by_cases e3848 : a0 = 6
              · rw [if_pos e3848] at h
                refine q_tsw (tgt := 70) dX12_shipHigh_1 (qRb_R c1931) (by decide) (fun g => absurd g (by rw [e3848]; decide)) (fun _ _ => ⟨67, 68, by rw [e3848]; rfl, by decide, ?_⟩)
                refine q_iconst dX12_shipHigh_68 rfl rfl ?_
                cases h
                exact q_ireturn dX12_shipHigh_69 rfl hQ
              · rw [if_neg e3848] at h
                refine q_tsw (tgt := 70) dX12_shipHigh_1 (qRb_R c1931) (by decide) (fun _ => ?_) (fun g1 g2 => absurd g1 (by omega))
                refine q_bipush dX12_shipHigh_70 (by decide) rfl ?_
                cases h
                exact q_ireturn dX12_shipHigh_72 rfl hQ
set_option maxRecDepth 20000 in
theorem M_number_ok {X : qX} (hL : ∀ c, c < 93 → c ∈ qLs X) (d : Nat) (a1 : Int) (a2 : Int) (S : qSto) (o : (Int × qSto)) (h : M_number a1 a2 S = some o) (Q : Option qV → qSto → Prop) (hQ : Q (some (qi o.1)) o.2) : qC X (d + 4) yX12_number cX12_number 4 (some .int) [qr 70, qi a1, qi a2] S Q := by
  refine q_entry (lv := [(0, qr 70), (1, qi a1), (2, qi a2)]) pn_X12 (Nat.le_of_ble_eq_true rfl) rfl ?_
  unfold M_number at h
  refine q_aload_n dX12_number_0 rfl rfl ?_
  refine q_getI dX12_number_1 fl_X12_147 (hL 70 (by decide)) sh_70 (by decide) rfl rfl ?_
  obtain ⟨c1934, h⟩ := qk_some h
  refine q_if_le (tgt := 9) dX12_number_4 (by decide) rfl (qRb_R c1934)  (fun g => ?_) (fun g => ?_)
  · rw [if_pos (show (S 70 11) ≤ 0 from g)] at h
    refine q_aload_n dX12_number_9 rfl rfl ?_
    refine q_getI dX12_number_10 fl_X12_120 (hL 70 (by decide)) sh_70 (by decide) rfl rfl ?_
    refine q_iconst dX12_number_13 rfl rfl ?_
    refine q_jn (G := fun (t1946 : qSto) => qW X (d + 4) yX12_number cX12_number 4 (some .int) 53 [(0, qr 70)] [] t1946 Q) h (fun t1946 h => ?_) (fun t1946 h hk3849 => ?_)
    · try dsimp only at h
      refine q_aload_n dX12_number_53 rfl rfl ?_
      refine q_aload_n dX12_number_54 rfl rfl ?_
      refine q_getI dX12_number_55 fl_X12_117 (hL 70 (by decide)) sh_70 (by decide) rfl rfl ?_
      refine q_putI dX12_number_58 fl_X12_157 (hL 70 (by decide)) sh_70 (by decide) pf_12_13 pt_12_13 rfl rfl ?_
      refine q_aload_n dX12_number_61 rfl rfl ?_
      refine q_getI dX12_number_62 fl_X12_144 (hL 70 (by decide)) sh_70 (by decide) rfl rfl ?_
      refine q_istore_n (lv' := [(3, qi ((qup t1946 70 13 (t1946 70 8)) 70 10)), (0, qr 70)]) dX12_number_65 (by decide) rfl rfl ?_
      refine q_aload_n dX12_number_66 rfl rfl ?_
      refine q_getI dX12_number_67 fl_X12_147 (hL 70 (by decide)) sh_70 (by decide) rfl rfl ?_
      obtain ⟨c1947, h⟩ := qk_some h
      refine q_if_ne (tgt := 77) dX12_number_70 (by decide) rfl (qRb_R c1947)  (fun g => ?_) (fun g => ?_)
      · rw [if_neg (show ¬ (((qup t1946 70 13 (t1946 70 8)) 70 11) = 0) from g)] at h
        refine q_iload_n dX12_number_77 rfl rfl ?_
        cases h
        exact q_ireturn dX12_number_78 rfl hQ
      · rw [if_pos (show ((qup t1946 70 13 (t1946 70 8)) 70 11) = 0 from g)] at h
        refine q_aload_n dX12_number_73 rfl rfl ?_
        obtain ⟨q1948, h1949, h⟩ := Option.bind_eq_some_iff.mp h
        refine q_callVv (as := []) (c := 70) dX12_number_74 ml_X12_160 rfl rfl (hL 70 (by decide)) sh_70 rfl rfl (Nat.le_of_ble_eq_true rfl) (M_goOn_ok hL d _ _ h1949) rfl ?_
        refine q_iload_n dX12_number_77 rfl rfl ?_
        cases h
        exact q_ireturn dX12_number_78 rfl hQ
    · skip
      obtain ⟨c1935, h⟩ := qk_some h
      refine q_icmp_eq (tgt := 29) dX12_number_14 (by decide) rfl (qRb_R c1935) ⟨by decide, by decide⟩ (fun g => ?_) (fun g => ?_)
      · rw [if_pos (show (S 70 9) = 2 from g)] at h
        refine q_aload_n dX12_number_29 rfl rfl ?_
        refine q_getI dX12_number_30 fl_X12_144 (hL 70 (by decide)) sh_70 (by decide) rfl rfl ?_
        obtain ⟨c1936, h⟩ := qk_some h
        refine q_i2l dX12_number_33 (qRb_R c1936) rfl ?_
        refine q_iload_n dX12_number_34 rfl rfl ?_
        obtain ⟨c1937, h⟩ := qk_some h
        refine q_i2l dX12_number_35 (qRb_R c1937) rfl ?_
        refine q_iload_n dX12_number_36 rfl rfl ?_
        obtain ⟨c1938, h⟩ := qk_some h
        refine q_i2l dX12_number_37 (qRb_R c1938) rfl ?_
        obtain ⟨q1939, h1940, h⟩ := Option.bind_eq_some_iff.mp h
        refine q_callSi (as := [ql (S 70 10), ql a1, ql a2]) dX12_number_38 ml_X12_99 rfl rfl (Nat.le_of_ble_eq_true rfl) (M_in_ok hL (d + 3) (S 70 10) a1 a2 _ _ h1940) rfl ?_
        obtain ⟨c1941, h⟩ := qk_some h
        refine q_if_ne (tgt := 53) dX12_number_41 (by decide) rfl (qRb_R c1941)  (fun g => ?_) (fun g => ?_)
        · rw [if_neg (show ¬ (q1939.1 = 0) from g)] at h
          cases h
          exact q_pick [0] rfl hk3849
        · rw [if_pos (show q1939.1 = 0 from g)] at h
          refine q_aload_n dX12_number_44 rfl rfl ?_
          refine q_iconst dX12_number_45 rfl rfl ?_
          refine q_aload_n dX12_number_46 rfl rfl ?_
          refine q_getI dX12_number_47 fl_X12_117 (hL 70 (by decide)) sh_70 (by decide) rfl rfl ?_
          obtain ⟨q1942, h1943, h⟩ := Option.bind_eq_some_iff.mp h
          refine q_callVv (as := [qi 2, qi (q1939.2 70 8)]) (c := 70) dX12_number_50 ml_X12_153 rfl rfl (hL 70 (by decide)) sh_70 rfl rfl (Nat.le_of_ble_eq_true rfl) (M_fail_ok hL (d + 3) 2 (q1939.2 70 8) _ _ h1943) rfl ?_
          cases h
          exact q_pick [0] rfl hk3849
      · rw [if_neg (show ¬ ((S 70 9) = 2) from g)] at h
        refine q_aload_n dX12_number_17 rfl rfl ?_
        refine q_iconst dX12_number_18 rfl rfl ?_
        refine q_aload_n dX12_number_19 rfl rfl ?_
        refine q_getI dX12_number_20 fl_X12_117 (hL 70 (by decide)) sh_70 (by decide) rfl rfl ?_
        obtain ⟨q1944, h1945, h⟩ := Option.bind_eq_some_iff.mp h
        refine q_callVv (as := [qi 1, qi (S 70 8)]) (c := 70) dX12_number_23 ml_X12_153 rfl rfl (hL 70 (by decide)) sh_70 rfl rfl (Nat.le_of_ble_eq_true rfl) (M_fail_ok hL (d + 3) 1 (S 70 8) _ _ h1945) rfl ?_
        refine q_goto (pc' := 53) dX12_number_26 (by decide) ?_
        cases h
        exact q_pick [0] rfl hk3849
  · rw [if_neg (show ¬ ((S 70 11) ≤ 0) from g)] at h
    refine q_iload_n dX12_number_7 rfl rfl ?_
    cases h
    exact q_ireturn dX12_number_8 rfl hQ
