set_option maxRecDepth 20000 in
theorem C_takeBytes_L3_ok {X : qX} (hL : ∀ c, c < 93 → c ∈ qLs X) (d : Nat) {Q : Option qV → qSto → Prop} : ∀ (n : Nat) (x1 : Int) (x2 : Int) (S : qSto) (o : qSto), C_takeBytes_L3 n x1 x2 S = some o → (qW X d yX11_takeBytes cX11_takeBytes 3 none 46 [] [] o Q) → qW X d yX11_takeBytes cX11_takeBytes 3 none 3 [(0, qr 0), (1, qi x1), (2, qi x2)] [] S Q := by
  intro n
  induction n with
  | zero =>
    intro x1 x2 S o h
    simp [C_takeBytes_L3] at h
  | succ n ih =>
    intro x1 x2 S o h hE
    rw [C_takeBytes_L3] at h
    refine q_iload_n dX11_takeBytes_3 rfl rfl ?_
    obtain ⟨c2, h⟩ := qk_some h
    refine q_if_lt (tgt := 46) dX11_takeBytes_4 (by decide) rfl (qRb_R c2)  (fun g => ?_) (fun g => ?_)
    · rw [if_pos (show x2 < 0 from g)] at h
      cases h
      exact q_pick [] rfl (hE)
    · rw [if_neg (show ¬ (x2 < 0) from g)] at h
      refine q_aload_n dX11_takeBytes_7 rfl rfl ?_
      refine q_getI dX11_takeBytes_8 fl_X11_114 (hL 0 (by decide)) sh_0 (by decide) rfl rfl ?_
      refine q_sipush dX11_takeBytes_11 (by decide) rfl ?_
      obtain ⟨c3, h⟩ := qk_some h
      refine q_icmp_ge (tgt := 46) dX11_takeBytes_14 (by decide) rfl (qRb_R c3) ⟨by decide, by decide⟩ (fun g => ?_) (fun g => ?_)
      · rw [if_pos (show 1200 ≤ (S 0 1) from g)] at h
        cases h
        exact q_pick [] rfl (hE)
      · rw [if_neg (show ¬ (1200 ≤ (S 0 1)) from g)] at h
        refine q_aload_n dX11_takeBytes_17 rfl rfl ?_
        refine q_getA dX11_takeBytes_18 fl_X11_9 (hL 0 (by decide)) sh_0 (by decide) rfl rfl ?_
        refine q_aload_n dX11_takeBytes_21 rfl rfl ?_
        refine q_getI dX11_takeBytes_22 fl_X11_114 (hL 0 (by decide)) sh_0 (by decide) rfl rfl ?_
        refine q_iload_n dX11_takeBytes_25 rfl rfl ?_
        refine q_iload_n dX11_takeBytes_26 rfl rfl ?_
        refine q_ishr dX11_takeBytes_27 rfl ?_
        refine q_i2b dX11_takeBytes_28 rfl ?_
        obtain ⟨c4, h⟩ := qk_some h
        obtain ⟨c5, h⟩ := qk_some h
        refine q_bastore dX11_takeBytes_29 (hL 1 (by decide)) sh_1 (qIx_0 c4) (qIx_1 c4) (qBb_B c5) rfl ?_
        refine q_aload_n dX11_takeBytes_30 rfl rfl ?_
        refine q_dupA dX11_takeBytes_31 rfl ?_
        refine q_getI dX11_takeBytes_32 fl_X11_114 (hL 0 (by decide)) sh_0 (by decide) rfl rfl ?_
        refine q_iconst dX11_takeBytes_35 rfl rfl ?_
        refine q_iadd dX11_takeBytes_36 rfl ?_
        refine q_putI dX11_takeBytes_37 fl_X11_114 (hL 0 (by decide)) sh_0 (by decide) pf_11_1 pt_11_1 rfl rfl ?_
        refine q_iinc (lv' := [(2, qi (x2 + (-8))), (0, qr 0), (1, qi x1)]) dX11_takeBytes_40 (by decide) rfl rfl rfl ?_
        refine q_goto (pc' := 3) dX11_takeBytes_43 (by decide) ?_
        exact q_pick [1, 2, 0] rfl (ih x1 (x2 + (-8)) _ _ h hE)
set_option maxRecDepth 20000 in
theorem C_takeBytes_ok {X : qX} (hL : ∀ c, c < 93 → c ∈ qLs X) (d : Nat) (a1 : Int) (S : qSto) (o : qSto) (h : C_takeBytes a1 S = some o) (Q : Option qV → qSto → Prop) (hQ : Q none o) : qC X d yX11_takeBytes cX11_takeBytes 3 none [qr 0, qi a1] S Q := by
  refine q_entry (lv := [(0, qr 0), (1, qi a1)]) pn_X11 (Nat.le_of_ble_eq_true rfl) rfl ?_
  unfold C_takeBytes at h
  refine q_bipush dX11_takeBytes_0 (by decide) rfl ?_
  refine q_istore_n (lv' := [(2, qi 24), (0, qr 0), (1, qi a1)]) dX11_takeBytes_2 (by decide) rfl rfl ?_
  obtain ⟨q6, h7, h⟩ := Option.bind_eq_some_iff.mp h
  refine q_pick [1, 2, 0] rfl (C_takeBytes_L3_ok hL d qF a1 24 _ _ h7 ?_)
  cases h
  exact q_return dX11_takeBytes_46 rfl hQ
set_option maxRecDepth 20000 in
theorem C_feed_ok {X : qX} (hL : ∀ c, c < 93 → c ∈ qLs X) (d : Nat) (a1 : Int) (a2 : Int) (a3 : Int) (a4 : Int) (a5 : Int) (S : qSto) (o : (Int × qSto)) (h : C_feed a1 a2 a3 a4 a5 S = some o) (Q : Option qV → qSto → Prop) (hQ : Q (some (qi o.1)) o.2) : qC X (d + 1) yX11_feed cX11_feed 6 (some .int) [qr 0, qi a1, qi a2, qi a3, qi a4, qi a5] S Q := by
  refine q_entry (lv := [(0, qr 0), (1, qi a1), (2, qi a2), (3, qi a3), (4, qi a4), (5, qi a5)]) pn_X11 (Nat.le_of_ble_eq_true rfl) rfl ?_
  unfold C_feed at h
  refine q_aload_n dX11_feed_0 rfl rfl ?_
  refine q_getI dX11_feed_1 fl_X11_114 (hL 0 (by decide)) sh_0 (by decide) rfl rfl ?_
  refine q_bipush dX11_feed_4 (by decide) rfl ?_
  refine q_iadd dX11_feed_6 rfl ?_
  refine q_sipush dX11_feed_7 (by decide) rfl ?_
  obtain ⟨c1, h⟩ := qk_some h
  refine q_icmp_le (tgt := 15) dX11_feed_10 (by decide) rfl (qRb_R c1) ⟨by decide, by decide⟩ (fun g => ?_) (fun g => ?_)
  · rw [if_pos (show ((S 0 1) + 20) ≤ 1200 from g)] at h
    refine q_aload_n dX11_feed_15 rfl rfl ?_
    refine q_iload_n dX11_feed_16 rfl rfl ?_
    obtain ⟨q8, h9, h⟩ := Option.bind_eq_some_iff.mp h
    refine q_callVv (as := [qi a1]) (c := 0) dX11_feed_17 ml_X11_118 rfl rfl (hL 0 (by decide)) sh_0 rfl rfl (Nat.le_of_ble_eq_true rfl) (C_takeBytes_ok hL d a1 _ _ h9) rfl ?_
    refine q_aload_n dX11_feed_20 rfl rfl ?_
    refine q_iload_n dX11_feed_21 rfl rfl ?_
    obtain ⟨q10, h11, h⟩ := Option.bind_eq_some_iff.mp h
    refine q_callVv (as := [qi a2]) (c := 0) dX11_feed_22 ml_X11_118 rfl rfl (hL 0 (by decide)) sh_0 rfl rfl (Nat.le_of_ble_eq_true rfl) (C_takeBytes_ok hL d a2 _ _ h11) rfl ?_
    refine q_aload_n dX11_feed_25 rfl rfl ?_
    refine q_iload_n dX11_feed_26 rfl rfl ?_
    obtain ⟨q12, h13, h⟩ := Option.bind_eq_some_iff.mp h
    refine q_callVv (as := [qi a3]) (c := 0) dX11_feed_27 ml_X11_118 rfl rfl (hL 0 (by decide)) sh_0 rfl rfl (Nat.le_of_ble_eq_true rfl) (C_takeBytes_ok hL d a3 _ _ h13) rfl ?_
    refine q_aload_n dX11_feed_30 rfl rfl ?_
    refine q_iload dX11_feed_31 rfl rfl ?_
    obtain ⟨q14, h15, h⟩ := Option.bind_eq_some_iff.mp h
    refine q_callVv (as := [qi a4]) (c := 0) dX11_feed_33 ml_X11_118 rfl rfl (hL 0 (by decide)) sh_0 rfl rfl (Nat.le_of_ble_eq_true rfl) (C_takeBytes_ok hL d a4 _ _ h15) rfl ?_
    refine q_aload_n dX11_feed_36 rfl rfl ?_
    refine q_iload dX11_feed_37 rfl rfl ?_
    obtain ⟨q16, h17, h⟩ := Option.bind_eq_some_iff.mp h
    refine q_callVv (as := [qi a5]) (c := 0) dX11_feed_39 ml_X11_118 rfl rfl (hL 0 (by decide)) sh_0 rfl rfl (Nat.le_of_ble_eq_true rfl) (C_takeBytes_ok hL d a5 _ _ h17) rfl ?_
    refine q_aload_n dX11_feed_42 rfl rfl ?_
    refine q_getI dX11_feed_43 fl_X11_114 (hL 0 (by decide)) sh_0 (by decide) rfl rfl ?_
    cases h
    exact q_ireturn dX11_feed_46 rfl hQ
  · rw [if_neg (show ¬ (((S 0 1) + 20) ≤ 1200) from g)] at h
    refine q_iconst dX11_feed_13 rfl rfl ?_
    cases h
    exact q_ireturn dX11_feed_14 rfl hQ
set_option maxRecDepth 20000 in
theorem Jm_min_ok {X : qX} (hL : ∀ c, c < 93 → c ∈ qLs X) (d : Nat) (a0 : Int) (a1 : Int) (S : qSto) (o : (Int × qSto)) (h : Jm_min a0 a1 S = some o) (Q : Option qV → qSto → Prop) (hQ : Q (some (qi o.1)) o.2) : qC X d yJ9_min_7cf53 cJ9_min_7cf53 2 (some .int) [qi a0, qi a1] S Q := by
  refine q_entryF (lv := [(0, qi a0), (1, qi a1)]) pn_J9_min_7cf53 (Nat.le_of_ble_eq_true rfl) rfl ?_
  unfold Jm_min at h
  refine q_iload_n dJ9_min_7cf53_0 rfl rfl ?_
  refine q_iload_n dJ9_min_7cf53_1 rfl rfl ?_
  obtain ⟨c21, h⟩ := qk_some h
  obtain ⟨c22, h⟩ := qk_some h
  refine q_icmp_gt (tgt := 9) dJ9_min_7cf53_2 (by decide) rfl (qRb_R c21) (qRb_R c22) (fun g => ?_) (fun g => ?_)
  · rw [if_pos (show a1 < a0 from g)] at h
    refine q_iload_n dJ9_min_7cf53_9 rfl rfl ?_
    cases h
    exact q_ireturn dJ9_min_7cf53_10 rfl hQ
  · rw [if_neg (show ¬ (a1 < a0) from g)] at h
    refine q_iload_n dJ9_min_7cf53_5 rfl rfl ?_
    refine q_goto (pc' := 10) dJ9_min_7cf53_6 (by decide) ?_
    cases h
    exact q_ireturn dJ9_min_7cf53_10 rfl hQ
set_option maxRecDepth 20000 in
theorem Ja_fill_32_L5_ok {X : qX} (hL : ∀ c, c < 93 → c ∈ qLs X) (d : Nat) {Q : Option qV → qSto → Prop} : ∀ (n : Nat) (x1 : Int) (x2 : Int) (S : qSto) (o : qSto), Ja_fill_32_L5 n x1 x2 S = some o → (qW X d yJ7_fill_53178 cJ7_fill_53178 4 none 20 [] [] o Q) → qW X d yJ7_fill_53178 cJ7_fill_53178 4 none 5 [(0, qr 32), (1, qi x1), (2, qi x2), (3, qi 21)] [] S Q := by
  intro n
  induction n with
  | zero =>
    intro x1 x2 S o h
    simp [Ja_fill_32_L5] at h
  | succ n ih =>
    intro x1 x2 S o h hE
    rw [Ja_fill_32_L5] at h
    refine q_iload_n dJ7_fill_53178_5 rfl rfl ?_
    refine q_iload_n dJ7_fill_53178_6 rfl rfl ?_
    obtain ⟨c25, h⟩ := qk_some h
    refine q_icmp_ge (tgt := 20) dJ7_fill_53178_7 (by decide) rfl (qRb_R c25) ⟨by decide, by decide⟩ (fun g => ?_) (fun g => ?_)
    · rw [if_pos (show 21 ≤ x2 from g)] at h
      cases h
      exact q_pick [] rfl (hE)
    · rw [if_neg (show ¬ (21 ≤ x2) from g)] at h
      refine q_aload_n dJ7_fill_53178_10 rfl rfl ?_
      refine q_iload_n dJ7_fill_53178_11 rfl rfl ?_
      refine q_iload_n dJ7_fill_53178_12 rfl rfl ?_
      obtain ⟨c26, h⟩ := qk_some h
      refine q_iastore dJ7_fill_53178_13 (hL 32 (by decide)) sh_32 (qIx_0 c26) (qIx_1 c26) rfl ?_
      refine q_iinc (lv' := [(2, qi (x2 + 1)), (0, qr 32), (1, qi x1), (3, qi 21)]) dJ7_fill_53178_14 (by decide) rfl rfl rfl ?_
      refine q_goto (pc' := 5) dJ7_fill_53178_17 (by decide) ?_
      exact q_pick [1, 2, 0, 3] rfl (ih x1 (x2 + 1) _ _ h hE)
set_option maxRecDepth 20000 in
theorem Ja_fill_32_ok {X : qX} (hL : ∀ c, c < 93 → c ∈ qLs X) (d : Nat) (a1 : Int) (S : qSto) (o : qSto) (h : Ja_fill_32 a1 S = some o) (Q : Option qV → qSto → Prop) (hQ : Q none o) : qC X d yJ7_fill_53178 cJ7_fill_53178 4 none [qr 32, qi a1] S Q := by
  refine q_entry (lv := [(0, qr 32), (1, qi a1)]) pn_J7 (Nat.le_of_ble_eq_true rfl) rfl ?_
  unfold Ja_fill_32 at h
  refine q_iconst dJ7_fill_53178_0 rfl rfl ?_
  refine q_istore_n (lv' := [(2, qi 0), (0, qr 32), (1, qi a1)]) dJ7_fill_53178_1 (by decide) rfl rfl ?_
  refine q_aload_n dJ7_fill_53178_2 rfl rfl ?_
  refine q_alen (k0 := 0) dJ7_fill_53178_3 (hL 32 (by decide)) sh_32 (by decide) rfl ?_
  refine q_istore_n (lv' := [(3, qi 21), (2, qi 0), (0, qr 32), (1, qi a1)]) dJ7_fill_53178_4 (by decide) rfl rfl ?_
  obtain ⟨q27, h28, h⟩ := Option.bind_eq_some_iff.mp h
  refine q_pick [2, 3, 1, 0] rfl (Ja_fill_32_L5_ok hL d qF a1 0 _ _ h28 ?_)
  cases h
  exact q_return dJ7_fill_53178_20 rfl hQ
set_option maxRecDepth 20000 in
theorem Heard_forget_ok {X : qX} (hL : ∀ c, c < 93 → c ∈ qLs X) (d : Nat) (S : qSto) (o : qSto) (h : Heard_forget S = some o) (Q : Option qV → qSto → Prop) (hQ : Q none o) : qC X (d + 1) yX8_forget cX8_forget 1 none [qr 3] S Q := by
  refine q_entry (lv := [(0, qr 3)]) pn_X8 (Nat.le_of_ble_eq_true rfl) rfl ?_
  unfold Heard_forget at h
  refine q_gets (i := 4) dX8_forget_0 (by decide) (by decide) rfl ?_
  refine q_iconst dX8_forget_3 rfl rfl ?_
  refine q_aload_n dX8_forget_4 rfl rfl ?_
  refine q_getA dX8_forget_5 fl_X8_9 (hL 3 (by decide)) sh_3 (by decide) rfl rfl ?_
  refine q_iconst dX8_forget_8 rfl rfl ?_
  refine q_bipush dX8_forget_9 (by decide) rfl ?_
  refine q_copyT (t := 4) dX8_forget_11 cw_X8_45 (by decide) (hL 25 (by decide)) sh_25 (by decide) (by decide) (by decide) (by decide) (by decide) (Nat.le_of_ble_eq_true rfl) rfl ?_
  refine q_aload_n dX8_forget_14 rfl rfl ?_
  refine q_iconst dX8_forget_15 rfl rfl ?_
  refine q_putI dX8_forget_16 fl_X8_51 (hL 3 (by decide)) sh_3 (by decide) pf_8_1 pt_8_1 rfl rfl ?_
  refine q_aload_n dX8_forget_19 rfl rfl ?_
  refine q_iconst dX8_forget_20 rfl rfl ?_
  refine q_putI dX8_forget_21 fl_X8_55 (hL 3 (by decide)) sh_3 (by decide) pf_8_2 pt_8_2 rfl rfl ?_
  refine q_aload_n dX8_forget_24 rfl rfl ?_
  refine q_iconst dX8_forget_25 rfl rfl ?_
  refine q_putI dX8_forget_26 fl_X8_58 (hL 3 (by decide)) sh_3 (by decide) pf_8_5 pt_8_5 rfl rfl ?_
  refine q_aload_n dX8_forget_29 rfl rfl ?_
  refine q_iconst dX8_forget_30 rfl rfl ?_
  refine q_putI dX8_forget_31 fl_X8_61 (hL 3 (by decide)) sh_3 (by decide) pf_8_8 pt_8_8 rfl rfl ?_
  refine q_aload_n dX8_forget_34 rfl rfl ?_
  refine q_getA dX8_forget_35 fl_X8_33 (hL 3 (by decide)) sh_3 (by decide) rfl rfl ?_
  refine q_iconst dX8_forget_38 rfl rfl ?_
  obtain ⟨q29, h30, h⟩ := Option.bind_eq_some_iff.mp h
  refine q_callSv (as := [qr 32, qi (-1)]) dX8_forget_39 ml_X8_64 rfl rfl (Nat.le_of_ble_eq_true rfl) (Ja_fill_32_ok hL d (-1) _ _ h30) rfl ?_
  refine q_aload_n dX8_forget_42 rfl rfl ?_
  refine q_iconst dX8_forget_43 rfl rfl ?_
  refine q_putI dX8_forget_44 fl_X8_70 (hL 3 (by decide)) sh_3 (by decide) pf_8_12 pt_8_12 rfl rfl ?_
  cases h
  exact q_return dX8_forget_47 rfl hQ
set_option maxRecDepth 20000 in
theorem Reader_skipBlanks_L0_ok {X : qX} (hL : ∀ c, c < 93 → c ∈ qLs X) (d : Nat) {Q : Option qV → qSto → Prop} : ∀ (n : Nat) (S : qSto) (o : qSto), Reader_skipBlanks_L0 n S = some o → (qW X d yX5_skipBlanks cX5_skipBlanks 1 none 52 [] [] o Q) → qW X d yX5_skipBlanks cX5_skipBlanks 1 none 0 [(0, qr 4)] [] S Q := by
  intro n
  induction n with
  | zero =>
    intro S o h
    simp [Reader_skipBlanks_L0] at h
  | succ n ih =>
    intro S o h hE
    rw [Reader_skipBlanks_L0] at h
    refine q_aload_n dX5_skipBlanks_0 rfl rfl ?_
    refine q_getI dX5_skipBlanks_1 fl_X5_36 (hL 4 (by decide)) sh_4 (by decide) rfl rfl ?_
    refine q_aload_n dX5_skipBlanks_4 rfl rfl ?_
    refine q_getI dX5_skipBlanks_5 fl_X5_33 (hL 4 (by decide)) sh_4 (by decide) rfl rfl ?_
    obtain ⟨c35, h⟩ := qk_some h
    obtain ⟨c36, h⟩ := qk_some h
    refine q_icmp_ge (tgt := 52) dX5_skipBlanks_8 (by decide) rfl (qRb_R c35) (qRb_R c36) (fun g => ?_) (fun g => ?_)
    · rw [if_pos (show (S 4 3) ≤ (S 4 4) from g)] at h
      cases h
      exact q_pick [] rfl (hE)
    · rw [if_neg (show ¬ ((S 4 3) ≤ (S 4 4)) from g)] at h
      refine q_aload_n dX5_skipBlanks_11 rfl rfl ?_
      refine q_getA dX5_skipBlanks_12 fl_X5_19 (hL 4 (by decide)) sh_4 (by decide) rfl rfl ?_
      refine q_aload_n dX5_skipBlanks_15 rfl rfl ?_
      refine q_getI dX5_skipBlanks_16 fl_X5_36 (hL 4 (by decide)) sh_4 (by decide) rfl rfl ?_
      obtain ⟨c37, h⟩ := qk_some h
      refine q_baload dX5_skipBlanks_19 (hL 1 (by decide)) sh_1 (qIx_0 c37) (qIx_1 c37) rfl ?_
      refine q_bipush dX5_skipBlanks_20 (by decide) rfl ?_
      obtain ⟨c38, h⟩ := qk_some h
      refine q_icmp_eq (tgt := 39) dX5_skipBlanks_22 (by decide) rfl (qRb_R c38) ⟨by decide, by decide⟩ (fun g => ?_) (fun g => ?_)
      · rw [if_pos (show (S 1 (Int.toNat (S 4 4))) = 32 from g)] at h
        refine q_aload_n dX5_skipBlanks_39 rfl rfl ?_
        refine q_dupA dX5_skipBlanks_40 rfl ?_
        refine q_getI dX5_skipBlanks_41 fl_X5_36 (hL 4 (by decide)) sh_4 (by decide) rfl rfl ?_
        refine q_iconst dX5_skipBlanks_44 rfl rfl ?_
        refine q_iadd dX5_skipBlanks_45 rfl ?_
        refine q_putI dX5_skipBlanks_46 fl_X5_36 (hL 4 (by decide)) sh_4 (by decide) pf_5_4 pt_5_4 rfl rfl ?_
        refine q_goto (pc' := 0) dX5_skipBlanks_49 (by decide) ?_
        exact q_pick [0] rfl (ih _ _ h hE)
      · rw [if_neg (show ¬ ((S 1 (Int.toNat (S 4 4))) = 32) from g)] at h
        refine q_aload_n dX5_skipBlanks_25 rfl rfl ?_
        refine q_getA dX5_skipBlanks_26 fl_X5_19 (hL 4 (by decide)) sh_4 (by decide) rfl rfl ?_
        refine q_aload_n dX5_skipBlanks_29 rfl rfl ?_
        refine q_getI dX5_skipBlanks_30 fl_X5_36 (hL 4 (by decide)) sh_4 (by decide) rfl rfl ?_
        obtain ⟨c39, h⟩ := qk_some h
        refine q_baload dX5_skipBlanks_33 (hL 1 (by decide)) sh_1 (qIx_0 c39) (qIx_1 c39) rfl ?_
        refine q_bipush dX5_skipBlanks_34 (by decide) rfl ?_
        obtain ⟨c40, h⟩ := qk_some h
        refine q_icmp_ne (tgt := 52) dX5_skipBlanks_36 (by decide) rfl (qRb_R c40) ⟨by decide, by decide⟩ (fun g => ?_) (fun g => ?_)
        · rw [if_neg (show ¬ ((S 1 (Int.toNat (S 4 4))) = 10) from g)] at h
          cases h
          exact q_pick [] rfl (hE)
        · rw [if_pos (show (S 1 (Int.toNat (S 4 4))) = 10 from g)] at h
          refine q_aload_n dX5_skipBlanks_39 rfl rfl ?_
          refine q_dupA dX5_skipBlanks_40 rfl ?_
          refine q_getI dX5_skipBlanks_41 fl_X5_36 (hL 4 (by decide)) sh_4 (by decide) rfl rfl ?_
          refine q_iconst dX5_skipBlanks_44 rfl rfl ?_
          refine q_iadd dX5_skipBlanks_45 rfl ?_
          refine q_putI dX5_skipBlanks_46 fl_X5_36 (hL 4 (by decide)) sh_4 (by decide) pf_5_4 pt_5_4 rfl rfl ?_
          refine q_goto (pc' := 0) dX5_skipBlanks_49 (by decide) ?_
          exact q_pick [0] rfl (ih _ _ h hE)
set_option maxRecDepth 20000 in
theorem Reader_skipBlanks_ok {X : qX} (hL : ∀ c, c < 93 → c ∈ qLs X) (d : Nat) (S : qSto) (o : qSto) (h : Reader_skipBlanks S = some o) (Q : Option qV → qSto → Prop) (hQ : Q none o) : qC X d yX5_skipBlanks cX5_skipBlanks 1 none [qr 4] S Q := by
  refine q_entry (lv := [(0, qr 4)]) pn_X5 (Nat.le_of_ble_eq_true rfl) rfl ?_
  unfold Reader_skipBlanks at h
  obtain ⟨q41, h42, h⟩ := Option.bind_eq_some_iff.mp h
  refine q_pick [0] rfl (Reader_skipBlanks_L0_ok hL d qF _ _ h42 ?_)
  cases h
  exact q_return dX5_skipBlanks_52 rfl hQ
set_option maxRecDepth 20000 in
theorem Reader_passRow_L5_ok {X : qX} (hL : ∀ c, c < 93 → c ∈ qLs X) (d : Nat) {Q : Option qV → qSto → Prop} : ∀ (n : Nat) (x1 : Int) (x2 : Int) (x3 : Int) (S : qSto) (o : qSto), Reader_passRow_L5 n x1 x2 S = some o → (qW X d yX5_passRow cX5_passRow 4 (some .int) 55 [(0, qr 4), (3, qi x3)] [] o Q) → qW X d yX5_passRow cX5_passRow 4 (some .int) 5 [(0, qr 4), (1, qi x1), (2, qi x2), (3, qi x3)] [] S Q := by
  intro n
  induction n with
  | zero =>
    intro x1 x2 x3 S o h
    simp [Reader_passRow_L5] at h
  | succ n ih =>
    intro x1 x2 x3 S o h hE
    rw [Reader_passRow_L5] at h
    refine q_aload_n dX5_passRow_5 rfl rfl ?_
    refine q_getI dX5_passRow_6 fl_X5_36 (hL 4 (by decide)) sh_4 (by decide) rfl rfl ?_
    refine q_aload_n dX5_passRow_9 rfl rfl ?_
    refine q_getI dX5_passRow_10 fl_X5_33 (hL 4 (by decide)) sh_4 (by decide) rfl rfl ?_
    obtain ⟨c47, h⟩ := qk_some h
    obtain ⟨c48, h⟩ := qk_some h
    refine q_icmp_ge (tgt := 55) dX5_passRow_13 (by decide) rfl (qRb_R c47) (qRb_R c48) (fun g => ?_) (fun g => ?_)
    · rw [if_pos (show (S 4 3) ≤ (S 4 4) from g)] at h
      cases h
      exact q_pick [0, 3] rfl (hE)
    · rw [if_neg (show ¬ ((S 4 3) ≤ (S 4 4)) from g)] at h
      refine q_aload_n dX5_passRow_16 rfl rfl ?_
      refine q_getA dX5_passRow_17 fl_X5_19 (hL 4 (by decide)) sh_4 (by decide) rfl rfl ?_
      refine q_aload_n dX5_passRow_20 rfl rfl ?_
      refine q_getI dX5_passRow_21 fl_X5_36 (hL 4 (by decide)) sh_4 (by decide) rfl rfl ?_
      obtain ⟨c49, h⟩ := qk_some h
      refine q_baload dX5_passRow_24 (hL 1 (by decide)) sh_1 (qIx_0 c49) (qIx_1 c49) rfl ?_
      refine q_iload_n dX5_passRow_25 rfl rfl ?_
      obtain ⟨c50, h⟩ := qk_some h
      obtain ⟨c51, h⟩ := qk_some h
      refine q_icmp_lt (tgt := 55) dX5_passRow_26 (by decide) rfl (qRb_R c50) (qRb_R c51) (fun g => ?_) (fun g => ?_)
      · rw [if_pos (show (S 1 (Int.toNat (S 4 4))) < x1 from g)] at h
        cases h
        exact q_pick [0, 3] rfl (hE)
      · rw [if_neg (show ¬ ((S 1 (Int.toNat (S 4 4))) < x1) from g)] at h
        refine q_aload_n dX5_passRow_29 rfl rfl ?_
        refine q_getA dX5_passRow_30 fl_X5_19 (hL 4 (by decide)) sh_4 (by decide) rfl rfl ?_
        refine q_aload_n dX5_passRow_33 rfl rfl ?_
        refine q_getI dX5_passRow_34 fl_X5_36 (hL 4 (by decide)) sh_4 (by decide) rfl rfl ?_
        obtain ⟨c52, h⟩ := qk_some h
        refine q_baload dX5_passRow_37 (hL 1 (by decide)) sh_1 (qIx_0 c52) (qIx_1 c52) rfl ?_
        refine q_iload_n dX5_passRow_38 rfl rfl ?_
        obtain ⟨c53, h⟩ := qk_some h
        obtain ⟨c54, h⟩ := qk_some h
        refine q_icmp_gt (tgt := 55) dX5_passRow_39 (by decide) rfl (qRb_R c53) (qRb_R c54) (fun g => ?_) (fun g => ?_)
        · rw [if_pos (show x2 < (S 1 (Int.toNat (S 4 4))) from g)] at h
          cases h
          exact q_pick [0, 3] rfl (hE)
        · rw [if_neg (show ¬ (x2 < (S 1 (Int.toNat (S 4 4)))) from g)] at h
          refine q_aload_n dX5_passRow_42 rfl rfl ?_
          refine q_dupA dX5_passRow_43 rfl ?_
          refine q_getI dX5_passRow_44 fl_X5_36 (hL 4 (by decide)) sh_4 (by decide) rfl rfl ?_
          refine q_iconst dX5_passRow_47 rfl rfl ?_
          refine q_iadd dX5_passRow_48 rfl ?_
          refine q_putI dX5_passRow_49 fl_X5_36 (hL 4 (by decide)) sh_4 (by decide) pf_5_4 pt_5_4 rfl rfl ?_
          refine q_goto (pc' := 5) dX5_passRow_52 (by decide) ?_
          exact q_pick [0, 1, 2, 3] rfl (ih x1 x2 x3 _ _ h hE)
set_option maxRecDepth 20000 in
theorem Reader_passRow_ok {X : qX} (hL : ∀ c, c < 93 → c ∈ qLs X) (d : Nat) (a1 : Int) (a2 : Int) (S : qSto) (o : (Int × qSto)) (h : Reader_passRow a1 a2 S = some o) (Q : Option qV → qSto → Prop) (hQ : Q (some (qi o.1)) o.2) : qC X d yX5_passRow cX5_passRow 4 (some .int) [qr 4, qi a1, qi a2] S Q := by
  refine q_entry (lv := [(0, qr 4), (1, qi a1), (2, qi a2)]) pn_X5 (Nat.le_of_ble_eq_true rfl) rfl ?_
  unfold Reader_passRow at h
  refine q_aload_n dX5_passRow_0 rfl rfl ?_
  refine q_getI dX5_passRow_1 fl_X5_36 (hL 4 (by decide)) sh_4 (by decide) rfl rfl ?_
  refine q_istore_n (lv' := [(3, qi (S 4 4)), (0, qr 4), (1, qi a1), (2, qi a2)]) dX5_passRow_4 (by decide) rfl rfl ?_
  obtain ⟨q55, h56, h⟩ := Option.bind_eq_some_iff.mp h
  refine q_pick [1, 2, 3, 0] rfl (Reader_passRow_L5_ok hL d qF a1 a2 (S 4 4) _ _ h56 ?_)
  refine q_aload_n dX5_passRow_55 rfl rfl ?_
  refine q_getI dX5_passRow_56 fl_X5_36 (hL 4 (by decide)) sh_4 (by decide) rfl rfl ?_
  refine q_iload_n dX5_passRow_59 rfl rfl ?_
  refine q_isub dX5_passRow_60 rfl ?_
  cases h
  exact q_ireturn dX5_passRow_61 rfl hQ
set_option maxRecDepth 20000 in
theorem Reader_wordOf_ok {X : qX} (hL : ∀ c, c < 93 → c ∈ qLs X) (d : Nat) (a0 : Int) (S : qSto) (o : (Nat × qSto)) (h : Reader_wordOf a0 S = some o) (Q : Option qV → qSto → Prop) (hQ : Q (some (qr o.1)) o.2) : qC X d yX5_wordOf cX5_wordOf 1 (some (.object "java/lang/String")) [qi a0] S Q := by
  refine q_entry (lv := [(0, qi a0)]) pn_X5 (Nat.le_of_ble_eq_true rfl) rfl ?_
  unfold Reader_wordOf at h
  refine q_iload_n dX5_wordOf_0 rfl rfl ?_
  obtain ⟨c60, h⟩ := qk_some h
  by_cases e4033 : a0 = 0
  · rw [if_pos e4033] at h
    refine q_tsw (tgt := 86) dX5_wordOf_1 (qRb_R c60) (by decide) (fun g => absurd g (by rw [e4033]; decide)) (fun _ _ => ⟨55, 56, by rw [e4033]; rfl, by decide, ?_⟩)
    refine q_ldcS (i := 0) (tx := "quay") dX5_wordOf_56 rfl rfl rfl ?_
    cases h
    exact q_areturn dX5_wordOf_58 rfl hQ
  · rw [if_neg e4033] at h
    by_cases e4034 : a0 = 1
    · rw [if_pos e4034] at h
      refine q_tsw (tgt := 86) dX5_wordOf_1 (qRb_R c60) (by decide) (fun g => absurd g (by rw [e4034]; decide)) (fun _ _ => ⟨58, 59, by rw [e4034]; rfl, by decide, ?_⟩)
      refine q_ldcS (i := 1) (tx := "gap") dX5_wordOf_59 rfl rfl rfl ?_
      cases h
      exact q_areturn dX5_wordOf_61 rfl hQ
    · rw [if_neg e4034] at h
      by_cases e4035 : a0 = 2
      · rw [if_pos e4035] at h
        refine q_tsw (tgt := 86) dX5_wordOf_1 (qRb_R c60) (by decide) (fun g => absurd g (by rw [e4035]; decide)) (fun _ _ => ⟨61, 62, by rw [e4035]; rfl, by decide, ?_⟩)
        refine q_ldcS (i := 2) (tx := "keel") dX5_wordOf_62 rfl rfl rfl ?_
        cases h
        exact q_areturn dX5_wordOf_64 rfl hQ
      · rw [if_neg e4035] at h
        by_cases e4036 : a0 = 3
        · rw [if_pos e4036] at h
          refine q_tsw (tgt := 86) dX5_wordOf_1 (qRb_R c60) (by decide) (fun g => absurd g (by rw [e4036]; decide)) (fun _ _ => ⟨64, 65, by rw [e4036]; rfl, by decide, ?_⟩)
          refine q_ldcS (i := 3) (tx := "channel") dX5_wordOf_65 rfl rfl rfl ?_
          cases h
          exact q_areturn dX5_wordOf_67 rfl hQ
        · rw [if_neg e4036] at h
          by_cases e4037 : a0 = 4
          · rw [if_pos e4037] at h
            refine q_tsw (tgt := 86) dX5_wordOf_1 (qRb_R c60) (by decide) (fun g => absurd g (by rw [e4037]; decide)) (fun _ _ => ⟨67, 68, by rw [e4037]; rfl, by decide, ?_⟩)
            refine q_ldcS (i := 4) (tx := "rate") dX5_wordOf_68 rfl rfl rfl ?_
            cases h
            exact q_areturn dX5_wordOf_70 rfl hQ
          · rw [if_neg e4037] at h
            by_cases e4038 : a0 = 5
            · rw [if_pos e4038] at h
              refine q_tsw (tgt := 86) dX5_wordOf_1 (qRb_R c60) (by decide) (fun g => absurd g (by rw [e4038]; decide)) (fun _ _ => ⟨70, 71, by rw [e4038]; rfl, by decide, ?_⟩)
              refine q_ldcS (i := 5) (tx := "loss") dX5_wordOf_71 rfl rfl rfl ?_
              cases h
              exact q_areturn dX5_wordOf_73 rfl hQ
            · rw [if_neg e4038] at h
              by_cases e4039 : a0 = 6
              · rw [if_pos e4039] at h
                refine q_tsw (tgt := 86) dX5_wordOf_1 (qRb_R c60) (by decide) (fun g => absurd g (by rw [e4039]; decide)) (fun _ _ => ⟨73, 74, by rw [e4039]; rfl, by decide, ?_⟩)
                refine q_ldcS (i := 6) (tx := "section") dX5_wordOf_74 rfl rfl rfl ?_
                cases h
                exact q_areturn dX5_wordOf_76 rfl hQ
              · rw [if_neg e4039] at h
                by_cases e4040 : a0 = 7
                · rw [if_pos e4040] at h
                  refine q_tsw (tgt := 86) dX5_wordOf_1 (qRb_R c60) (by decide) (fun g => absurd g (by rw [e4040]; decide)) (fun _ _ => ⟨76, 77, by rw [e4040]; rfl, by decide, ?_⟩)
                  refine q_ldcS (i := 7) (tx := "crane") dX5_wordOf_77 rfl rfl rfl ?_
                  cases h
                  exact q_areturn dX5_wordOf_79 rfl hQ
                · rw [if_neg e4040] at h
                  by_cases e4041 : a0 = 8
                  · rw [if_pos e4041] at h
                    refine q_tsw (tgt := 86) dX5_wordOf_1 (qRb_R c60) (by decide) (fun g => absurd g (by rw [e4041]; decide)) (fun _ _ => ⟨79, 80, by rw [e4041]; rfl, by decide, ?_⟩)
                    refine q_ldcS (i := 8) (tx := "tide") dX5_wordOf_80 rfl rfl rfl ?_
                    cases h
                    exact q_areturn dX5_wordOf_82 rfl hQ
                  · rw [if_neg e4041] at h
                    by_cases e4042 : a0 = 9
                    · rw [if_pos e4042] at h
                      refine q_tsw (tgt := 86) dX5_wordOf_1 (qRb_R c60) (by decide) (fun g => absurd g (by rw [e4042]; decide)) (fun _ _ => ⟨82, 83, by rw [e4042]; rfl, by decide, ?_⟩)
                      refine q_ldcS (i := 9) (tx := "gangs") dX5_wordOf_83 rfl rfl rfl ?_
                      cases h
                      exact q_areturn dX5_wordOf_85 rfl hQ
                    · rw [if_neg e4042] at h
                      refine q_tsw (tgt := 86) dX5_wordOf_1 (qRb_R c60) (by decide) (fun _ => ?_) (fun g1 g2 => absurd g1 (by omega))
                      refine q_ldcS (i := 10) (tx := "ship") dX5_wordOf_86 rfl rfl rfl ?_
                      cases h
                      exact q_areturn dX5_wordOf_88 rfl hQ
set_option maxRecDepth 20000 in
theorem Reader_isWord_x_L13_ok {X : qX} (hL : ∀ c, c < 93 → c ∈ qLs X) (d : Nat) {Q : Option qV → qSto → Prop} : ∀ (n : Nat) (x1 : Nat) (x2 : Int) (x3 : Int) (x4 : Int) (S : qSto) (o : (qSto ⊕ (Int × qSto))), Reader_isWord_x_L13 n x1 x2 x3 x4 S = some o → (∀ t, o = Sum.inl t → qW X (d + 4) yX5_isWord cX5_isWord 5 (some .boolean) 45 [] [] t Q) → (∀ w, o = Sum.inr w → Q (some (qi w.1)) w.2) → qW X (d + 4) yX5_isWord cX5_isWord 5 (some .boolean) 13 [(0, qr 4), (1, qr x1), (2, qi x2), (3, qi x3), (4, qi x4)] [] S Q := by
  intro n
  induction n with
  | zero =>
    intro x1 x2 x3 x4 S o h
    simp [Reader_isWord_x_L13] at h
  | succ n ih =>
    intro x1 x2 x3 x4 S o h hE hR
    rw [Reader_isWord_x_L13] at h
    refine q_iload dX5_isWord_13 rfl rfl ?_
    refine q_iload_n dX5_isWord_15 rfl rfl ?_
    obtain ⟨c68, h⟩ := qk_some h
    obtain ⟨c69, h⟩ := qk_some h
    refine q_icmp_ge (tgt := 45) dX5_isWord_16 (by decide) rfl (qRb_R c68) (qRb_R c69) (fun g => ?_) (fun g => ?_)
    · rw [if_pos (show x3 ≤ x4 from g)] at h
      cases h
      exact q_pick [] rfl (hE _ rfl)
    · rw [if_neg (show ¬ (x3 ≤ x4) from g)] at h
      refine q_aload_n dX5_isWord_19 rfl rfl ?_
      refine q_iload dX5_isWord_20 rfl rfl ?_
      obtain ⟨c70, h⟩ := qk_some h
      obtain ⟨q71, h72, h⟩ := Option.bind_eq_some_iff.mp h
      refine q_callTi (as := [qi x4]) (c := x1) dX5_isWord_22 ml_X5_121 rfl rfl c70 rfl (Nat.le_of_ble_eq_true rfl) (Js_charAt_ok d x1 c70 x4 _ _ h72) rfl ?_
      refine q_aload_n dX5_isWord_25 rfl rfl ?_
      refine q_getA dX5_isWord_26 fl_X5_19 (hL 4 (by decide)) sh_4 (by decide) rfl rfl ?_
      refine q_iload_n dX5_isWord_29 rfl rfl ?_
      refine q_iload dX5_isWord_30 rfl rfl ?_
      refine q_iadd dX5_isWord_32 rfl ?_
      obtain ⟨c73, h⟩ := qk_some h
      refine q_baload dX5_isWord_33 (hL 1 (by decide)) sh_1 (qIx_0 c73) (qIx_1 c73) rfl ?_
      obtain ⟨c74, h⟩ := qk_some h
      obtain ⟨c75, h⟩ := qk_some h
      refine q_icmp_eq (tgt := 39) dX5_isWord_34 (by decide) rfl (qRb_R c74) (qRb_R c75) (fun g => ?_) (fun g => ?_)
      · rw [if_pos (show q71.1 = (q71.2 1 (Int.toNat (x2 + x4))) from g)] at h
        refine q_iinc (lv' := [(4, qi (x4 + 1)), (0, qr 4), (1, qr x1), (2, qi x2), (3, qi x3)]) dX5_isWord_39 (by decide) rfl rfl rfl ?_
        refine q_goto (pc' := 13) dX5_isWord_42 (by decide) ?_
        exact q_pick [1, 2, 3, 4, 0] rfl (ih x1 x2 x3 (x4 + 1) _ _ h hE hR)
      · rw [if_neg (show ¬ (q71.1 = (q71.2 1 (Int.toNat (x2 + x4)))) from g)] at h
        refine q_iconst dX5_isWord_37 rfl rfl ?_
        cases h
        exact q_zreturn dX5_isWord_38 rfl (by decide) (hR _ rfl)
set_option maxRecDepth 20000 in
theorem Reader_isWord_x_ok {X : qX} (hL : ∀ c, c < 93 → c ∈ qLs X) (d : Nat) (a1 : Nat) (a2 : Int) (a3 : Int) (S : qSto) (o : (Int × qSto)) (h : Reader_isWord_x a1 a2 a3 S = some o) (Q : Option qV → qSto → Prop) (hQ : Q (some (qi o.1)) o.2) : qC X (d + 4) yX5_isWord cX5_isWord 5 (some .boolean) [qr 4, qr a1, qi a2, qi a3] S Q := by
  refine q_entry (lv := [(0, qr 4), (1, qr a1), (2, qi a2), (3, qi a3)]) pn_X5 (Nat.le_of_ble_eq_true rfl) rfl ?_
  unfold Reader_isWord_x at h
  refine q_aload_n dX5_isWord_0 rfl rfl ?_
  obtain ⟨c63, h⟩ := qk_some h
  obtain ⟨q64, h65, h⟩ := Option.bind_eq_some_iff.mp h
  refine q_callTi (as := []) (c := a1) dX5_isWord_1 ml_X5_116 rfl rfl c63 rfl (Nat.le_of_ble_eq_true rfl) (Js_length_ok (d + 2) a1 c63 _ _ h65) rfl ?_
  refine q_iload_n dX5_isWord_4 rfl rfl ?_
  obtain ⟨c66, h⟩ := qk_some h
  obtain ⟨c67, h⟩ := qk_some h
  refine q_icmp_eq (tgt := 10) dX5_isWord_5 (by decide) rfl (qRb_R c66) (qRb_R c67) (fun g => ?_) (fun g => ?_)
  · rw [if_pos (show q64.1 = a3 from g)] at h
    refine q_iconst dX5_isWord_10 rfl rfl ?_
    refine q_istore (lv' := [(4, qi 0), (0, qr 4), (1, qr a1), (2, qi a2), (3, qi a3)]) dX5_isWord_11 (by decide) rfl rfl ?_
    obtain ⟨q76, h77, h⟩ := Option.bind_eq_some_iff.mp h
    refine q_pick [1, 2, 3, 4, 0] rfl (Reader_isWord_x_L13_ok hL d qF a1 a2 a3 0 _ _ h77 (fun t78 e4043 => ?_) (fun w e4043 => ?_))
    · subst e4043
      simp only [Sum.elim_inl] at h
      refine q_iconst dX5_isWord_45 rfl rfl ?_
      cases h
      exact q_zreturn dX5_isWord_46 rfl (by decide) hQ
    · subst e4043
      simp only [Sum.elim_inr] at h
      cases h
      exact hQ
  · rw [if_neg (show ¬ (q64.1 = a3) from g)] at h
    refine q_iconst dX5_isWord_8 rfl rfl ?_
    cases h
    exact q_zreturn dX5_isWord_9 rfl (by decide) hQ
set_option maxRecDepth 20000 in
theorem Reader_lineKind_L2_ok {X : qX} (hL : ∀ c, c < 93 → c ∈ qLs X) (d : Nat) {Q : Option qV → qSto → Prop} : ∀ (n : Nat) (x1 : Int) (x2 : Int) (x3 : Int) (S : qSto) (o : (qSto ⊕ (Int × qSto))), Reader_lineKind_L2 n x1 x2 x3 S = some o → (∀ t, o = Sum.inl t → qW X (d + 5) yX5_lineKind cX5_lineKind 4 (some .int) 29 [] [] t Q) → (∀ w, o = Sum.inr w → Q (some (qi w.1)) w.2) → qW X (d + 5) yX5_lineKind cX5_lineKind 4 (some .int) 2 [(0, qr 4), (1, qi x1), (2, qi x2), (3, qi x3)] [] S Q := by
  intro n
  induction n with
  | zero =>
    intro x1 x2 x3 S o h
    simp [Reader_lineKind_L2] at h
  | succ n ih =>
    intro x1 x2 x3 S o h hE hR
    rw [Reader_lineKind_L2] at h
    refine q_iload_n dX5_lineKind_2 rfl rfl ?_
    refine q_bipush dX5_lineKind_3 (by decide) rfl ?_
    obtain ⟨c59, h⟩ := qk_some h
    refine q_icmp_ge (tgt := 29) dX5_lineKind_5 (by decide) rfl (qRb_R c59) ⟨by decide, by decide⟩ (fun g => ?_) (fun g => ?_)
    · rw [if_pos (show 11 ≤ x3 from g)] at h
      cases h
      exact q_pick [] rfl (hE _ rfl)
    · rw [if_neg (show ¬ (11 ≤ x3) from g)] at h
      refine q_aload_n dX5_lineKind_8 rfl rfl ?_
      refine q_iload_n dX5_lineKind_9 rfl rfl ?_
      obtain ⟨q61, h62, h⟩ := Option.bind_eq_some_iff.mp h
      refine q_callSr (as := [qi x3]) dX5_lineKind_10 ml_X5_108 rfl rfl (Nat.le_of_ble_eq_true rfl) (Reader_wordOf_ok hL (d + 4) x3 _ _ h62) rfl ?_
      refine q_iload_n dX5_lineKind_13 rfl rfl ?_
      refine q_iload_n dX5_lineKind_14 rfl rfl ?_
      obtain ⟨q79, h80, h⟩ := Option.bind_eq_some_iff.mp h
      refine q_callVi (as := [qr q61.1, qi x1, qi x2]) (c := 4) dX5_lineKind_15 ml_X5_112 rfl rfl (hL 4 (by decide)) sh_4 rfl rfl (Nat.le_of_ble_eq_true rfl) (Reader_isWord_x_ok hL d q61.1 x1 x2 _ _ h80) rfl ?_
      obtain ⟨c81, h⟩ := qk_some h
      refine q_if_eq (tgt := 23) dX5_lineKind_18 (by decide) rfl (qRb_R c81)  (fun g => ?_) (fun g => ?_)
      · rw [if_pos (show q79.1 = 0 from g)] at h
        refine q_iinc (lv' := [(3, qi (x3 + 1)), (0, qr 4), (1, qi x1), (2, qi x2)]) dX5_lineKind_23 (by decide) rfl rfl rfl ?_
        refine q_goto (pc' := 2) dX5_lineKind_26 (by decide) ?_
        exact q_pick [1, 2, 3, 0] rfl (ih x1 x2 (x3 + 1) _ _ h hE hR)
      · rw [if_neg (show ¬ (q79.1 = 0) from g)] at h
        refine q_iload_n dX5_lineKind_21 rfl rfl ?_
        cases h
        exact q_ireturn dX5_lineKind_22 rfl (hR _ rfl)
set_option maxRecDepth 20000 in
theorem Reader_lineKind_ok {X : qX} (hL : ∀ c, c < 93 → c ∈ qLs X) (d : Nat) (a1 : Int) (a2 : Int) (S : qSto) (o : (Int × qSto)) (h : Reader_lineKind a1 a2 S = some o) (Q : Option qV → qSto → Prop) (hQ : Q (some (qi o.1)) o.2) : qC X (d + 5) yX5_lineKind cX5_lineKind 4 (some .int) [qr 4, qi a1, qi a2] S Q := by
  refine q_entry (lv := [(0, qr 4), (1, qi a1), (2, qi a2)]) pn_X5 (Nat.le_of_ble_eq_true rfl) rfl ?_
  unfold Reader_lineKind at h
  refine q_iconst dX5_lineKind_0 rfl rfl ?_
  refine q_istore_n (lv' := [(3, qi 0), (0, qr 4), (1, qi a1), (2, qi a2)]) dX5_lineKind_1 (by decide) rfl rfl ?_
  obtain ⟨q82, h83, h⟩ := Option.bind_eq_some_iff.mp h
  refine q_pick [1, 2, 3, 0] rfl (Reader_lineKind_L2_ok hL d qF a1 a2 0 _ _ h83 (fun t84 e4044 => ?_) (fun w e4044 => ?_))
  · subst e4044
    simp only [Sum.elim_inl] at h
    refine q_iconst dX5_lineKind_29 rfl rfl ?_
    cases h
    exact q_ireturn dX5_lineKind_30 rfl hQ
  · subst e4044
    simp only [Sum.elim_inr] at h
    cases h
    exact hQ
set_option maxRecDepth 20000 in
theorem Heard_isSetAlready_ok {X : qX} (hL : ∀ c, c < 93 → c ∈ qLs X) (d : Nat) (a1 : Int) (S : qSto) (o : (Int × qSto)) (h : Heard_isSetAlready a1 S = some o) (Q : Option qV → qSto → Prop) (hQ : Q (some (qi o.1)) o.2) : qC X d yX8_isSetAlready cX8_isSetAlready 2 (some .boolean) [qr 3, qi a1] S Q := by
  refine q_entry (lv := [(0, qr 3), (1, qi a1)]) pn_X8 (Nat.le_of_ble_eq_true rfl) rfl ?_
  unfold Heard_isSetAlready at h
  refine q_iload_n dX8_isSetAlready_0 rfl rfl ?_
  refine q_bipush dX8_isSetAlready_1 (by decide) rfl ?_
  obtain ⟨c88, h⟩ := qk_some h
  refine q_icmp_ge (tgt := 21) dX8_isSetAlready_3 (by decide) rfl (qRb_R c88) ⟨by decide, by decide⟩ (fun g => ?_) (fun g => ?_)
  · rw [if_pos (show 6 ≤ a1 from g)] at h
    refine q_iconst dX8_isSetAlready_21 rfl rfl ?_
    cases h
    exact q_zreturn dX8_isSetAlready_22 rfl (by decide) hQ
  · rw [if_neg (show ¬ (6 ≤ a1) from g)] at h
    refine q_aload_n dX8_isSetAlready_6 rfl rfl ?_
    refine q_getI dX8_isSetAlready_7 fl_X8_51 (hL 3 (by decide)) sh_3 (by decide) rfl rfl ?_
    refine q_iload_n dX8_isSetAlready_10 rfl rfl ?_
    refine q_ishr dX8_isSetAlready_11 rfl ?_
    refine q_iconst dX8_isSetAlready_12 rfl rfl ?_
    refine q_iand dX8_isSetAlready_13 rfl ?_
    obtain ⟨c89, h⟩ := qk_some h
    refine q_if_eq (tgt := 21) dX8_isSetAlready_14 (by decide) rfl (qRb_R c89)  (fun g => ?_) (fun g => ?_)
    · rw [if_pos (show (qb_iand (qb_ishr (S 3 1) a1) 1) = 0 from g)] at h
      refine q_iconst dX8_isSetAlready_21 rfl rfl ?_
      cases h
      exact q_zreturn dX8_isSetAlready_22 rfl (by decide) hQ
    · rw [if_neg (show ¬ ((qb_iand (qb_ishr (S 3 1) a1) 1) = 0) from g)] at h
      refine q_iconst dX8_isSetAlready_17 rfl rfl ?_
      refine q_goto (pc' := 22) dX8_isSetAlready_18 (by decide) ?_
      cases h
      exact q_zreturn dX8_isSetAlready_22 rfl (by decide) hQ
set_option maxRecDepth 20000 in
theorem Heard_isFull_ok {X : qX} (hL : ∀ c, c < 93 → c ∈ qLs X) (d : Nat) (a1 : Int) (S : qSto) (o : (Int × qSto)) (h : Heard_isFull a1 S = some o) (Q : Option qV → qSto → Prop) (hQ : Q (some (qi o.1)) o.2) : qC X d yX8_isFull cX8_isFull 2 (some .boolean) [qr 3, qi a1] S Q := by
  refine q_entry (lv := [(0, qr 3), (1, qi a1)]) pn_X8 (Nat.le_of_ble_eq_true rfl) rfl ?_
  unfold Heard_isFull at h
  refine q_iload_n dX8_isFull_0 rfl rfl ?_
  obtain ⟨c93, h⟩ := qk_some h
  by_cases e4045 : a1 = 6
  · rw [if_pos e4045] at h
    refine q_tsw (tgt := 96) dX8_isFull_1 (qRb_R c93) (by decide) (fun g => absurd g (by rw [e4045]; decide)) (fun _ _ => ⟨35, 36, by rw [e4045]; rfl, by decide, ?_⟩)
    refine q_aload_n dX8_isFull_36 rfl rfl ?_
    refine q_getI dX8_isFull_37 fl_X8_55 (hL 3 (by decide)) sh_3 (by decide) rfl rfl ?_
    refine q_bipush dX8_isFull_40 (by decide) rfl ?_
    obtain ⟨c94, h⟩ := qk_some h
    refine q_icmp_lt (tgt := 49) dX8_isFull_42 (by decide) rfl (qRb_R c94) ⟨by decide, by decide⟩ (fun g => ?_) (fun g => ?_)
    · rw [if_pos (show (S 3 2) < 8 from g)] at h
      refine q_iconst dX8_isFull_49 rfl rfl ?_
      cases h
      exact q_zreturn dX8_isFull_50 rfl (by decide) hQ
    · rw [if_neg (show ¬ ((S 3 2) < 8) from g)] at h
      refine q_iconst dX8_isFull_45 rfl rfl ?_
      refine q_goto (pc' := 50) dX8_isFull_46 (by decide) ?_
      cases h
      exact q_zreturn dX8_isFull_50 rfl (by decide) hQ
  · rw [if_neg e4045] at h
    by_cases e4046 : a1 = 7
    · rw [if_pos e4046] at h
      refine q_tsw (tgt := 96) dX8_isFull_1 (qRb_R c93) (by decide) (fun g => absurd g (by rw [e4046]; decide)) (fun _ _ => ⟨50, 51, by rw [e4046]; rfl, by decide, ?_⟩)
      refine q_aload_n dX8_isFull_51 rfl rfl ?_
      refine q_getI dX8_isFull_52 fl_X8_58 (hL 3 (by decide)) sh_3 (by decide) rfl rfl ?_
      refine q_bipush dX8_isFull_55 (by decide) rfl ?_
      obtain ⟨c95, h⟩ := qk_some h
      refine q_icmp_lt (tgt := 64) dX8_isFull_57 (by decide) rfl (qRb_R c95) ⟨by decide, by decide⟩ (fun g => ?_) (fun g => ?_)
      · rw [if_pos (show (S 3 5) < 8 from g)] at h
        refine q_iconst dX8_isFull_64 rfl rfl ?_
        cases h
        exact q_zreturn dX8_isFull_65 rfl (by decide) hQ
      · rw [if_neg (show ¬ ((S 3 5) < 8) from g)] at h
        refine q_iconst dX8_isFull_60 rfl rfl ?_
        refine q_goto (pc' := 65) dX8_isFull_61 (by decide) ?_
        cases h
        exact q_zreturn dX8_isFull_65 rfl (by decide) hQ
    · rw [if_neg e4046] at h
      by_cases e4047 : a1 = 8
      · rw [if_pos e4047] at h
        refine q_tsw (tgt := 96) dX8_isFull_1 (qRb_R c93) (by decide) (fun g => absurd g (by rw [e4047]; decide)) (fun _ _ => ⟨65, 66, by rw [e4047]; rfl, by decide, ?_⟩)
        refine q_aload_n dX8_isFull_66 rfl rfl ?_
        refine q_getI dX8_isFull_67 fl_X8_61 (hL 3 (by decide)) sh_3 (by decide) rfl rfl ?_
        refine q_bipush dX8_isFull_70 (by decide) rfl ?_
        obtain ⟨c96, h⟩ := qk_some h
        refine q_icmp_lt (tgt := 79) dX8_isFull_72 (by decide) rfl (qRb_R c96) ⟨by decide, by decide⟩ (fun g => ?_) (fun g => ?_)
        · rw [if_pos (show (S 3 8) < 30 from g)] at h
          refine q_iconst dX8_isFull_79 rfl rfl ?_
          cases h
          exact q_zreturn dX8_isFull_80 rfl (by decide) hQ
        · rw [if_neg (show ¬ ((S 3 8) < 30) from g)] at h
          refine q_iconst dX8_isFull_75 rfl rfl ?_
          refine q_goto (pc' := 80) dX8_isFull_76 (by decide) ?_
          cases h
          exact q_zreturn dX8_isFull_80 rfl (by decide) hQ
      · rw [if_neg e4047] at h
        by_cases e4048 : a1 = 9
        · rw [if_pos e4048] at h
          refine q_tsw (tgt := 96) dX8_isFull_1 (qRb_R c93) (by decide) (fun g => absurd g (by rw [e4048]; decide)) (fun _ _ => ⟨95, 96, by rw [e4048]; rfl, by decide, ?_⟩)
          refine q_iconst dX8_isFull_96 rfl rfl ?_
          cases h
          exact q_zreturn dX8_isFull_97 rfl (by decide) hQ
        · rw [if_neg e4048] at h
          by_cases e4049 : a1 = 10
          · rw [if_pos e4049] at h
            refine q_tsw (tgt := 96) dX8_isFull_1 (qRb_R c93) (by decide) (fun g => absurd g (by rw [e4049]; decide)) (fun _ _ => ⟨80, 81, by rw [e4049]; rfl, by decide, ?_⟩)
            refine q_aload_n dX8_isFull_81 rfl rfl ?_
            refine q_getI dX8_isFull_82 fl_X8_70 (hL 3 (by decide)) sh_3 (by decide) rfl rfl ?_
            refine q_bipush dX8_isFull_85 (by decide) rfl ?_
            obtain ⟨c97, h⟩ := qk_some h
            refine q_icmp_lt (tgt := 94) dX8_isFull_87 (by decide) rfl (qRb_R c97) ⟨by decide, by decide⟩ (fun g => ?_) (fun g => ?_)
            · rw [if_pos (show (S 3 12) < 14 from g)] at h
              refine q_iconst dX8_isFull_94 rfl rfl ?_
              cases h
              exact q_zreturn dX8_isFull_95 rfl (by decide) hQ
            · rw [if_neg (show ¬ ((S 3 12) < 14) from g)] at h
              refine q_iconst dX8_isFull_90 rfl rfl ?_
              refine q_goto (pc' := 95) dX8_isFull_91 (by decide) ?_
              cases h
              exact q_zreturn dX8_isFull_95 rfl (by decide) hQ
          · rw [if_neg e4049] at h
            refine q_tsw (tgt := 96) dX8_isFull_1 (qRb_R c93) (by decide) (fun _ => ?_) (fun g1 g2 => absurd g1 (by omega))
            refine q_iconst dX8_isFull_96 rfl rfl ?_
            cases h
            exact q_zreturn dX8_isFull_97 rfl (by decide) hQ
set_option maxRecDepth 20000 in
theorem Reader_refuse_ok {X : qX} (hL : ∀ c, c < 93 → c ∈ qLs X) (d : Nat) (a1 : Int) (a2 : Int) (S : qSto) (o : (Int × qSto)) (h : Reader_refuse a1 a2 S = some o) (Q : Option qV → qSto → Prop) (hQ : Q (some (qi o.1)) o.2) : qC X d yX5_refuse cX5_refuse 3 (some .boolean) [qr 4, qi a1, qi a2] S Q := by
  refine q_entry (lv := [(0, qr 4), (1, qi a1), (2, qi a2)]) pn_X5 (Nat.le_of_ble_eq_true rfl) rfl ?_
  unfold Reader_refuse at h
  refine q_aload_n dX5_refuse_0 rfl rfl ?_
  refine q_iload_n dX5_refuse_1 rfl rfl ?_
  refine q_putI dX5_refuse_2 fl_X5_39 (hL 4 (by decide)) sh_4 (by decide) pf_5_5 pt_5_5 rfl rfl ?_
  refine q_aload_n dX5_refuse_5 rfl rfl ?_
  refine q_iload_n dX5_refuse_6 rfl rfl ?_
  refine q_putI dX5_refuse_7 fl_X5_15 (hL 4 (by decide)) sh_4 (by decide) pf_5_6 pt_5_6 rfl rfl ?_
  refine q_iconst dX5_refuse_10 rfl rfl ?_
  cases h
  exact q_zreturn dX5_refuse_11 rfl (by decide) hQ
set_option maxRecDepth 20000 in
theorem Reader_leastNumber_ok {X : qX} (hL : ∀ c, c < 93 → c ∈ qLs X) (d : Nat) (a1 : Int) (a2 : Int) (S : qSto) (o : (Int × qSto)) (h : Reader_leastNumber a1 a2 S = some o) (Q : Option qV → qSto → Prop) (hQ : Q (some (qi o.1)) o.2) : qC X d yX5_leastNumber cX5_leastNumber 3 (some .int) [qr 4, qi a1, qi a2] S Q := by
  refine q_entry (lv := [(0, qr 4), (1, qi a1), (2, qi a2)]) pn_X5 (Nat.le_of_ble_eq_true rfl) rfl ?_
  unfold Reader_leastNumber at h
  refine q_iload_n dX5_leastNumber_0 rfl rfl ?_
  refine q_bipush dX5_leastNumber_1 (by decide) rfl ?_
  obtain ⟨c124, h⟩ := qk_some h
  refine q_icmp_ne (tgt := 18) dX5_leastNumber_3 (by decide) rfl (qRb_R c124) ⟨by decide, by decide⟩ (fun g => ?_) (fun g => ?_)
  · rw [if_neg (show ¬ (a1 = 7) from g)] at h
    refine q_iload_n dX5_leastNumber_18 rfl rfl ?_
    refine q_bipush dX5_leastNumber_19 (by decide) rfl ?_
    obtain ⟨c125, h⟩ := qk_some h
    refine q_icmp_ne (tgt := 38) dX5_leastNumber_21 (by decide) rfl (qRb_R c125) ⟨by decide, by decide⟩ (fun g => ?_) (fun g => ?_)
    · rw [if_neg (show ¬ (a1 = 10) from g)] at h
      refine q_gets (i := 2) dX5_leastNumber_38 (by decide) (by decide) rfl ?_
      refine q_gets (i := 1) dX5_leastNumber_41 (by decide) (by decide) rfl ?_
      refine q_iload_n dX5_leastNumber_44 rfl rfl ?_
      obtain ⟨c126, h⟩ := qk_some h
      refine q_tiaload (t := 1) dX5_leastNumber_45 (by decide) (qIx_0 c126) (qIx_1 c126) rfl ?_
      refine q_iload_n dX5_leastNumber_46 rfl rfl ?_
      refine q_iadd dX5_leastNumber_47 rfl ?_
      obtain ⟨c127, h⟩ := qk_some h
      refine q_tiaload (t := 2) dX5_leastNumber_48 (by decide) (qIx_0 c127) (qIx_1 c127) rfl ?_
      cases h
      exact q_ireturn dX5_leastNumber_49 rfl hQ
    · rw [if_pos (show a1 = 10 from g)] at h
      refine q_iload_n dX5_leastNumber_24 rfl rfl ?_
      refine q_bipush dX5_leastNumber_25 (by decide) rfl ?_
      obtain ⟨c128, h⟩ := qk_some h
      refine q_icmp_ne (tgt := 38) dX5_leastNumber_27 (by decide) rfl (qRb_R c128) ⟨by decide, by decide⟩ (fun g => ?_) (fun g => ?_)
      · rw [if_neg (show ¬ (a2 = 8) from g)] at h
        refine q_gets (i := 2) dX5_leastNumber_38 (by decide) (by decide) rfl ?_
        refine q_gets (i := 1) dX5_leastNumber_41 (by decide) (by decide) rfl ?_
        refine q_iload_n dX5_leastNumber_44 rfl rfl ?_
        obtain ⟨c129, h⟩ := qk_some h
        refine q_tiaload (t := 1) dX5_leastNumber_45 (by decide) (qIx_0 c129) (qIx_1 c129) rfl ?_
        refine q_iload_n dX5_leastNumber_46 rfl rfl ?_
        refine q_iadd dX5_leastNumber_47 rfl ?_
        obtain ⟨c130, h⟩ := qk_some h
        refine q_tiaload (t := 2) dX5_leastNumber_48 (by decide) (qIx_0 c130) (qIx_1 c130) rfl ?_
        cases h
        exact q_ireturn dX5_leastNumber_49 rfl hQ
      · rw [if_pos (show a2 = 8 from g)] at h
        refine q_aload_n dX5_leastNumber_30 rfl rfl ?_
        refine q_getA dX5_leastNumber_31 fl_X5_9 (hL 4 (by decide)) sh_4 (by decide) rfl rfl ?_
        refine q_bipush dX5_leastNumber_34 (by decide) rfl ?_
        refine q_iaload dX5_leastNumber_36 (hL 35 (by decide)) sh_35 (by decide) (by decide) rfl ?_
        cases h
        exact q_ireturn dX5_leastNumber_37 rfl hQ
  · rw [if_pos (show a1 = 7 from g)] at h
    refine q_iload_n dX5_leastNumber_6 rfl rfl ?_
    refine q_iconst dX5_leastNumber_7 rfl rfl ?_
    obtain ⟨c131, h⟩ := qk_some h
    refine q_icmp_ne (tgt := 18) dX5_leastNumber_8 (by decide) rfl (qRb_R c131) ⟨by decide, by decide⟩ (fun g => ?_) (fun g => ?_)
    · rw [if_neg (show ¬ (a2 = 1) from g)] at h
      refine q_iload_n dX5_leastNumber_18 rfl rfl ?_
      refine q_bipush dX5_leastNumber_19 (by decide) rfl ?_
      obtain ⟨c132, h⟩ := qk_some h
      refine q_icmp_ne (tgt := 38) dX5_leastNumber_21 (by decide) rfl (qRb_R c132) ⟨by decide, by decide⟩ (fun g => ?_) (fun g => ?_)
      · rw [if_neg (show ¬ (a1 = 10) from g)] at h
        refine q_gets (i := 2) dX5_leastNumber_38 (by decide) (by decide) rfl ?_
        refine q_gets (i := 1) dX5_leastNumber_41 (by decide) (by decide) rfl ?_
        refine q_iload_n dX5_leastNumber_44 rfl rfl ?_
        obtain ⟨c133, h⟩ := qk_some h
        refine q_tiaload (t := 1) dX5_leastNumber_45 (by decide) (qIx_0 c133) (qIx_1 c133) rfl ?_
        refine q_iload_n dX5_leastNumber_46 rfl rfl ?_
        refine q_iadd dX5_leastNumber_47 rfl ?_
        obtain ⟨c134, h⟩ := qk_some h
        refine q_tiaload (t := 2) dX5_leastNumber_48 (by decide) (qIx_0 c134) (qIx_1 c134) rfl ?_
        cases h
        exact q_ireturn dX5_leastNumber_49 rfl hQ
      · rw [if_pos (show a1 = 10 from g)] at h
        refine q_iload_n dX5_leastNumber_24 rfl rfl ?_
        refine q_bipush dX5_leastNumber_25 (by decide) rfl ?_
        obtain ⟨c135, h⟩ := qk_some h
        refine q_icmp_ne (tgt := 38) dX5_leastNumber_27 (by decide) rfl (qRb_R c135) ⟨by decide, by decide⟩ (fun g => ?_) (fun g => ?_)
        · rw [if_neg (show ¬ (a2 = 8) from g)] at h
          refine q_gets (i := 2) dX5_leastNumber_38 (by decide) (by decide) rfl ?_
          refine q_gets (i := 1) dX5_leastNumber_41 (by decide) (by decide) rfl ?_
          refine q_iload_n dX5_leastNumber_44 rfl rfl ?_
          obtain ⟨c136, h⟩ := qk_some h
          refine q_tiaload (t := 1) dX5_leastNumber_45 (by decide) (qIx_0 c136) (qIx_1 c136) rfl ?_
          refine q_iload_n dX5_leastNumber_46 rfl rfl ?_
          refine q_iadd dX5_leastNumber_47 rfl ?_
          obtain ⟨c137, h⟩ := qk_some h
          refine q_tiaload (t := 2) dX5_leastNumber_48 (by decide) (qIx_0 c137) (qIx_1 c137) rfl ?_
          cases h
          exact q_ireturn dX5_leastNumber_49 rfl hQ
        · rw [if_pos (show a2 = 8 from g)] at h
          refine q_aload_n dX5_leastNumber_30 rfl rfl ?_
          refine q_getA dX5_leastNumber_31 fl_X5_9 (hL 4 (by decide)) sh_4 (by decide) rfl rfl ?_
          refine q_bipush dX5_leastNumber_34 (by decide) rfl ?_
          refine q_iaload dX5_leastNumber_36 (hL 35 (by decide)) sh_35 (by decide) (by decide) rfl ?_
          cases h
          exact q_ireturn dX5_leastNumber_37 rfl hQ
    · rw [if_pos (show a2 = 1 from g)] at h
      refine q_aload_n dX5_leastNumber_11 rfl rfl ?_
      refine q_getA dX5_leastNumber_12 fl_X5_9 (hL 4 (by decide)) sh_4 (by decide) rfl rfl ?_
      refine q_iconst dX5_leastNumber_15 rfl rfl ?_
      refine q_iaload dX5_leastNumber_16 (hL 35 (by decide)) sh_35 (by decide) (by decide) rfl ?_
      cases h
      exact q_ireturn dX5_leastNumber_17 rfl hQ
set_option maxRecDepth 20000 in
theorem Told_holds_26_L2_ok {X : qX} (hL : ∀ c, c < 93 → c ∈ qLs X) (d : Nat) {Q : Option qV → qSto → Prop} : ∀ (n : Nat) (x1 : Int) (x2 : Int) (x3 : Int) (S : qSto) (o : (qSto ⊕ (Int × qSto))), Told_holds_26_L2 n x1 x2 x3 S = some o → (∀ t, o = Sum.inl t → qW X d yX8_holds cX8_holds 4 (some .boolean) 22 [] [] t Q) → (∀ w, o = Sum.inr w → Q (some (qi w.1)) w.2) → qW X d yX8_holds cX8_holds 4 (some .boolean) 2 [(0, qr 26), (1, qi x1), (2, qi x2), (3, qi x3)] [] S Q := by
  intro n
  induction n with
  | zero =>
    intro x1 x2 x3 S o h
    simp [Told_holds_26_L2] at h
  | succ n ih =>
    intro x1 x2 x3 S o h hE hR
    rw [Told_holds_26_L2] at h
    refine q_iload_n dX8_holds_2 rfl rfl ?_
    refine q_iload_n dX8_holds_3 rfl rfl ?_
    obtain ⟨c152, h⟩ := qk_some h
    obtain ⟨c153, h⟩ := qk_some h
    refine q_icmp_ge (tgt := 22) dX8_holds_4 (by decide) rfl (qRb_R c152) (qRb_R c153) (fun g => ?_) (fun g => ?_)
    · rw [if_pos (show x1 ≤ x3 from g)] at h
      cases h
      exact q_pick [] rfl (hE _ rfl)
    · rw [if_neg (show ¬ (x1 ≤ x3) from g)] at h
      refine q_aload_n dX8_holds_7 rfl rfl ?_
      refine q_iload_n dX8_holds_8 rfl rfl ?_
      obtain ⟨c154, h⟩ := qk_some h
      refine q_iaload dX8_holds_9 (hL 26 (by decide)) sh_26 (qIx_0 c154) (qIx_1 c154) rfl ?_
      refine q_iload_n dX8_holds_10 rfl rfl ?_
      obtain ⟨c155, h⟩ := qk_some h
      obtain ⟨c156, h⟩ := qk_some h
      refine q_icmp_ne (tgt := 16) dX8_holds_11 (by decide) rfl (qRb_R c155) (qRb_R c156) (fun g => ?_) (fun g => ?_)
      · rw [if_neg (show ¬ ((S 26 (Int.toNat x3)) = x2) from g)] at h
        refine q_iinc (lv' := [(3, qi (x3 + 1)), (0, qr 26), (1, qi x1), (2, qi x2)]) dX8_holds_16 (by decide) rfl rfl rfl ?_
        refine q_goto (pc' := 2) dX8_holds_19 (by decide) ?_
        exact q_pick [1, 2, 3, 0] rfl (ih x1 x2 (x3 + 1) _ _ h hE hR)
      · rw [if_pos (show (S 26 (Int.toNat x3)) = x2 from g)] at h
        refine q_iconst dX8_holds_14 rfl rfl ?_
        cases h
        exact q_zreturn dX8_holds_15 rfl (by decide) (hR _ rfl)
set_option maxRecDepth 20000 in
theorem Told_holds_26_ok {X : qX} (hL : ∀ c, c < 93 → c ∈ qLs X) (d : Nat) (a1 : Int) (a2 : Int) (S : qSto) (o : (Int × qSto)) (h : Told_holds_26 a1 a2 S = some o) (Q : Option qV → qSto → Prop) (hQ : Q (some (qi o.1)) o.2) : qC X d yX8_holds cX8_holds 4 (some .boolean) [qr 26, qi a1, qi a2] S Q := by
  refine q_entry (lv := [(0, qr 26), (1, qi a1), (2, qi a2)]) pn_X8 (Nat.le_of_ble_eq_true rfl) rfl ?_
  unfold Told_holds_26 at h
  refine q_iconst dX8_holds_0 rfl rfl ?_
  refine q_istore_n (lv' := [(3, qi 0), (0, qr 26), (1, qi a1), (2, qi a2)]) dX8_holds_1 (by decide) rfl rfl ?_
  obtain ⟨q157, h158, h⟩ := Option.bind_eq_some_iff.mp h
  refine q_pick [1, 2, 3, 0] rfl (Told_holds_26_L2_ok hL d qF a1 a2 0 _ _ h158 (fun t159 e4050 => ?_) (fun w e4050 => ?_))
  · subst e4050
    simp only [Sum.elim_inl] at h
    refine q_iconst dX8_holds_22 rfl rfl ?_
    cases h
    exact q_zreturn dX8_holds_23 rfl (by decide) hQ
  · subst e4050
    simp only [Sum.elim_inr] at h
    cases h
    exact hQ
set_option maxRecDepth 20000 in
theorem Told_holds_30_L2_ok {X : qX} (hL : ∀ c, c < 93 → c ∈ qLs X) (d : Nat) {Q : Option qV → qSto → Prop} : ∀ (n : Nat) (x1 : Int) (x2 : Int) (x3 : Int) (S : qSto) (o : (qSto ⊕ (Int × qSto))), Told_holds_30_L2 n x1 x2 x3 S = some o → (∀ t, o = Sum.inl t → qW X d yX8_holds cX8_holds 4 (some .boolean) 22 [] [] t Q) → (∀ w, o = Sum.inr w → Q (some (qi w.1)) w.2) → qW X d yX8_holds cX8_holds 4 (some .boolean) 2 [(0, qr 30), (1, qi x1), (2, qi x2), (3, qi x3)] [] S Q := by
  intro n
  induction n with
  | zero =>
    intro x1 x2 x3 S o h
    simp [Told_holds_30_L2] at h
  | succ n ih =>
    intro x1 x2 x3 S o h hE hR
    rw [Told_holds_30_L2] at h
    refine q_iload_n dX8_holds_2 rfl rfl ?_
    refine q_iload_n dX8_holds_3 rfl rfl ?_
    obtain ⟨c164, h⟩ := qk_some h
    obtain ⟨c165, h⟩ := qk_some h
    refine q_icmp_ge (tgt := 22) dX8_holds_4 (by decide) rfl (qRb_R c164) (qRb_R c165) (fun g => ?_) (fun g => ?_)
    · rw [if_pos (show x1 ≤ x3 from g)] at h
      cases h
      exact q_pick [] rfl (hE _ rfl)
    · rw [if_neg (show ¬ (x1 ≤ x3) from g)] at h
      refine q_aload_n dX8_holds_7 rfl rfl ?_
      refine q_iload_n dX8_holds_8 rfl rfl ?_
      obtain ⟨c166, h⟩ := qk_some h
      refine q_iaload dX8_holds_9 (hL 30 (by decide)) sh_30 (qIx_0 c166) (qIx_1 c166) rfl ?_
      refine q_iload_n dX8_holds_10 rfl rfl ?_
      obtain ⟨c167, h⟩ := qk_some h
      obtain ⟨c168, h⟩ := qk_some h
      refine q_icmp_ne (tgt := 16) dX8_holds_11 (by decide) rfl (qRb_R c167) (qRb_R c168) (fun g => ?_) (fun g => ?_)
      · rw [if_neg (show ¬ ((S 30 (Int.toNat x3)) = x2) from g)] at h
        refine q_iinc (lv' := [(3, qi (x3 + 1)), (0, qr 30), (1, qi x1), (2, qi x2)]) dX8_holds_16 (by decide) rfl rfl rfl ?_
        refine q_goto (pc' := 2) dX8_holds_19 (by decide) ?_
        exact q_pick [1, 2, 3, 0] rfl (ih x1 x2 (x3 + 1) _ _ h hE hR)
      · rw [if_pos (show (S 30 (Int.toNat x3)) = x2 from g)] at h
        refine q_iconst dX8_holds_14 rfl rfl ?_
        cases h
        exact q_zreturn dX8_holds_15 rfl (by decide) (hR _ rfl)
set_option maxRecDepth 20000 in
theorem Told_holds_30_ok {X : qX} (hL : ∀ c, c < 93 → c ∈ qLs X) (d : Nat) (a1 : Int) (a2 : Int) (S : qSto) (o : (Int × qSto)) (h : Told_holds_30 a1 a2 S = some o) (Q : Option qV → qSto → Prop) (hQ : Q (some (qi o.1)) o.2) : qC X d yX8_holds cX8_holds 4 (some .boolean) [qr 30, qi a1, qi a2] S Q := by
  refine q_entry (lv := [(0, qr 30), (1, qi a1), (2, qi a2)]) pn_X8 (Nat.le_of_ble_eq_true rfl) rfl ?_
  unfold Told_holds_30 at h
  refine q_iconst dX8_holds_0 rfl rfl ?_
  refine q_istore_n (lv' := [(3, qi 0), (0, qr 30), (1, qi a1), (2, qi a2)]) dX8_holds_1 (by decide) rfl rfl ?_
  obtain ⟨q169, h170, h⟩ := Option.bind_eq_some_iff.mp h
  refine q_pick [1, 2, 3, 0] rfl (Told_holds_30_L2_ok hL d qF a1 a2 0 _ _ h170 (fun t171 e4051 => ?_) (fun w e4051 => ?_))
  · subst e4051
    simp only [Sum.elim_inl] at h
    refine q_iconst dX8_holds_22 rfl rfl ?_
    cases h
    exact q_zreturn dX8_holds_23 rfl (by decide) hQ
  · subst e4051
    simp only [Sum.elim_inr] at h
    cases h
    exact hQ
set_option maxRecDepth 20000 in
theorem Heard_isToldAlready_35_ok {X : qX} (hL : ∀ c, c < 93 → c ∈ qLs X) (d : Nat) (a1 : Int) (a2 : Int) (S : qSto) (o : (Int × qSto)) (h : Heard_isToldAlready_35 a1 a2 S = some o) (Q : Option qV → qSto → Prop) (hQ : Q (some (qi o.1)) o.2) : qC X (d + 1) yX8_isToldAlready cX8_isToldAlready 4 (some .boolean) [qr 3, qi a1, qi a2, qr 35] S Q := by
  refine q_entry (lv := [(0, qr 3), (1, qi a1), (2, qi a2), (3, qr 35)]) pn_X8 (Nat.le_of_ble_eq_true rfl) rfl ?_
  unfold Heard_isToldAlready_35 at h
  refine q_iload_n dX8_isToldAlready_0 rfl rfl ?_
  obtain ⟨c150, h⟩ := qk_some h
  by_cases e4052 : a1 = 6
  · rw [if_pos e4052] at h
    refine q_tsw (tgt := 115) dX8_isToldAlready_1 (qRb_R c150) (by decide) (fun g => absurd g (by rw [e4052]; decide)) (fun _ _ => ⟨31, 32, by rw [e4052]; rfl, by decide, ?_⟩)
    refine q_iload_n dX8_isToldAlready_32 rfl rfl ?_
    obtain ⟨c151, h⟩ := qk_some h
    refine q_if_ne (tgt := 57) dX8_isToldAlready_33 (by decide) rfl (qRb_R c151)  (fun g => ?_) (fun g => ?_)
    · rw [if_neg (show ¬ (a2 = 0) from g)] at h
      refine q_iconst dX8_isToldAlready_57 rfl rfl ?_
      cases h
      exact q_zreturn dX8_isToldAlready_58 rfl (by decide) hQ
    · rw [if_pos (show a2 = 0 from g)] at h
      refine q_aload_n dX8_isToldAlready_36 rfl rfl ?_
      refine q_getA dX8_isToldAlready_37 fl_X8_15 (hL 3 (by decide)) sh_3 (by decide) rfl rfl ?_
      refine q_aload_n dX8_isToldAlready_40 rfl rfl ?_
      refine q_getI dX8_isToldAlready_41 fl_X8_55 (hL 3 (by decide)) sh_3 (by decide) rfl rfl ?_
      refine q_aload_n dX8_isToldAlready_44 rfl rfl ?_
      refine q_iconst dX8_isToldAlready_45 rfl rfl ?_
      refine q_iaload dX8_isToldAlready_46 (hL 35 (by decide)) sh_35 (by decide) (by decide) rfl ?_
      obtain ⟨q160, h161, h⟩ := Option.bind_eq_some_iff.mp h
      refine q_callSi (as := [qr 26, qi (S 3 2), qi (S 35 0)]) dX8_isToldAlready_47 ml_X8_73 rfl rfl (Nat.le_of_ble_eq_true rfl) (Told_holds_26_ok hL d (S 3 2) (S 35 0) _ _ h161) rfl ?_
      obtain ⟨c162, h⟩ := qk_some h
      refine q_if_eq (tgt := 57) dX8_isToldAlready_50 (by decide) rfl (qRb_R c162)  (fun g => ?_) (fun g => ?_)
      · rw [if_pos (show q160.1 = 0 from g)] at h
        refine q_iconst dX8_isToldAlready_57 rfl rfl ?_
        cases h
        exact q_zreturn dX8_isToldAlready_58 rfl (by decide) hQ
      · rw [if_neg (show ¬ (q160.1 = 0) from g)] at h
        refine q_iconst dX8_isToldAlready_53 rfl rfl ?_
        refine q_goto (pc' := 58) dX8_isToldAlready_54 (by decide) ?_
        cases h
        exact q_zreturn dX8_isToldAlready_58 rfl (by decide) hQ
  · rw [if_neg e4052] at h
    by_cases e4053 : a1 = 7
    · rw [if_pos e4053] at h
      refine q_tsw (tgt := 115) dX8_isToldAlready_1 (qRb_R c150) (by decide) (fun g => absurd g (by rw [e4053]; decide)) (fun _ _ => ⟨114, 115, by rw [e4053]; rfl, by decide, ?_⟩)
      refine q_iconst dX8_isToldAlready_115 rfl rfl ?_
      cases h
      exact q_zreturn dX8_isToldAlready_116 rfl (by decide) hQ
    · rw [if_neg e4053] at h
      by_cases e4054 : a1 = 8
      · rw [if_pos e4054] at h
        refine q_tsw (tgt := 115) dX8_isToldAlready_1 (qRb_R c150) (by decide) (fun g => absurd g (by rw [e4054]; decide)) (fun _ _ => ⟨58, 59, by rw [e4054]; rfl, by decide, ?_⟩)
        refine q_iload_n dX8_isToldAlready_59 rfl rfl ?_
        obtain ⟨c163, h⟩ := qk_some h
        refine q_if_ne (tgt := 84) dX8_isToldAlready_60 (by decide) rfl (qRb_R c163)  (fun g => ?_) (fun g => ?_)
        · rw [if_neg (show ¬ (a2 = 0) from g)] at h
          refine q_iconst dX8_isToldAlready_84 rfl rfl ?_
          cases h
          exact q_zreturn dX8_isToldAlready_85 rfl (by decide) hQ
        · rw [if_pos (show a2 = 0 from g)] at h
          refine q_aload_n dX8_isToldAlready_63 rfl rfl ?_
          refine q_getA dX8_isToldAlready_64 fl_X8_27 (hL 3 (by decide)) sh_3 (by decide) rfl rfl ?_
          refine q_aload_n dX8_isToldAlready_67 rfl rfl ?_
          refine q_getI dX8_isToldAlready_68 fl_X8_61 (hL 3 (by decide)) sh_3 (by decide) rfl rfl ?_
          refine q_aload_n dX8_isToldAlready_71 rfl rfl ?_
          refine q_iconst dX8_isToldAlready_72 rfl rfl ?_
          refine q_iaload dX8_isToldAlready_73 (hL 35 (by decide)) sh_35 (by decide) (by decide) rfl ?_
          obtain ⟨q172, h173, h⟩ := Option.bind_eq_some_iff.mp h
          refine q_callSi (as := [qr 30, qi (S 3 8), qi (S 35 0)]) dX8_isToldAlready_74 ml_X8_73 rfl rfl (Nat.le_of_ble_eq_true rfl) (Told_holds_30_ok hL d (S 3 8) (S 35 0) _ _ h173) rfl ?_
          obtain ⟨c174, h⟩ := qk_some h
          refine q_if_eq (tgt := 84) dX8_isToldAlready_77 (by decide) rfl (qRb_R c174)  (fun g => ?_) (fun g => ?_)
          · rw [if_pos (show q172.1 = 0 from g)] at h
            refine q_iconst dX8_isToldAlready_84 rfl rfl ?_
            cases h
            exact q_zreturn dX8_isToldAlready_85 rfl (by decide) hQ
          · rw [if_neg (show ¬ (q172.1 = 0) from g)] at h
            refine q_iconst dX8_isToldAlready_80 rfl rfl ?_
            refine q_goto (pc' := 85) dX8_isToldAlready_81 (by decide) ?_
            cases h
            exact q_zreturn dX8_isToldAlready_85 rfl (by decide) hQ
      · rw [if_neg e4054] at h
        by_cases e4055 : a1 = 9
        · rw [if_pos e4055] at h
          refine q_tsw (tgt := 115) dX8_isToldAlready_1 (qRb_R c150) (by decide) (fun g => absurd g (by rw [e4055]; decide)) (fun _ _ => ⟨85, 86, by rw [e4055]; rfl, by decide, ?_⟩)
          refine q_iload_n dX8_isToldAlready_86 rfl rfl ?_
          refine q_iconst dX8_isToldAlready_87 rfl rfl ?_
          obtain ⟨c175, h⟩ := qk_some h
          refine q_icmp_ne (tgt := 113) dX8_isToldAlready_88 (by decide) rfl (qRb_R c175) ⟨by decide, by decide⟩ (fun g => ?_) (fun g => ?_)
          · rw [if_neg (show ¬ (a2 = 1) from g)] at h
            refine q_iconst dX8_isToldAlready_113 rfl rfl ?_
            cases h
            exact q_zreturn dX8_isToldAlready_114 rfl (by decide) hQ
          · rw [if_pos (show a2 = 1 from g)] at h
            refine q_aload_n dX8_isToldAlready_91 rfl rfl ?_
            refine q_getA dX8_isToldAlready_92 fl_X8_33 (hL 3 (by decide)) sh_3 (by decide) rfl rfl ?_
            refine q_aload_n dX8_isToldAlready_95 rfl rfl ?_
            refine q_iconst dX8_isToldAlready_96 rfl rfl ?_
            refine q_iaload dX8_isToldAlready_97 (hL 35 (by decide)) sh_35 (by decide) (by decide) rfl ?_
            refine q_iconst dX8_isToldAlready_98 rfl rfl ?_
            refine q_imul dX8_isToldAlready_99 rfl ?_
            refine q_aload_n dX8_isToldAlready_100 rfl rfl ?_
            refine q_iconst dX8_isToldAlready_101 rfl rfl ?_
            refine q_iaload dX8_isToldAlready_102 (hL 35 (by decide)) sh_35 (by decide) (by decide) rfl ?_
            refine q_iadd dX8_isToldAlready_103 rfl ?_
            obtain ⟨c176, h⟩ := qk_some h
            refine q_iaload dX8_isToldAlready_104 (hL 32 (by decide)) sh_32 (qIx_0 c176) (qIx_1 c176) rfl ?_
            refine q_iconst dX8_isToldAlready_105 rfl rfl ?_
            obtain ⟨c177, h⟩ := qk_some h
            refine q_icmp_eq (tgt := 113) dX8_isToldAlready_106 (by decide) rfl (qRb_R c177) ⟨by decide, by decide⟩ (fun g => ?_) (fun g => ?_)
            · rw [if_pos (show (S 32 (Int.toNat (((S 35 0) * 3) + (S 35 1)))) = (-1) from g)] at h
              refine q_iconst dX8_isToldAlready_113 rfl rfl ?_
              cases h
              exact q_zreturn dX8_isToldAlready_114 rfl (by decide) hQ
            · rw [if_neg (show ¬ ((S 32 (Int.toNat (((S 35 0) * 3) + (S 35 1)))) = (-1)) from g)] at h
              refine q_iconst dX8_isToldAlready_109 rfl rfl ?_
              refine q_goto (pc' := 114) dX8_isToldAlready_110 (by decide) ?_
              cases h
              exact q_zreturn dX8_isToldAlready_114 rfl (by decide) hQ
        · rw [if_neg e4055] at h
          refine q_tsw (tgt := 115) dX8_isToldAlready_1 (qRb_R c150) (by decide) (fun _ => ?_) (fun g1 g2 => absurd g1 (by omega))
          refine q_iconst dX8_isToldAlready_115 rfl rfl ?_
          cases h
          exact q_zreturn dX8_isToldAlready_116 rfl (by decide) hQ
set_option maxRecDepth 20000 in
theorem Reader_readNumber_L58_ok {X : qX} (hL : ∀ c, c < 93 → c ∈ qLs X) (d : Nat) {Q : Option qV → qSto → Prop} : ∀ (n : Nat) (x1 : Int) (x2 : Int) (x4 : Int) (x6 : Int) (x7 : Int) (S : qSto) (o : (Int × qSto)), Reader_readNumber_L58 n x6 x7 S = some o → (qW X (d + 2) yX5_readNumber cX5_readNumber 8 (some .boolean) 91 [(0, qr 4), (1, qi x1), (2, qi x2), (4, qi x4), (6, qi o.1)] [] o.2 Q) → qW X (d + 2) yX5_readNumber cX5_readNumber 8 (some .boolean) 58 [(0, qr 4), (1, qi x1), (2, qi x2), (4, qi x4), (6, qi x6), (7, qi x7)] [] S Q := by
  intro n
  induction n with
  | zero =>
    intro x1 x2 x4 x6 x7 S o h
    simp [Reader_readNumber_L58] at h
  | succ n ih =>
    intro x1 x2 x4 x6 x7 S o h hE
    rw [Reader_readNumber_L58] at h
    refine q_iload dX5_readNumber_58 rfl rfl ?_
    refine q_aload_n dX5_readNumber_60 rfl rfl ?_
    refine q_getI dX5_readNumber_61 fl_X5_36 (hL 4 (by decide)) sh_4 (by decide) rfl rfl ?_
    obtain ⟨c119, h⟩ := qk_some h
    obtain ⟨c120, h⟩ := qk_some h
    refine q_icmp_ge (tgt := 91) dX5_readNumber_64 (by decide) rfl (qRb_R c119) (qRb_R c120) (fun g => ?_) (fun g => ?_)
    · rw [if_pos (show (S 4 4) ≤ x7 from g)] at h
      cases h
      exact q_pick [0, 1, 2, 3, 4] rfl (hE)
    · rw [if_neg (show ¬ ((S 4 4) ≤ x7) from g)] at h
      refine q_iload dX5_readNumber_67 rfl rfl ?_
      refine q_bipush dX5_readNumber_69 (by decide) rfl ?_
      refine q_imul dX5_readNumber_71 rfl ?_
      refine q_aload_n dX5_readNumber_72 rfl rfl ?_
      refine q_getA dX5_readNumber_73 fl_X5_19 (hL 4 (by decide)) sh_4 (by decide) rfl rfl ?_
      refine q_iload dX5_readNumber_76 rfl rfl ?_
      obtain ⟨c121, h⟩ := qk_some h
      refine q_baload dX5_readNumber_78 (hL 1 (by decide)) sh_1 (qIx_0 c121) (qIx_1 c121) rfl ?_
      refine q_iadd dX5_readNumber_79 rfl ?_
      refine q_bipush dX5_readNumber_80 (by decide) rfl ?_
      refine q_isub dX5_readNumber_82 rfl ?_
      refine q_istore (lv' := [(6, qi (((x6 * 10) + (S 1 (Int.toNat x7))) - 48)), (0, qr 4), (1, qi x1), (2, qi x2), (4, qi x4), (7, qi x7)]) dX5_readNumber_83 (by decide) rfl rfl ?_
      refine q_iinc (lv' := [(7, qi (x7 + 1)), (6, qi (((x6 * 10) + (S 1 (Int.toNat x7))) - 48)), (0, qr 4), (1, qi x1), (2, qi x2), (4, qi x4)]) dX5_readNumber_85 (by decide) rfl rfl rfl ?_
      refine q_goto (pc' := 58) dX5_readNumber_88 (by decide) ?_
      exact q_pick [2, 3, 4, 5, 1, 0] rfl (ih x1 x2 x4 (((x6 * 10) + (S 1 (Int.toNat x7))) - 48) (x7 + 1) _ _ h hE)
set_option maxRecDepth 20000 in
theorem Reader_readNumber_ok {X : qX} (hL : ∀ c, c < 93 → c ∈ qLs X) (d : Nat) (a1 : Int) (a2 : Int) (S : qSto) (o : (Int × qSto)) (h : Reader_readNumber a1 a2 S = some o) (Q : Option qV → qSto → Prop) (hQ : Q (some (qi o.1)) o.2) : qC X (d + 2) yX5_readNumber cX5_readNumber 8 (some .boolean) [qr 4, qi a1, qi a2] S Q := by
  refine q_entry (lv := [(0, qr 4), (1, qi a1), (2, qi a2)]) pn_X5 (Nat.le_of_ble_eq_true rfl) rfl ?_
  unfold Reader_readNumber at h
  refine q_aload_n dX5_readNumber_0 rfl rfl ?_
  refine q_getI dX5_readNumber_1 fl_X5_36 (hL 4 (by decide)) sh_4 (by decide) rfl rfl ?_
  refine q_istore_n (lv' := [(3, qi (S 4 4)), (0, qr 4), (1, qi a1), (2, qi a2)]) dX5_readNumber_4 (by decide) rfl rfl ?_
  refine q_aload_n dX5_readNumber_5 rfl rfl ?_
  obtain ⟨q105, h106, h⟩ := Option.bind_eq_some_iff.mp h
  refine q_callVv (as := []) (c := 4) dX5_readNumber_6 ml_X5_47 rfl rfl (hL 4 (by decide)) sh_4 rfl rfl (Nat.le_of_ble_eq_true rfl) (Reader_skipBlanks_ok hL (d + 1) _ _ h106) rfl ?_
  refine q_aload_n dX5_readNumber_9 rfl rfl ?_
  refine q_getI dX5_readNumber_10 fl_X5_36 (hL 4 (by decide)) sh_4 (by decide) rfl rfl ?_
  refine q_istore (lv' := [(4, qi (q105 4 4)), (3, qi (S 4 4)), (0, qr 4), (1, qi a1), (2, qi a2)]) dX5_readNumber_13 (by decide) rfl rfl ?_
  refine q_aload_n dX5_readNumber_15 rfl rfl ?_
  refine q_bipush dX5_readNumber_16 (by decide) rfl ?_
  refine q_bipush dX5_readNumber_18 (by decide) rfl ?_
  obtain ⟨q107, h108, h⟩ := Option.bind_eq_some_iff.mp h
  refine q_callVi (as := [qi 48, qi 57]) (c := 4) dX5_readNumber_20 ml_X5_54 rfl rfl (hL 4 (by decide)) sh_4 rfl rfl (Nat.le_of_ble_eq_true rfl) (Reader_passRow_ok hL (d + 1) 48 57 _ _ h108) rfl ?_
  refine q_istore (lv' := [(5, qi q107.1), (4, qi (q105 4 4)), (3, qi (S 4 4)), (0, qr 4), (1, qi a1), (2, qi a2)]) dX5_readNumber_23 (by decide) rfl rfl ?_
  refine q_iload dX5_readNumber_25 rfl rfl ?_
  refine q_iload_n dX5_readNumber_27 rfl rfl ?_
  obtain ⟨c109, h⟩ := qk_some h
  obtain ⟨c110, h⟩ := qk_some h
  refine q_icmp_eq (tgt := 43) dX5_readNumber_28 (by decide) rfl (qRb_R c109) (qRb_R c110) (fun g => ?_) (fun g => ?_)
  · rw [if_pos (show (q105 4 4) = (S 4 4) from g)] at h
    refine q_aload_n dX5_readNumber_43 rfl rfl ?_
    refine q_iconst dX5_readNumber_44 rfl rfl ?_
    refine q_iload dX5_readNumber_45 rfl rfl ?_
    obtain ⟨q111, h112, h⟩ := Option.bind_eq_some_iff.mp h
    refine q_callVi (as := [qi 1, qi (q105 4 4)]) (c := 4) dX5_readNumber_47 ml_X5_61 rfl rfl (hL 4 (by decide)) sh_4 rfl rfl (Nat.le_of_ble_eq_true rfl) (Reader_refuse_ok hL (d + 1) 1 (q105 4 4) _ _ h112) rfl ?_
    obtain ⟨c113, h⟩ := qk_some h
    cases h
    exact q_zreturn dX5_readNumber_50 rfl (qZb_Z c113) hQ
  · rw [if_neg (show ¬ ((q105 4 4) = (S 4 4)) from g)] at h
    refine q_iload dX5_readNumber_31 rfl rfl ?_
    refine q_iconst dX5_readNumber_33 rfl rfl ?_
    obtain ⟨c114, h⟩ := qk_some h
    refine q_icmp_lt (tgt := 43) dX5_readNumber_34 (by decide) rfl (qRb_R c114) ⟨by decide, by decide⟩ (fun g => ?_) (fun g => ?_)
    · rw [if_pos (show q107.1 < 1 from g)] at h
      refine q_aload_n dX5_readNumber_43 rfl rfl ?_
      refine q_iconst dX5_readNumber_44 rfl rfl ?_
      refine q_iload dX5_readNumber_45 rfl rfl ?_
      obtain ⟨q115, h116, h⟩ := Option.bind_eq_some_iff.mp h
      refine q_callVi (as := [qi 1, qi (q105 4 4)]) (c := 4) dX5_readNumber_47 ml_X5_61 rfl rfl (hL 4 (by decide)) sh_4 rfl rfl (Nat.le_of_ble_eq_true rfl) (Reader_refuse_ok hL (d + 1) 1 (q105 4 4) _ _ h116) rfl ?_
      obtain ⟨c117, h⟩ := qk_some h
      cases h
      exact q_zreturn dX5_readNumber_50 rfl (qZb_Z c117) hQ
    · rw [if_neg (show ¬ (q107.1 < 1) from g)] at h
      refine q_iload dX5_readNumber_37 rfl rfl ?_
      refine q_iconst dX5_readNumber_39 rfl rfl ?_
      obtain ⟨c118, h⟩ := qk_some h
      refine q_icmp_le (tgt := 51) dX5_readNumber_40 (by decide) rfl (qRb_R c118) ⟨by decide, by decide⟩ (fun g => ?_) (fun g => ?_)
      · rw [if_pos (show q107.1 ≤ 4 from g)] at h
        refine q_iconst dX5_readNumber_51 rfl rfl ?_
        refine q_istore (lv' := [(6, qi 0), (5, qi q107.1), (4, qi (q105 4 4)), (3, qi (S 4 4)), (0, qr 4), (1, qi a1), (2, qi a2)]) dX5_readNumber_52 (by decide) rfl rfl ?_
        refine q_iload dX5_readNumber_54 rfl rfl ?_
        refine q_istore (lv' := [(7, qi (q105 4 4)), (6, qi 0), (5, qi q107.1), (4, qi (q105 4 4)), (3, qi (S 4 4)), (0, qr 4), (1, qi a1), (2, qi a2)]) dX5_readNumber_56 (by decide) rfl rfl ?_
        obtain ⟨q122, h123, h⟩ := Option.bind_eq_some_iff.mp h
        refine q_pick [5, 6, 7, 3, 1, 0] rfl (Reader_readNumber_L58_ok hL d qF a1 a2 (q105 4 4) 0 (q105 4 4) _ _ h123 ?_)
        refine q_iload dX5_readNumber_91 rfl rfl ?_
        refine q_aload_n dX5_readNumber_93 rfl rfl ?_
        refine q_iload_n dX5_readNumber_94 rfl rfl ?_
        refine q_iload_n dX5_readNumber_95 rfl rfl ?_
        obtain ⟨q138, h139, h⟩ := Option.bind_eq_some_iff.mp h
        refine q_callVi (as := [qi a1, qi a2]) (c := 4) dX5_readNumber_96 ml_X5_92 rfl rfl (hL 4 (by decide)) sh_4 rfl rfl (Nat.le_of_ble_eq_true rfl) (Reader_leastNumber_ok hL (d + 1) a1 a2 _ _ h139) rfl ?_
        obtain ⟨c140, h⟩ := qk_some h
        obtain ⟨c141, h⟩ := qk_some h
        refine q_icmp_lt (tgt := 118) dX5_readNumber_99 (by decide) rfl (qRb_R c140) (qRb_R c141) (fun g => ?_) (fun g => ?_)
        · rw [if_pos (show q122.1 < q138.1 from g)] at h
          refine q_aload_n dX5_readNumber_118 rfl rfl ?_
          refine q_iconst dX5_readNumber_119 rfl rfl ?_
          refine q_iload dX5_readNumber_120 rfl rfl ?_
          obtain ⟨q142, h143, h⟩ := Option.bind_eq_some_iff.mp h
          refine q_callVi (as := [qi 2, qi (q105 4 4)]) (c := 4) dX5_readNumber_122 ml_X5_61 rfl rfl (hL 4 (by decide)) sh_4 rfl rfl (Nat.le_of_ble_eq_true rfl) (Reader_refuse_ok hL (d + 1) 2 (q105 4 4) _ _ h143) rfl ?_
          obtain ⟨c144, h⟩ := qk_some h
          cases h
          exact q_zreturn dX5_readNumber_125 rfl (qZb_Z c144) hQ
        · rw [if_neg (show ¬ (q122.1 < q138.1) from g)] at h
          refine q_iload dX5_readNumber_102 rfl rfl ?_
          refine q_gets (i := 3) dX5_readNumber_104 (by decide) (by decide) rfl ?_
          refine q_gets (i := 1) dX5_readNumber_107 (by decide) (by decide) rfl ?_
          refine q_iload_n dX5_readNumber_110 rfl rfl ?_
          obtain ⟨c145, h⟩ := qk_some h
          refine q_tiaload (t := 1) dX5_readNumber_111 (by decide) (qIx_0 c145) (qIx_1 c145) rfl ?_
          refine q_iload_n dX5_readNumber_112 rfl rfl ?_
          refine q_iadd dX5_readNumber_113 rfl ?_
          obtain ⟨c146, h⟩ := qk_some h
          refine q_tiaload (t := 3) dX5_readNumber_114 (by decide) (qIx_0 c146) (qIx_1 c146) rfl ?_
          obtain ⟨c147, h⟩ := qk_some h
          obtain ⟨c148, h⟩ := qk_some h
          refine q_icmp_le (tgt := 126) dX5_readNumber_115 (by decide) rfl (qRb_R c147) (qRb_R c148) (fun g => ?_) (fun g => ?_)
          · rw [if_pos (show q122.1 ≤ (List.getD (qsl 3) (Int.toNat ((List.getD (qsl 1) (Int.toNat a1) 0) + a2)) 0) from g)] at h
            refine q_aload_n dX5_readNumber_126 rfl rfl ?_
            refine q_getA dX5_readNumber_127 fl_X5_9 (hL 4 (by decide)) sh_4 (by decide) rfl rfl ?_
            refine q_iload_n dX5_readNumber_130 rfl rfl ?_
            refine q_iload dX5_readNumber_131 rfl rfl ?_
            obtain ⟨c149, h⟩ := qk_some h
            refine q_iastore dX5_readNumber_133 (hL 35 (by decide)) sh_35 (qIx_0 c149) (qIx_1 c149) rfl ?_
            refine q_aload_n dX5_readNumber_134 rfl rfl ?_
            refine q_getA dX5_readNumber_135 fl_X5_23 (hL 4 (by decide)) sh_4 (by decide) rfl rfl ?_
            refine q_iload_n dX5_readNumber_138 rfl rfl ?_
            refine q_iload_n dX5_readNumber_139 rfl rfl ?_
            refine q_aload_n dX5_readNumber_140 rfl rfl ?_
            refine q_getA dX5_readNumber_141 fl_X5_9 (hL 4 (by decide)) sh_4 (by decide) rfl rfl ?_
            obtain ⟨q178, h179, h⟩ := Option.bind_eq_some_iff.mp h
            refine q_callVi (as := [qi a1, qi a2, qr 35]) (c := 3) dX5_readNumber_144 ml_X5_101 rfl rfl (hL 3 (by decide)) sh_3 rfl rfl (Nat.le_of_ble_eq_true rfl) (Heard_isToldAlready_35_ok hL d a1 a2 _ _ h179) rfl ?_
            obtain ⟨c180, h⟩ := qk_some h
            refine q_if_eq (tgt := 160) dX5_readNumber_147 (by decide) rfl (qRb_R c180)  (fun g => ?_) (fun g => ?_)
            · rw [if_pos (show q178.1 = 0 from g)] at h
              refine q_iconst dX5_readNumber_160 rfl rfl ?_
              refine q_goto (pc' := 165) dX5_readNumber_161 (by decide) ?_
              cases h
              exact q_zreturn dX5_readNumber_165 rfl (by decide) hQ
            · rw [if_neg (show ¬ (q178.1 = 0) from g)] at h
              refine q_aload_n dX5_readNumber_150 rfl rfl ?_
              refine q_iconst dX5_readNumber_151 rfl rfl ?_
              refine q_iload dX5_readNumber_152 rfl rfl ?_
              obtain ⟨q181, h182, h⟩ := Option.bind_eq_some_iff.mp h
              refine q_callVi (as := [qi 3, qi (q105 4 4)]) (c := 4) dX5_readNumber_154 ml_X5_61 rfl rfl (hL 4 (by decide)) sh_4 rfl rfl (Nat.le_of_ble_eq_true rfl) (Reader_refuse_ok hL (d + 1) 3 (q105 4 4) _ _ h182) rfl ?_
              obtain ⟨c183, h⟩ := qk_some h
              refine q_if_eq (tgt := 164) dX5_readNumber_157 (by decide) rfl (qRb_R c183)  (fun g => ?_) (fun g => ?_)
              · rw [if_pos (show q181.1 = 0 from g)] at h
                refine q_iconst dX5_readNumber_164 rfl rfl ?_
                cases h
                exact q_zreturn dX5_readNumber_165 rfl (by decide) hQ
              · rw [if_neg (show ¬ (q181.1 = 0) from g)] at h
                refine q_iconst dX5_readNumber_160 rfl rfl ?_
                refine q_goto (pc' := 165) dX5_readNumber_161 (by decide) ?_
                cases h
                exact q_zreturn dX5_readNumber_165 rfl (by decide) hQ
          · rw [if_neg (show ¬ (q122.1 ≤ (List.getD (qsl 3) (Int.toNat ((List.getD (qsl 1) (Int.toNat a1) 0) + a2)) 0)) from g)] at h
            refine q_aload_n dX5_readNumber_118 rfl rfl ?_
            refine q_iconst dX5_readNumber_119 rfl rfl ?_
            refine q_iload dX5_readNumber_120 rfl rfl ?_
            obtain ⟨q184, h185, h⟩ := Option.bind_eq_some_iff.mp h
            refine q_callVi (as := [qi 2, qi (q105 4 4)]) (c := 4) dX5_readNumber_122 ml_X5_61 rfl rfl (hL 4 (by decide)) sh_4 rfl rfl (Nat.le_of_ble_eq_true rfl) (Reader_refuse_ok hL (d + 1) 2 (q105 4 4) _ _ h185) rfl ?_
            obtain ⟨c186, h⟩ := qk_some h
            cases h
            exact q_zreturn dX5_readNumber_125 rfl (qZb_Z c186) hQ
      · rw [if_neg (show ¬ (q107.1 ≤ 4) from g)] at h
        refine q_aload_n dX5_readNumber_43 rfl rfl ?_
        refine q_iconst dX5_readNumber_44 rfl rfl ?_
        refine q_iload dX5_readNumber_45 rfl rfl ?_
        obtain ⟨q187, h188, h⟩ := Option.bind_eq_some_iff.mp h
        refine q_callVi (as := [qi 1, qi (q105 4 4)]) (c := 4) dX5_readNumber_47 ml_X5_61 rfl rfl (hL 4 (by decide)) sh_4 rfl rfl (Nat.le_of_ble_eq_true rfl) (Reader_refuse_ok hL (d + 1) 1 (q105 4 4) _ _ h188) rfl ?_
        obtain ⟨c189, h⟩ := qk_some h
        cases h
        exact q_zreturn dX5_readNumber_50 rfl (qZb_Z c189) hQ
set_option maxRecDepth 20000 in
theorem Heard_take_35_ok {X : qX} (hL : ∀ c, c < 93 → c ∈ qLs X) (d : Nat) (a1 : Int) (S : qSto) (o : qSto) (h : Heard_take_35 a1 S = some o) (Q : Option qV → qSto → Prop) (hQ : Q none o) : qC X d yX8_take cX8_take 3 none [qr 3, qi a1, qr 35] S Q := by
  refine q_entry (lv := [(0, qr 3), (1, qi a1), (2, qr 35)]) pn_X8 (Nat.le_of_ble_eq_true rfl) rfl ?_
  unfold Heard_take_35 at h
  refine q_iload_n dX8_take_0 rfl rfl ?_
  refine q_bipush dX8_take_1 (by decide) rfl ?_
  obtain ⟨c205, h⟩ := qk_some h
  refine q_icmp_ge (tgt := 30) dX8_take_3 (by decide) rfl (qRb_R c205) ⟨by decide, by decide⟩ (fun g => ?_) (fun g => ?_)
  · rw [if_pos (show 6 ≤ a1 from g)] at h
    refine q_iload_n dX8_take_30 rfl rfl ?_
    refine q_bipush dX8_take_31 (by decide) rfl ?_
    obtain ⟨c206, h⟩ := qk_some h
    refine q_icmp_ne (tgt := 73) dX8_take_33 (by decide) rfl (qRb_R c206) ⟨by decide, by decide⟩ (fun g => ?_) (fun g => ?_)
    · rw [if_neg (show ¬ (a1 = 6) from g)] at h
      refine q_iload_n dX8_take_73 rfl rfl ?_
      refine q_bipush dX8_take_74 (by decide) rfl ?_
      obtain ⟨c207, h⟩ := qk_some h
      refine q_icmp_ne (tgt := 116) dX8_take_76 (by decide) rfl (qRb_R c207) ⟨by decide, by decide⟩ (fun g => ?_) (fun g => ?_)
      · rw [if_neg (show ¬ (a1 = 7) from g)] at h
        refine q_iload_n dX8_take_116 rfl rfl ?_
        refine q_bipush dX8_take_117 (by decide) rfl ?_
        obtain ⟨c208, h⟩ := qk_some h
        refine q_icmp_ne (tgt := 159) dX8_take_119 (by decide) rfl (qRb_R c208) ⟨by decide, by decide⟩ (fun g => ?_) (fun g => ?_)
        · rw [if_neg (show ¬ (a1 = 8) from g)] at h
          refine q_iload_n dX8_take_159 rfl rfl ?_
          refine q_bipush dX8_take_160 (by decide) rfl ?_
          obtain ⟨c209, h⟩ := qk_some h
          refine q_icmp_ne (tgt := 185) dX8_take_162 (by decide) rfl (qRb_R c209) ⟨by decide, by decide⟩ (fun g => ?_) (fun g => ?_)
          · rw [if_neg (show ¬ (a1 = 9) from g)] at h
            refine q_aload_n dX8_take_185 rfl rfl ?_
            refine q_iconst dX8_take_186 rfl rfl ?_
            refine q_aload_n dX8_take_187 rfl rfl ?_
            refine q_getA dX8_take_188 fl_X8_36 (hL 3 (by decide)) sh_3 (by decide) rfl rfl ?_
            refine q_aload_n dX8_take_191 rfl rfl ?_
            refine q_getI dX8_take_192 fl_X8_70 (hL 3 (by decide)) sh_3 (by decide) rfl rfl ?_
            refine q_bipush dX8_take_195 (by decide) rfl ?_
            refine q_imul dX8_take_197 rfl ?_
            refine q_bipush dX8_take_198 (by decide) rfl ?_
            obtain ⟨c210, h⟩ := qk_some h
            obtain ⟨c211, h⟩ := qk_some h
            refine q_copy dX8_take_200 cw_X8_45 (hL 35 (by decide)) (hL 33 (by decide)) sh_35 sh_33 (by decide) (of_decide_eq_true c210) (by decide) (by decide) (of_decide_eq_true c211) (Nat.le_of_ble_eq_true rfl) rfl ?_
            refine q_aload_n dX8_take_203 rfl rfl ?_
            refine q_dupA dX8_take_204 rfl ?_
            refine q_getI dX8_take_205 fl_X8_70 (hL 3 (by decide)) sh_3 (by decide) rfl rfl ?_
            refine q_iconst dX8_take_208 rfl rfl ?_
            refine q_iadd dX8_take_209 rfl ?_
            refine q_putI dX8_take_210 fl_X8_70 (hL 3 (by decide)) sh_3 (by decide) pf_8_12 pt_8_12 rfl rfl ?_
            cases h
            exact q_return dX8_take_213 rfl hQ
          · rw [if_pos (show a1 = 9 from g)] at h
            refine q_aload_n dX8_take_165 rfl rfl ?_
            refine q_getA dX8_take_166 fl_X8_33 (hL 3 (by decide)) sh_3 (by decide) rfl rfl ?_
            refine q_aload_n dX8_take_169 rfl rfl ?_
            refine q_iconst dX8_take_170 rfl rfl ?_
            refine q_iaload dX8_take_171 (hL 35 (by decide)) sh_35 (by decide) (by decide) rfl ?_
            refine q_iconst dX8_take_172 rfl rfl ?_
            refine q_imul dX8_take_173 rfl ?_
            refine q_aload_n dX8_take_174 rfl rfl ?_
            refine q_iconst dX8_take_175 rfl rfl ?_
            refine q_iaload dX8_take_176 (hL 35 (by decide)) sh_35 (by decide) (by decide) rfl ?_
            refine q_iadd dX8_take_177 rfl ?_
            refine q_aload_n dX8_take_178 rfl rfl ?_
            refine q_iconst dX8_take_179 rfl rfl ?_
            refine q_iaload dX8_take_180 (hL 35 (by decide)) sh_35 (by decide) (by decide) rfl ?_
            obtain ⟨c212, h⟩ := qk_some h
            refine q_iastore dX8_take_181 (hL 32 (by decide)) sh_32 (qIx_0 c212) (qIx_1 c212) rfl ?_
            refine q_goto (pc' := 213) dX8_take_182 (by decide) ?_
            cases h
            exact q_return dX8_take_213 rfl hQ
        · rw [if_pos (show a1 = 8 from g)] at h
          refine q_aload_n dX8_take_122 rfl rfl ?_
          refine q_getA dX8_take_123 fl_X8_27 (hL 3 (by decide)) sh_3 (by decide) rfl rfl ?_
          refine q_aload_n dX8_take_126 rfl rfl ?_
          refine q_getI dX8_take_127 fl_X8_61 (hL 3 (by decide)) sh_3 (by decide) rfl rfl ?_
          refine q_aload_n dX8_take_130 rfl rfl ?_
          refine q_iconst dX8_take_131 rfl rfl ?_
          refine q_iaload dX8_take_132 (hL 35 (by decide)) sh_35 (by decide) (by decide) rfl ?_
          obtain ⟨c213, h⟩ := qk_some h
          refine q_iastore dX8_take_133 (hL 30 (by decide)) sh_30 (qIx_0 c213) (qIx_1 c213) rfl ?_
          refine q_aload_n dX8_take_134 rfl rfl ?_
          refine q_getA dX8_take_135 fl_X8_30 (hL 3 (by decide)) sh_3 (by decide) rfl rfl ?_
          refine q_aload_n dX8_take_138 rfl rfl ?_
          refine q_getI dX8_take_139 fl_X8_61 (hL 3 (by decide)) sh_3 (by decide) rfl rfl ?_
          refine q_aload_n dX8_take_142 rfl rfl ?_
          refine q_iconst dX8_take_143 rfl rfl ?_
          refine q_iaload dX8_take_144 (hL 35 (by decide)) sh_35 (by decide) (by decide) rfl ?_
          obtain ⟨c214, h⟩ := qk_some h
          refine q_iastore dX8_take_145 (hL 31 (by decide)) sh_31 (qIx_0 c214) (qIx_1 c214) rfl ?_
          refine q_aload_n dX8_take_146 rfl rfl ?_
          refine q_dupA dX8_take_147 rfl ?_
          refine q_getI dX8_take_148 fl_X8_61 (hL 3 (by decide)) sh_3 (by decide) rfl rfl ?_
          refine q_iconst dX8_take_151 rfl rfl ?_
          refine q_iadd dX8_take_152 rfl ?_
          refine q_putI dX8_take_153 fl_X8_61 (hL 3 (by decide)) sh_3 (by decide) pf_8_8 pt_8_8 rfl rfl ?_
          refine q_goto (pc' := 213) dX8_take_156 (by decide) ?_
          cases h
          exact q_return dX8_take_213 rfl hQ
      · rw [if_pos (show a1 = 7 from g)] at h
        refine q_aload_n dX8_take_79 rfl rfl ?_
        refine q_getA dX8_take_80 fl_X8_21 (hL 3 (by decide)) sh_3 (by decide) rfl rfl ?_
        refine q_aload_n dX8_take_83 rfl rfl ?_
        refine q_getI dX8_take_84 fl_X8_58 (hL 3 (by decide)) sh_3 (by decide) rfl rfl ?_
        refine q_aload_n dX8_take_87 rfl rfl ?_
        refine q_iconst dX8_take_88 rfl rfl ?_
        refine q_iaload dX8_take_89 (hL 35 (by decide)) sh_35 (by decide) (by decide) rfl ?_
        obtain ⟨c215, h⟩ := qk_some h
        refine q_iastore dX8_take_90 (hL 28 (by decide)) sh_28 (qIx_0 c215) (qIx_1 c215) rfl ?_
        refine q_aload_n dX8_take_91 rfl rfl ?_
        refine q_getA dX8_take_92 fl_X8_24 (hL 3 (by decide)) sh_3 (by decide) rfl rfl ?_
        refine q_aload_n dX8_take_95 rfl rfl ?_
        refine q_getI dX8_take_96 fl_X8_58 (hL 3 (by decide)) sh_3 (by decide) rfl rfl ?_
        refine q_aload_n dX8_take_99 rfl rfl ?_
        refine q_iconst dX8_take_100 rfl rfl ?_
        refine q_iaload dX8_take_101 (hL 35 (by decide)) sh_35 (by decide) (by decide) rfl ?_
        obtain ⟨c216, h⟩ := qk_some h
        refine q_iastore dX8_take_102 (hL 29 (by decide)) sh_29 (qIx_0 c216) (qIx_1 c216) rfl ?_
        refine q_aload_n dX8_take_103 rfl rfl ?_
        refine q_dupA dX8_take_104 rfl ?_
        refine q_getI dX8_take_105 fl_X8_58 (hL 3 (by decide)) sh_3 (by decide) rfl rfl ?_
        refine q_iconst dX8_take_108 rfl rfl ?_
        refine q_iadd dX8_take_109 rfl ?_
        refine q_putI dX8_take_110 fl_X8_58 (hL 3 (by decide)) sh_3 (by decide) pf_8_5 pt_8_5 rfl rfl ?_
        refine q_goto (pc' := 213) dX8_take_113 (by decide) ?_
        cases h
        exact q_return dX8_take_213 rfl hQ
    · rw [if_pos (show a1 = 6 from g)] at h
      refine q_aload_n dX8_take_36 rfl rfl ?_
      refine q_getA dX8_take_37 fl_X8_15 (hL 3 (by decide)) sh_3 (by decide) rfl rfl ?_
      refine q_aload_n dX8_take_40 rfl rfl ?_
      refine q_getI dX8_take_41 fl_X8_55 (hL 3 (by decide)) sh_3 (by decide) rfl rfl ?_
      refine q_aload_n dX8_take_44 rfl rfl ?_
      refine q_iconst dX8_take_45 rfl rfl ?_
      refine q_iaload dX8_take_46 (hL 35 (by decide)) sh_35 (by decide) (by decide) rfl ?_
      obtain ⟨c217, h⟩ := qk_some h
      refine q_iastore dX8_take_47 (hL 26 (by decide)) sh_26 (qIx_0 c217) (qIx_1 c217) rfl ?_
      refine q_aload_n dX8_take_48 rfl rfl ?_
      refine q_getA dX8_take_49 fl_X8_18 (hL 3 (by decide)) sh_3 (by decide) rfl rfl ?_
      refine q_aload_n dX8_take_52 rfl rfl ?_
      refine q_getI dX8_take_53 fl_X8_55 (hL 3 (by decide)) sh_3 (by decide) rfl rfl ?_
      refine q_aload_n dX8_take_56 rfl rfl ?_
      refine q_iconst dX8_take_57 rfl rfl ?_
      refine q_iaload dX8_take_58 (hL 35 (by decide)) sh_35 (by decide) (by decide) rfl ?_
      obtain ⟨c218, h⟩ := qk_some h
      refine q_iastore dX8_take_59 (hL 27 (by decide)) sh_27 (qIx_0 c218) (qIx_1 c218) rfl ?_
      refine q_aload_n dX8_take_60 rfl rfl ?_
      refine q_dupA dX8_take_61 rfl ?_
      refine q_getI dX8_take_62 fl_X8_55 (hL 3 (by decide)) sh_3 (by decide) rfl rfl ?_
      refine q_iconst dX8_take_65 rfl rfl ?_
      refine q_iadd dX8_take_66 rfl ?_
      refine q_putI dX8_take_67 fl_X8_55 (hL 3 (by decide)) sh_3 (by decide) pf_8_2 pt_8_2 rfl rfl ?_
      refine q_goto (pc' := 213) dX8_take_70 (by decide) ?_
      cases h
      exact q_return dX8_take_213 rfl hQ
  · rw [if_neg (show ¬ (6 ≤ a1) from g)] at h
    refine q_aload_n dX8_take_6 rfl rfl ?_
    refine q_getA dX8_take_7 fl_X8_9 (hL 3 (by decide)) sh_3 (by decide) rfl rfl ?_
    refine q_iload_n dX8_take_10 rfl rfl ?_
    refine q_aload_n dX8_take_11 rfl rfl ?_
    refine q_iconst dX8_take_12 rfl rfl ?_
    refine q_iaload dX8_take_13 (hL 35 (by decide)) sh_35 (by decide) (by decide) rfl ?_
    obtain ⟨c219, h⟩ := qk_some h
    refine q_iastore dX8_take_14 (hL 25 (by decide)) sh_25 (qIx_0 c219) (qIx_1 c219) rfl ?_
    refine q_aload_n dX8_take_15 rfl rfl ?_
    refine q_dupA dX8_take_16 rfl ?_
    refine q_getI dX8_take_17 fl_X8_51 (hL 3 (by decide)) sh_3 (by decide) rfl rfl ?_
    refine q_iconst dX8_take_20 rfl rfl ?_
    refine q_iload_n dX8_take_21 rfl rfl ?_
    refine q_ishl dX8_take_22 rfl ?_
    refine q_ior dX8_take_23 rfl ?_
    refine q_putI dX8_take_24 fl_X8_51 (hL 3 (by decide)) sh_3 (by decide) pf_8_1 pt_8_1 rfl rfl ?_
    refine q_goto (pc' := 213) dX8_take_27 (by decide) ?_
    cases h
    exact q_return dX8_take_213 rfl hQ
set_option maxRecDepth 20000 in
theorem Heard_nameNextShip_1_L12_ok {X : qX} (hL : ∀ c, c < 93 → c ∈ qLs X) (d : Nat) {Q : Option qV → qSto → Prop} : ∀ (n : Nat) (x2 : Int) (x3 : Int) (x4 : Int) (S : qSto) (o : qSto), Heard_nameNextShip_1_L12 n x2 x3 x4 S = some o → (qW X d yX8_nameNextShip cX8_nameNextShip 5 none 56 [] [] o Q) → qW X d yX8_nameNextShip cX8_nameNextShip 5 none 12 [(0, qr 3), (1, qr 1), (2, qi x2), (3, qi x3), (4, qi x4)] [] S Q := by
  intro n
  induction n with
  | zero =>
    intro x2 x3 x4 S o h
    simp [Heard_nameNextShip_1_L12] at h
  | succ n ih =>
    intro x2 x3 x4 S o h hE
    rw [Heard_nameNextShip_1_L12] at h
    refine q_iload dX8_nameNextShip_12 rfl rfl ?_
    refine q_bipush dX8_nameNextShip_14 (by decide) rfl ?_
    obtain ⟨c241, h⟩ := qk_some h
    refine q_icmp_ge (tgt := 56) dX8_nameNextShip_16 (by decide) rfl (qRb_R c241) ⟨by decide, by decide⟩ (fun g => ?_) (fun g => ?_)
    · rw [if_pos (show 8 ≤ x4 from g)] at h
      cases h
      exact q_pick [] rfl (hE)
    · rw [if_neg (show ¬ (8 ≤ x4) from g)] at h
      refine q_aload_n dX8_nameNextShip_19 rfl rfl ?_
      refine q_getA dX8_nameNextShip_20 fl_X8_39 (hL 3 (by decide)) sh_3 (by decide) rfl rfl ?_
      refine q_aload_n dX8_nameNextShip_23 rfl rfl ?_
      refine q_getI dX8_nameNextShip_24 fl_X8_70 (hL 3 (by decide)) sh_3 (by decide) rfl rfl ?_
      refine q_bipush dX8_nameNextShip_27 (by decide) rfl ?_
      refine q_imul dX8_nameNextShip_29 rfl ?_
      refine q_iload dX8_nameNextShip_30 rfl rfl ?_
      refine q_iadd dX8_nameNextShip_32 rfl ?_
      refine q_iload dX8_nameNextShip_33 rfl rfl ?_
      refine q_iload_n dX8_nameNextShip_35 rfl rfl ?_
      refine q_jn (G := fun (t245 : Int) => qW X d yX8_nameNextShip cX8_nameNextShip 5 none 49 [(0, qr 3), (1, qr 1), (2, qi x2), (3, qi x3), (4, qi x4)] [qi t245, qi (((S 3 12) * 8) + x4), qr 34] S Q) h (fun t245 h => ?_) (fun t245 h hk4056 => ?_)
      · try dsimp only at h
        obtain ⟨c246, h⟩ := qk_some h
        refine q_iastore dX8_nameNextShip_49 (hL 34 (by decide)) sh_34 (qIx_0 c246) (qIx_1 c246) rfl ?_
        refine q_iinc (lv' := [(4, qi (x4 + 1)), (0, qr 3), (1, qr 1), (2, qi x2), (3, qi x3)]) dX8_nameNextShip_50 (by decide) rfl rfl rfl ?_
        refine q_goto (pc' := 12) dX8_nameNextShip_53 (by decide) ?_
        exact q_pick [1, 2, 3, 4, 0] rfl (ih x2 x3 (x4 + 1) _ _ h hE)
      · skip
        obtain ⟨c242, h⟩ := qk_some h
        obtain ⟨c243, h⟩ := qk_some h
        refine q_icmp_ge (tgt := 48) dX8_nameNextShip_36 (by decide) rfl (qRb_R c242) (qRb_R c243) (fun g => ?_) (fun g => ?_)
        · rw [if_pos (show x3 ≤ x4 from g)] at h
          refine q_iconst dX8_nameNextShip_48 rfl rfl ?_
          cases h
          exact q_pick [0, 1, 2, 3, 4] rfl hk4056
        · rw [if_neg (show ¬ (x3 ≤ x4) from g)] at h
          refine q_aload_n dX8_nameNextShip_39 rfl rfl ?_
          refine q_iload_n dX8_nameNextShip_40 rfl rfl ?_
          refine q_iload dX8_nameNextShip_41 rfl rfl ?_
          refine q_iadd dX8_nameNextShip_43 rfl ?_
          obtain ⟨c244, h⟩ := qk_some h
          refine q_baload dX8_nameNextShip_44 (hL 1 (by decide)) sh_1 (qIx_0 c244) (qIx_1 c244) rfl ?_
          refine q_goto (pc' := 49) dX8_nameNextShip_45 (by decide) ?_
          cases h
          exact q_pick [0, 1, 2, 3, 4] rfl hk4056
set_option maxRecDepth 20000 in
theorem Heard_nameNextShip_1_ok {X : qX} (hL : ∀ c, c < 93 → c ∈ qLs X) (d : Nat) (a2 : Int) (a3 : Int) (S : qSto) (o : qSto) (h : Heard_nameNextShip_1 a2 a3 S = some o) (Q : Option qV → qSto → Prop) (hQ : Q none o) : qC X d yX8_nameNextShip cX8_nameNextShip 5 none [qr 3, qr 1, qi a2, qi a3] S Q := by
  refine q_entry (lv := [(0, qr 3), (1, qr 1), (2, qi a2), (3, qi a3)]) pn_X8 (Nat.le_of_ble_eq_true rfl) rfl ?_
  unfold Heard_nameNextShip_1 at h
  refine q_aload_n dX8_nameNextShip_0 rfl rfl ?_
  refine q_getI dX8_nameNextShip_1 fl_X8_70 (hL 3 (by decide)) sh_3 (by decide) rfl rfl ?_
  refine q_bipush dX8_nameNextShip_4 (by decide) rfl ?_
  obtain ⟨c240, h⟩ := qk_some h
  refine q_icmp_ge (tgt := 56) dX8_nameNextShip_6 (by decide) rfl (qRb_R c240) ⟨by decide, by decide⟩ (fun g => ?_) (fun g => ?_)
  · rw [if_pos (show 14 ≤ (S 3 12) from g)] at h
    cases h
    exact q_return dX8_nameNextShip_56 rfl hQ
  · rw [if_neg (show ¬ (14 ≤ (S 3 12)) from g)] at h
    refine q_iconst dX8_nameNextShip_9 rfl rfl ?_
    refine q_istore (lv' := [(4, qi 0), (0, qr 3), (1, qr 1), (2, qi a2), (3, qi a3)]) dX8_nameNextShip_10 (by decide) rfl rfl ?_
    obtain ⟨q247, h248, h⟩ := Option.bind_eq_some_iff.mp h
    refine q_pick [1, 2, 3, 4, 0] rfl (Heard_nameNextShip_1_L12_ok hL d qF a2 a3 0 _ _ h248 ?_)
    cases h
    exact q_return dX8_nameNextShip_56 rfl hQ
set_option maxRecDepth 20000 in
theorem Heard_nameByte_ok {X : qX} (hL : ∀ c, c < 93 → c ∈ qLs X) (d : Nat) (a1 : Int) (a2 : Int) (S : qSto) (o : (Int × qSto)) (h : Heard_nameByte a1 a2 S = some o) (Q : Option qV → qSto → Prop) (hQ : Q (some (qi o.1)) o.2) : qC X d yX8_nameByte cX8_nameByte 3 (some .int) [qr 3, qi a1, qi a2] S Q := by
  refine q_entry (lv := [(0, qr 3), (1, qi a1), (2, qi a2)]) pn_X8 (Nat.le_of_ble_eq_true rfl) rfl ?_
  unfold Heard_nameByte at h
  refine q_iload_n dX8_nameByte_0 rfl rfl ?_
  refine q_bipush dX8_nameByte_1 (by decide) rfl ?_
  obtain ⟨c254, h⟩ := qk_some h
  refine q_icmp_ge (tgt := 20) dX8_nameByte_3 (by decide) rfl (qRb_R c254) ⟨by decide, by decide⟩ (fun g => ?_) (fun g => ?_)
  · rw [if_pos (show 14 ≤ a1 from g)] at h
    refine q_iconst dX8_nameByte_20 rfl rfl ?_
    cases h
    exact q_ireturn dX8_nameByte_21 rfl hQ
  · rw [if_neg (show ¬ (14 ≤ a1) from g)] at h
    refine q_aload_n dX8_nameByte_6 rfl rfl ?_
    refine q_getA dX8_nameByte_7 fl_X8_39 (hL 3 (by decide)) sh_3 (by decide) rfl rfl ?_
    refine q_iload_n dX8_nameByte_10 rfl rfl ?_
    refine q_bipush dX8_nameByte_11 (by decide) rfl ?_
    refine q_imul dX8_nameByte_13 rfl ?_
    refine q_iload_n dX8_nameByte_14 rfl rfl ?_
    refine q_iadd dX8_nameByte_15 rfl ?_
    obtain ⟨c255, h⟩ := qk_some h
    refine q_iaload dX8_nameByte_16 (hL 34 (by decide)) sh_34 (qIx_0 c255) (qIx_1 c255) rfl ?_
    refine q_goto (pc' := 21) dX8_nameByte_17 (by decide) ?_
    cases h
    exact q_ireturn dX8_nameByte_21 rfl hQ
set_option maxRecDepth 20000 in
theorem Heard_isNextNameToldAlready_L12_ok {X : qX} (hL : ∀ c, c < 93 → c ∈ qLs X) (d : Nat) {Q : Option qV → qSto → Prop} : ∀ (n : Nat) (x1 : Int) (x2 : Int) (S : qSto) (o : (Int × qSto)), Heard_isNextNameToldAlready_L12 n x1 x2 S = some o → (qW X (d + 1) yX8_isNextNameToldAlready cX8_isNextNameToldAlready 3 (some .boolean) 42 [(0, qr 3), (1, qi x1), (2, qi o.1)] [] o.2 Q) → qW X (d + 1) yX8_isNextNameToldAlready cX8_isNextNameToldAlready 3 (some .boolean) 12 [(0, qr 3), (1, qi x1), (2, qi x2)] [] S Q := by
  intro n
  induction n with
  | zero =>
    intro x1 x2 S o h
    simp [Heard_isNextNameToldAlready_L12] at h
  | succ n ih =>
    intro x1 x2 S o h hE
    rw [Heard_isNextNameToldAlready_L12] at h
    refine q_iload_n dX8_isNextNameToldAlready_12 rfl rfl ?_
    refine q_bipush dX8_isNextNameToldAlready_13 (by decide) rfl ?_
    obtain ⟨c253, h⟩ := qk_some h
    refine q_icmp_ge (tgt := 42) dX8_isNextNameToldAlready_15 (by decide) rfl (qRb_R c253) ⟨by decide, by decide⟩ (fun g => ?_) (fun g => ?_)
    · rw [if_pos (show 8 ≤ x2 from g)] at h
      cases h
      exact q_pick [0, 1, 2] rfl (hE)
    · rw [if_neg (show ¬ (8 ≤ x2) from g)] at h
      refine q_aload_n dX8_isNextNameToldAlready_18 rfl rfl ?_
      refine q_iload_n dX8_isNextNameToldAlready_19 rfl rfl ?_
      refine q_iload_n dX8_isNextNameToldAlready_20 rfl rfl ?_
      obtain ⟨q256, h257, h⟩ := Option.bind_eq_some_iff.mp h
      refine q_callVi (as := [qi x1, qi x2]) (c := 3) dX8_isNextNameToldAlready_21 ml_X8_77 rfl rfl (hL 3 (by decide)) sh_3 rfl rfl (Nat.le_of_ble_eq_true rfl) (Heard_nameByte_ok hL d x1 x2 _ _ h257) rfl ?_
      refine q_aload_n dX8_isNextNameToldAlready_24 rfl rfl ?_
      refine q_aload_n dX8_isNextNameToldAlready_25 rfl rfl ?_
      refine q_getI dX8_isNextNameToldAlready_26 fl_X8_70 (hL 3 (by decide)) sh_3 (by decide) rfl rfl ?_
      refine q_iload_n dX8_isNextNameToldAlready_29 rfl rfl ?_
      obtain ⟨q258, h259, h⟩ := Option.bind_eq_some_iff.mp h
      refine q_callVi (as := [qi (q256.2 3 12), qi x2]) (c := 3) dX8_isNextNameToldAlready_30 ml_X8_77 rfl rfl (hL 3 (by decide)) sh_3 rfl rfl (Nat.le_of_ble_eq_true rfl) (Heard_nameByte_ok hL d (q256.2 3 12) x2 _ _ h259) rfl ?_
      obtain ⟨c260, h⟩ := qk_some h
      obtain ⟨c261, h⟩ := qk_some h
      refine q_icmp_ne (tgt := 42) dX8_isNextNameToldAlready_33 (by decide) rfl (qRb_R c260) (qRb_R c261) (fun g => ?_) (fun g => ?_)
      · rw [if_neg (show ¬ (q256.1 = q258.1) from g)] at h
        cases h
        exact q_pick [0, 1, 2] rfl (hE)
      · rw [if_pos (show q256.1 = q258.1 from g)] at h
        refine q_iinc (lv' := [(2, qi (x2 + 1)), (0, qr 3), (1, qi x1)]) dX8_isNextNameToldAlready_36 (by decide) rfl rfl rfl ?_
        refine q_goto (pc' := 12) dX8_isNextNameToldAlready_39 (by decide) ?_
        exact q_pick [1, 2, 0] rfl (ih x1 (x2 + 1) _ _ h hE)
set_option maxRecDepth 20000 in
theorem Heard_isNextNameToldAlready_L2_ok {X : qX} (hL : ∀ c, c < 93 → c ∈ qLs X) (d : Nat) {Q : Option qV → qSto → Prop} : ∀ (n : Nat) (x1 : Int) (S : qSto) (o : (qSto ⊕ (Int × qSto))), Heard_isNextNameToldAlready_L2 n x1 S = some o → (∀ t, o = Sum.inl t → qW X (d + 1) yX8_isNextNameToldAlready cX8_isNextNameToldAlready 3 (some .boolean) 56 [] [] t Q) → (∀ w, o = Sum.inr w → Q (some (qi w.1)) w.2) → qW X (d + 1) yX8_isNextNameToldAlready cX8_isNextNameToldAlready 3 (some .boolean) 2 [(0, qr 3), (1, qi x1)] [] S Q := by
  intro n
  induction n with
  | zero =>
    intro x1 S o h
    simp [Heard_isNextNameToldAlready_L2] at h
  | succ n ih =>
    intro x1 S o h hE hR
    rw [Heard_isNextNameToldAlready_L2] at h
    refine q_iload_n dX8_isNextNameToldAlready_2 rfl rfl ?_
    refine q_aload_n dX8_isNextNameToldAlready_3 rfl rfl ?_
    refine q_getI dX8_isNextNameToldAlready_4 fl_X8_70 (hL 3 (by decide)) sh_3 (by decide) rfl rfl ?_
    obtain ⟨c251, h⟩ := qk_some h
    obtain ⟨c252, h⟩ := qk_some h
    refine q_icmp_ge (tgt := 56) dX8_isNextNameToldAlready_7 (by decide) rfl (qRb_R c251) (qRb_R c252) (fun g => ?_) (fun g => ?_)
    · rw [if_pos (show (S 3 12) ≤ x1 from g)] at h
      cases h
      exact q_pick [] rfl (hE _ rfl)
    · rw [if_neg (show ¬ ((S 3 12) ≤ x1) from g)] at h
      refine q_iconst dX8_isNextNameToldAlready_10 rfl rfl ?_
      refine q_istore_n (lv' := [(2, qi 0), (0, qr 3), (1, qi x1)]) dX8_isNextNameToldAlready_11 (by decide) rfl rfl ?_
      obtain ⟨q262, h263, h⟩ := Option.bind_eq_some_iff.mp h
      refine q_pick [1, 2, 0] rfl (Heard_isNextNameToldAlready_L12_ok hL d qF x1 0 _ _ h263 ?_)
      refine q_iload_n dX8_isNextNameToldAlready_42 rfl rfl ?_
      refine q_bipush dX8_isNextNameToldAlready_43 (by decide) rfl ?_
      obtain ⟨c264, h⟩ := qk_some h
      refine q_icmp_ne (tgt := 50) dX8_isNextNameToldAlready_45 (by decide) rfl (qRb_R c264) ⟨by decide, by decide⟩ (fun g => ?_) (fun g => ?_)
      · rw [if_neg (show ¬ (q262.1 = 8) from g)] at h
        refine q_iinc (lv' := [(1, qi (x1 + 1)), (0, qr 3), (2, qi q262.1)]) dX8_isNextNameToldAlready_50 (by decide) rfl rfl rfl ?_
        refine q_goto (pc' := 2) dX8_isNextNameToldAlready_53 (by decide) ?_
        exact q_pick [1, 0] rfl (ih (x1 + 1) _ _ h hE hR)
      · rw [if_pos (show q262.1 = 8 from g)] at h
        refine q_iconst dX8_isNextNameToldAlready_48 rfl rfl ?_
        cases h
        exact q_zreturn dX8_isNextNameToldAlready_49 rfl (by decide) (hR _ rfl)
set_option maxRecDepth 20000 in
theorem Heard_isNextNameToldAlready_ok {X : qX} (hL : ∀ c, c < 93 → c ∈ qLs X) (d : Nat) (S : qSto) (o : (Int × qSto)) (h : Heard_isNextNameToldAlready S = some o) (Q : Option qV → qSto → Prop) (hQ : Q (some (qi o.1)) o.2) : qC X (d + 1) yX8_isNextNameToldAlready cX8_isNextNameToldAlready 3 (some .boolean) [qr 3] S Q := by
  refine q_entry (lv := [(0, qr 3)]) pn_X8 (Nat.le_of_ble_eq_true rfl) rfl ?_
  unfold Heard_isNextNameToldAlready at h
  refine q_iconst dX8_isNextNameToldAlready_0 rfl rfl ?_
  refine q_istore_n (lv' := [(1, qi 0), (0, qr 3)]) dX8_isNextNameToldAlready_1 (by decide) rfl rfl ?_
  obtain ⟨q265, h266, h⟩ := Option.bind_eq_some_iff.mp h
  refine q_pick [1, 0] rfl (Heard_isNextNameToldAlready_L2_ok hL d qF 0 _ _ h266 (fun t267 e4057 => ?_) (fun w e4057 => ?_))
  · subst e4057
    simp only [Sum.elim_inl] at h
    refine q_iconst dX8_isNextNameToldAlready_56 rfl rfl ?_
    cases h
    exact q_zreturn dX8_isNextNameToldAlready_57 rfl (by decide) hQ
  · subst e4057
    simp only [Sum.elim_inr] at h
    cases h
    exact hQ
set_option maxRecDepth 20000 in
theorem Reader_readName_ok {X : qX} (hL : ∀ c, c < 93 → c ∈ qLs X) (d : Nat) (S : qSto) (o : (Int × qSto)) (h : Reader_readName S = some o) (Q : Option qV → qSto → Prop) (hQ : Q (some (qi o.1)) o.2) : qC X (d + 6) yX5_readName cX5_readName 3 (some .boolean) [qr 4] S Q := by
  refine q_entry (lv := [(0, qr 4)]) pn_X5 (Nat.le_of_ble_eq_true rfl) rfl ?_
  unfold Reader_readName at h
  refine q_aload_n dX5_readName_0 rfl rfl ?_
  obtain ⟨q225, h226, h⟩ := Option.bind_eq_some_iff.mp h
  refine q_callVv (as := []) (c := 4) dX5_readName_1 ml_X5_47 rfl rfl (hL 4 (by decide)) sh_4 rfl rfl (Nat.le_of_ble_eq_true rfl) (Reader_skipBlanks_ok hL (d + 5) _ _ h226) rfl ?_
  refine q_aload_n dX5_readName_4 rfl rfl ?_
  refine q_getI dX5_readName_5 fl_X5_36 (hL 4 (by decide)) sh_4 (by decide) rfl rfl ?_
  refine q_istore_n (lv' := [(1, qi (q225 4 4)), (0, qr 4)]) dX5_readName_8 (by decide) rfl rfl ?_
  refine q_aload_n dX5_readName_9 rfl rfl ?_
  refine q_bipush dX5_readName_10 (by decide) rfl ?_
  refine q_bipush dX5_readName_12 (by decide) rfl ?_
  obtain ⟨q227, h228, h⟩ := Option.bind_eq_some_iff.mp h
  refine q_callVi (as := [qi 97, qi 122]) (c := 4) dX5_readName_14 ml_X5_54 rfl rfl (hL 4 (by decide)) sh_4 rfl rfl (Nat.le_of_ble_eq_true rfl) (Reader_passRow_ok hL (d + 5) 97 122 _ _ h228) rfl ?_
  refine q_istore_n (lv' := [(2, qi q227.1), (1, qi (q225 4 4)), (0, qr 4)]) dX5_readName_17 (by decide) rfl rfl ?_
  refine q_iload_n dX5_readName_18 rfl rfl ?_
  refine q_iconst dX5_readName_19 rfl rfl ?_
  obtain ⟨c229, h⟩ := qk_some h
  refine q_icmp_lt (tgt := 39) dX5_readName_20 (by decide) rfl (qRb_R c229) ⟨by decide, by decide⟩ (fun g => ?_) (fun g => ?_)
  · rw [if_pos (show q227.1 < 1 from g)] at h
    refine q_aload_n dX5_readName_39 rfl rfl ?_
    refine q_iconst dX5_readName_40 rfl rfl ?_
    refine q_iload_n dX5_readName_41 rfl rfl ?_
    obtain ⟨q230, h231, h⟩ := Option.bind_eq_some_iff.mp h
    refine q_callVi (as := [qi 1, qi (q225 4 4)]) (c := 4) dX5_readName_42 ml_X5_61 rfl rfl (hL 4 (by decide)) sh_4 rfl rfl (Nat.le_of_ble_eq_true rfl) (Reader_refuse_ok hL (d + 5) 1 (q225 4 4) _ _ h231) rfl ?_
    obtain ⟨c232, h⟩ := qk_some h
    cases h
    exact q_zreturn dX5_readName_45 rfl (qZb_Z c232) hQ
  · rw [if_neg (show ¬ (q227.1 < 1) from g)] at h
    refine q_iload_n dX5_readName_23 rfl rfl ?_
    refine q_bipush dX5_readName_24 (by decide) rfl ?_
    obtain ⟨c233, h⟩ := qk_some h
    refine q_icmp_gt (tgt := 39) dX5_readName_26 (by decide) rfl (qRb_R c233) ⟨by decide, by decide⟩ (fun g => ?_) (fun g => ?_)
    · rw [if_pos (show 8 < q227.1 from g)] at h
      refine q_aload_n dX5_readName_39 rfl rfl ?_
      refine q_iconst dX5_readName_40 rfl rfl ?_
      refine q_iload_n dX5_readName_41 rfl rfl ?_
      obtain ⟨q234, h235, h⟩ := Option.bind_eq_some_iff.mp h
      refine q_callVi (as := [qi 1, qi (q225 4 4)]) (c := 4) dX5_readName_42 ml_X5_61 rfl rfl (hL 4 (by decide)) sh_4 rfl rfl (Nat.le_of_ble_eq_true rfl) (Reader_refuse_ok hL (d + 5) 1 (q225 4 4) _ _ h235) rfl ?_
      obtain ⟨c236, h⟩ := qk_some h
      cases h
      exact q_zreturn dX5_readName_45 rfl (qZb_Z c236) hQ
    · rw [if_neg (show ¬ (8 < q227.1) from g)] at h
      refine q_aload_n dX5_readName_29 rfl rfl ?_
      refine q_iload_n dX5_readName_30 rfl rfl ?_
      refine q_iload_n dX5_readName_31 rfl rfl ?_
      obtain ⟨q237, h238, h⟩ := Option.bind_eq_some_iff.mp h
      refine q_callVi (as := [qi (q225 4 4), qi q227.1]) (c := 4) dX5_readName_32 ml_X5_58 rfl rfl (hL 4 (by decide)) sh_4 rfl rfl (Nat.le_of_ble_eq_true rfl) (Reader_lineKind_ok hL d (q225 4 4) q227.1 _ _ h238) rfl ?_
      refine q_iconst dX5_readName_35 rfl rfl ?_
      obtain ⟨c239, h⟩ := qk_some h
      refine q_icmp_eq (tgt := 46) dX5_readName_36 (by decide) rfl (qRb_R c239) ⟨by decide, by decide⟩ (fun g => ?_) (fun g => ?_)
      · rw [if_pos (show q237.1 = (-1) from g)] at h
        refine q_aload_n dX5_readName_46 rfl rfl ?_
        refine q_getA dX5_readName_47 fl_X5_23 (hL 4 (by decide)) sh_4 (by decide) rfl rfl ?_
        refine q_aload_n dX5_readName_50 rfl rfl ?_
        refine q_getA dX5_readName_51 fl_X5_19 (hL 4 (by decide)) sh_4 (by decide) rfl rfl ?_
        refine q_iload_n dX5_readName_54 rfl rfl ?_
        refine q_iload_n dX5_readName_55 rfl rfl ?_
        obtain ⟨q249, h250, h⟩ := Option.bind_eq_some_iff.mp h
        refine q_callVv (as := [qr 1, qi (q225 4 4), qi q227.1]) (c := 3) dX5_readName_56 ml_X5_85 rfl rfl (hL 3 (by decide)) sh_3 rfl rfl (Nat.le_of_ble_eq_true rfl) (Heard_nameNextShip_1_ok hL (d + 5) (q225 4 4) q227.1 _ _ h250) rfl ?_
        refine q_aload_n dX5_readName_59 rfl rfl ?_
        refine q_getA dX5_readName_60 fl_X5_23 (hL 4 (by decide)) sh_4 (by decide) rfl rfl ?_
        obtain ⟨q268, h269, h⟩ := Option.bind_eq_some_iff.mp h
        refine q_callVi (as := []) (c := 3) dX5_readName_63 ml_X5_89 rfl rfl (hL 3 (by decide)) sh_3 rfl rfl (Nat.le_of_ble_eq_true rfl) (Heard_isNextNameToldAlready_ok hL (d + 4) _ _ h269) rfl ?_
        obtain ⟨c270, h⟩ := qk_some h
        refine q_if_eq (tgt := 78) dX5_readName_66 (by decide) rfl (qRb_R c270)  (fun g => ?_) (fun g => ?_)
        · rw [if_pos (show q268.1 = 0 from g)] at h
          refine q_iconst dX5_readName_78 rfl rfl ?_
          refine q_goto (pc' := 83) dX5_readName_79 (by decide) ?_
          cases h
          exact q_zreturn dX5_readName_83 rfl (by decide) hQ
        · rw [if_neg (show ¬ (q268.1 = 0) from g)] at h
          refine q_aload_n dX5_readName_69 rfl rfl ?_
          refine q_iconst dX5_readName_70 rfl rfl ?_
          refine q_iload_n dX5_readName_71 rfl rfl ?_
          obtain ⟨q271, h272, h⟩ := Option.bind_eq_some_iff.mp h
          refine q_callVi (as := [qi 3, qi (q225 4 4)]) (c := 4) dX5_readName_72 ml_X5_61 rfl rfl (hL 4 (by decide)) sh_4 rfl rfl (Nat.le_of_ble_eq_true rfl) (Reader_refuse_ok hL (d + 5) 3 (q225 4 4) _ _ h272) rfl ?_
          obtain ⟨c273, h⟩ := qk_some h
          refine q_if_eq (tgt := 82) dX5_readName_75 (by decide) rfl (qRb_R c273)  (fun g => ?_) (fun g => ?_)
          · rw [if_pos (show q271.1 = 0 from g)] at h
            refine q_iconst dX5_readName_82 rfl rfl ?_
            cases h
            exact q_zreturn dX5_readName_83 rfl (by decide) hQ
          · rw [if_neg (show ¬ (q271.1 = 0) from g)] at h
            refine q_iconst dX5_readName_78 rfl rfl ?_
            refine q_goto (pc' := 83) dX5_readName_79 (by decide) ?_
            cases h
            exact q_zreturn dX5_readName_83 rfl (by decide) hQ
      · rw [if_neg (show ¬ (q237.1 = (-1)) from g)] at h
        refine q_aload_n dX5_readName_39 rfl rfl ?_
        refine q_iconst dX5_readName_40 rfl rfl ?_
        refine q_iload_n dX5_readName_41 rfl rfl ?_
        obtain ⟨q274, h275, h⟩ := Option.bind_eq_some_iff.mp h
        refine q_callVi (as := [qi 1, qi (q225 4 4)]) (c := 4) dX5_readName_42 ml_X5_61 rfl rfl (hL 4 (by decide)) sh_4 rfl rfl (Nat.le_of_ble_eq_true rfl) (Reader_refuse_ok hL (d + 5) 1 (q225 4 4) _ _ h275) rfl ?_
        obtain ⟨c276, h⟩ := qk_some h
        cases h
        exact q_zreturn dX5_readName_45 rfl (qZb_Z c276) hQ
set_option maxRecDepth 20000 in
theorem Reader_readLine_L84_ok {X : qX} (hL : ∀ c, c < 93 → c ∈ qLs X) (d : Nat) {Q : Option qV → qSto → Prop} : ∀ (n : Nat) (x2 : Int) (x3 : Int) (S : qSto) (o : (qSto ⊕ (Int × qSto))), Reader_readLine_L84 n x2 x3 S = some o → (∀ t, o = Sum.inl t → qW X (d + 7) yX5_readLine cX5_readLine 4 (some .boolean) 110 [(0, qr 4), (2, qi x2)] [] t Q) → (∀ w, o = Sum.inr w → Q (some (qi w.1)) w.2) → qW X (d + 7) yX5_readLine cX5_readLine 4 (some .boolean) 84 [(0, qr 4), (2, qi x2), (3, qi x3)] [] S Q := by
  intro n
  induction n with
  | zero =>
    intro x2 x3 S o h
    simp [Reader_readLine_L84] at h
  | succ n ih =>
    intro x2 x3 S o h hE hR
    rw [Reader_readLine_L84] at h
    refine q_iload_n dX5_readLine_84 rfl rfl ?_
    refine q_gets (i := 0) dX5_readLine_85 (by decide) (by decide) rfl ?_
    refine q_iload_n dX5_readLine_88 rfl rfl ?_
    obtain ⟨c102, h⟩ := qk_some h
    refine q_tiaload (t := 0) dX5_readLine_89 (by decide) (qIx_0 c102) (qIx_1 c102) rfl ?_
    obtain ⟨c103, h⟩ := qk_some h
    obtain ⟨c104, h⟩ := qk_some h
    refine q_icmp_ge (tgt := 110) dX5_readLine_90 (by decide) rfl (qRb_R c103) (qRb_R c104) (fun g => ?_) (fun g => ?_)
    · rw [if_pos (show (List.getD (qsl 0) (Int.toNat x2) 0) ≤ x3 from g)] at h
      cases h
      exact q_pick [0, 1] rfl (hE _ rfl)
    · rw [if_neg (show ¬ ((List.getD (qsl 0) (Int.toNat x2) 0) ≤ x3) from g)] at h
      refine q_aload_n dX5_readLine_93 rfl rfl ?_
      refine q_iload_n dX5_readLine_94 rfl rfl ?_
      refine q_iload_n dX5_readLine_95 rfl rfl ?_
      obtain ⟨q190, h191, h⟩ := Option.bind_eq_some_iff.mp h
      refine q_callVi (as := [qi x2, qi x3]) (c := 4) dX5_readLine_96 ml_X5_78 rfl rfl (hL 4 (by decide)) sh_4 rfl rfl (Nat.le_of_ble_eq_true rfl) (Reader_readNumber_ok hL (d + 4) x2 x3 _ _ h191) rfl ?_
      obtain ⟨c192, h⟩ := qk_some h
      refine q_if_ne (tgt := 104) dX5_readLine_99 (by decide) rfl (qRb_R c192)  (fun g => ?_) (fun g => ?_)
      · rw [if_neg (show ¬ (q190.1 = 0) from g)] at h
        refine q_iinc (lv' := [(3, qi (x3 + 1)), (0, qr 4), (2, qi x2)]) dX5_readLine_104 (by decide) rfl rfl rfl ?_
        refine q_goto (pc' := 84) dX5_readLine_107 (by decide) ?_
        exact q_pick [1, 2, 0] rfl (ih x2 (x3 + 1) _ _ h hE hR)
      · rw [if_pos (show q190.1 = 0 from g)] at h
        refine q_iconst dX5_readLine_102 rfl rfl ?_
        cases h
        exact q_zreturn dX5_readLine_103 rfl (by decide) (hR _ rfl)
set_option maxRecDepth 20000 in
theorem Reader_readLine_ok {X : qX} (hL : ∀ c, c < 93 → c ∈ qLs X) (d : Nat) (S : qSto) (o : (Int × qSto)) (h : Reader_readLine S = some o) (Q : Option qV → qSto → Prop) (hQ : Q (some (qi o.1)) o.2) : qC X (d + 7) yX5_readLine cX5_readLine 4 (some .boolean) [qr 4] S Q := by
  refine q_entry (lv := [(0, qr 4)]) pn_X5 (Nat.le_of_ble_eq_true rfl) rfl ?_
  unfold Reader_readLine at h
  refine q_aload_n dX5_readLine_0 rfl rfl ?_
  refine q_getI dX5_readLine_1 fl_X5_36 (hL 4 (by decide)) sh_4 (by decide) rfl rfl ?_
  refine q_istore_n (lv' := [(1, qi (S 4 4)), (0, qr 4)]) dX5_readLine_4 (by decide) rfl rfl ?_
  refine q_aload_n dX5_readLine_5 rfl rfl ?_
  refine q_iload_n dX5_readLine_6 rfl rfl ?_
  refine q_aload_n dX5_readLine_7 rfl rfl ?_
  refine q_bipush dX5_readLine_8 (by decide) rfl ?_
  refine q_bipush dX5_readLine_10 (by decide) rfl ?_
  obtain ⟨q57, h58, h⟩ := Option.bind_eq_some_iff.mp h
  refine q_callVi (as := [qi 97, qi 122]) (c := 4) dX5_readLine_12 ml_X5_54 rfl rfl (hL 4 (by decide)) sh_4 rfl rfl (Nat.le_of_ble_eq_true rfl) (Reader_passRow_ok hL (d + 6) 97 122 _ _ h58) rfl ?_
  obtain ⟨q85, h86, h⟩ := Option.bind_eq_some_iff.mp h
  refine q_callVi (as := [qi (S 4 4), qi q57.1]) (c := 4) dX5_readLine_15 ml_X5_58 rfl rfl (hL 4 (by decide)) sh_4 rfl rfl (Nat.le_of_ble_eq_true rfl) (Reader_lineKind_ok hL (d + 1) (S 4 4) q57.1 _ _ h86) rfl ?_
  refine q_istore_n (lv' := [(2, qi q85.1), (1, qi (S 4 4)), (0, qr 4)]) dX5_readLine_18 (by decide) rfl rfl ?_
  refine q_iload_n dX5_readLine_19 rfl rfl ?_
  refine q_iconst dX5_readLine_20 rfl rfl ?_
  obtain ⟨c87, h⟩ := qk_some h
  refine q_icmp_ne (tgt := 31) dX5_readLine_21 (by decide) rfl (qRb_R c87) ⟨by decide, by decide⟩ (fun g => ?_) (fun g => ?_)
  · rw [if_neg (show ¬ (q85.1 = (-1)) from g)] at h
    refine q_aload_n dX5_readLine_31 rfl rfl ?_
    refine q_getA dX5_readLine_32 fl_X5_23 (hL 4 (by decide)) sh_4 (by decide) rfl rfl ?_
    refine q_iload_n dX5_readLine_35 rfl rfl ?_
    obtain ⟨q90, h91, h⟩ := Option.bind_eq_some_iff.mp h
    refine q_callVi (as := [qi q85.1]) (c := 3) dX5_readLine_36 ml_X5_65 rfl rfl (hL 3 (by decide)) sh_3 rfl rfl (Nat.le_of_ble_eq_true rfl) (Heard_isSetAlready_ok hL (d + 6) q85.1 _ _ h91) rfl ?_
    obtain ⟨c92, h⟩ := qk_some h
    refine q_if_eq (tgt := 49) dX5_readLine_39 (by decide) rfl (qRb_R c92)  (fun g => ?_) (fun g => ?_)
    · rw [if_pos (show q90.1 = 0 from g)] at h
      refine q_aload_n dX5_readLine_49 rfl rfl ?_
      refine q_getA dX5_readLine_50 fl_X5_23 (hL 4 (by decide)) sh_4 (by decide) rfl rfl ?_
      refine q_iload_n dX5_readLine_53 rfl rfl ?_
      obtain ⟨q98, h99, h⟩ := Option.bind_eq_some_iff.mp h
      refine q_callVi (as := [qi q85.1]) (c := 3) dX5_readLine_54 ml_X5_69 rfl rfl (hL 3 (by decide)) sh_3 rfl rfl (Nat.le_of_ble_eq_true rfl) (Heard_isFull_ok hL (d + 6) q85.1 _ _ h99) rfl ?_
      obtain ⟨c100, h⟩ := qk_some h
      refine q_if_eq (tgt := 67) dX5_readLine_57 (by decide) rfl (qRb_R c100)  (fun g => ?_) (fun g => ?_)
      · rw [if_pos (show q98.1 = 0 from g)] at h
        refine q_iload_n dX5_readLine_67 rfl rfl ?_
        refine q_bipush dX5_readLine_68 (by decide) rfl ?_
        obtain ⟨c101, h⟩ := qk_some h
        refine q_icmp_ne (tgt := 82) dX5_readLine_70 (by decide) rfl (qRb_R c101) ⟨by decide, by decide⟩ (fun g => ?_) (fun g => ?_)
        · rw [if_neg (show ¬ (q85.1 = 10) from g)] at h
          refine q_iconst dX5_readLine_82 rfl rfl ?_
          refine q_istore_n (lv' := [(3, qi 0), (2, qi q85.1), (1, qi (S 4 4)), (0, qr 4)]) dX5_readLine_83 (by decide) rfl rfl ?_
          obtain ⟨q193, h194, h⟩ := Option.bind_eq_some_iff.mp h
          refine q_pick [3, 1, 0] rfl (Reader_readLine_L84_ok hL d qF q85.1 0 _ _ h194 (fun t195 e4058 => ?_) (fun w e4058 => ?_))
          · subst e4058
            simp only [Sum.elim_inl] at h
            refine q_aload_n dX5_readLine_110 rfl rfl ?_
            obtain ⟨q196, h197, h⟩ := Option.bind_eq_some_iff.mp h
            refine q_callVv (as := []) (c := 4) dX5_readLine_111 ml_X5_47 rfl rfl (hL 4 (by decide)) sh_4 rfl rfl (Nat.le_of_ble_eq_true rfl) (Reader_skipBlanks_ok hL (d + 6) _ _ h197) rfl ?_
            refine q_aload_n dX5_readLine_114 rfl rfl ?_
            refine q_getI dX5_readLine_115 fl_X5_36 (hL 4 (by decide)) sh_4 (by decide) rfl rfl ?_
            refine q_aload_n dX5_readLine_118 rfl rfl ?_
            refine q_getI dX5_readLine_119 fl_X5_33 (hL 4 (by decide)) sh_4 (by decide) rfl rfl ?_
            obtain ⟨c198, h⟩ := qk_some h
            obtain ⟨c199, h⟩ := qk_some h
            refine q_icmp_ge (tgt := 139) dX5_readLine_122 (by decide) rfl (qRb_R c198) (qRb_R c199) (fun g => ?_) (fun g => ?_)
            · rw [if_pos (show (q196 4 3) ≤ (q196 4 4) from g)] at h
              refine q_aload_n dX5_readLine_139 rfl rfl ?_
              refine q_iconst dX5_readLine_140 rfl rfl ?_
              refine q_aload_n dX5_readLine_141 rfl rfl ?_
              refine q_getI dX5_readLine_142 fl_X5_36 (hL 4 (by decide)) sh_4 (by decide) rfl rfl ?_
              obtain ⟨q200, h201, h⟩ := Option.bind_eq_some_iff.mp h
              refine q_callVi (as := [qi 1, qi (q196 4 4)]) (c := 4) dX5_readLine_145 ml_X5_61 rfl rfl (hL 4 (by decide)) sh_4 rfl rfl (Nat.le_of_ble_eq_true rfl) (Reader_refuse_ok hL (d + 6) 1 (q196 4 4) _ _ h201) rfl ?_
              obtain ⟨c202, h⟩ := qk_some h
              cases h
              exact q_zreturn dX5_readLine_148 rfl (qZb_Z c202) hQ
            · rw [if_neg (show ¬ ((q196 4 3) ≤ (q196 4 4)) from g)] at h
              refine q_aload_n dX5_readLine_125 rfl rfl ?_
              refine q_getA dX5_readLine_126 fl_X5_19 (hL 4 (by decide)) sh_4 (by decide) rfl rfl ?_
              refine q_aload_n dX5_readLine_129 rfl rfl ?_
              refine q_getI dX5_readLine_130 fl_X5_36 (hL 4 (by decide)) sh_4 (by decide) rfl rfl ?_
              obtain ⟨c203, h⟩ := qk_some h
              refine q_baload dX5_readLine_133 (hL 1 (by decide)) sh_1 (qIx_0 c203) (qIx_1 c203) rfl ?_
              refine q_bipush dX5_readLine_134 (by decide) rfl ?_
              obtain ⟨c204, h⟩ := qk_some h
              refine q_icmp_eq (tgt := 149) dX5_readLine_136 (by decide) rfl (qRb_R c204) ⟨by decide, by decide⟩ (fun g => ?_) (fun g => ?_)
              · rw [if_pos (show (q196 1 (Int.toNat (q196 4 4))) = 59 from g)] at h
                refine q_aload_n dX5_readLine_149 rfl rfl ?_
                refine q_dupA dX5_readLine_150 rfl ?_
                refine q_getI dX5_readLine_151 fl_X5_36 (hL 4 (by decide)) sh_4 (by decide) rfl rfl ?_
                refine q_iconst dX5_readLine_154 rfl rfl ?_
                refine q_iadd dX5_readLine_155 rfl ?_
                refine q_putI dX5_readLine_156 fl_X5_36 (hL 4 (by decide)) sh_4 (by decide) pf_5_4 pt_5_4 rfl rfl ?_
                refine q_aload_n dX5_readLine_159 rfl rfl ?_
                refine q_getA dX5_readLine_160 fl_X5_23 (hL 4 (by decide)) sh_4 (by decide) rfl rfl ?_
                refine q_iload_n dX5_readLine_163 rfl rfl ?_
                refine q_aload_n dX5_readLine_164 rfl rfl ?_
                refine q_getA dX5_readLine_165 fl_X5_9 (hL 4 (by decide)) sh_4 (by decide) rfl rfl ?_
                obtain ⟨q220, h221, h⟩ := Option.bind_eq_some_iff.mp h
                refine q_callVv (as := [qi q85.1, qr 35]) (c := 3) dX5_readLine_168 ml_X5_81 rfl rfl (hL 3 (by decide)) sh_3 rfl rfl (Nat.le_of_ble_eq_true rfl) (Heard_take_35_ok hL (d + 6) q85.1 _ _ h221) rfl ?_
                refine q_iconst dX5_readLine_171 rfl rfl ?_
                cases h
                exact q_zreturn dX5_readLine_172 rfl (by decide) hQ
              · rw [if_neg (show ¬ ((q196 1 (Int.toNat (q196 4 4))) = 59) from g)] at h
                refine q_aload_n dX5_readLine_139 rfl rfl ?_
                refine q_iconst dX5_readLine_140 rfl rfl ?_
                refine q_aload_n dX5_readLine_141 rfl rfl ?_
                refine q_getI dX5_readLine_142 fl_X5_36 (hL 4 (by decide)) sh_4 (by decide) rfl rfl ?_
                obtain ⟨q222, h223, h⟩ := Option.bind_eq_some_iff.mp h
                refine q_callVi (as := [qi 1, qi (q196 4 4)]) (c := 4) dX5_readLine_145 ml_X5_61 rfl rfl (hL 4 (by decide)) sh_4 rfl rfl (Nat.le_of_ble_eq_true rfl) (Reader_refuse_ok hL (d + 6) 1 (q196 4 4) _ _ h223) rfl ?_
                obtain ⟨c224, h⟩ := qk_some h
                cases h
                exact q_zreturn dX5_readLine_148 rfl (qZb_Z c224) hQ
          · subst e4058
            simp only [Sum.elim_inr] at h
            cases h
            exact hQ
        · rw [if_pos (show q85.1 = 10 from g)] at h
          refine q_aload_n dX5_readLine_73 rfl rfl ?_
          obtain ⟨q277, h278, h⟩ := Option.bind_eq_some_iff.mp h
          refine q_callVi (as := []) (c := 4) dX5_readLine_74 ml_X5_72 rfl rfl (hL 4 (by decide)) sh_4 rfl rfl (Nat.le_of_ble_eq_true rfl) (Reader_readName_ok hL d _ _ h278) rfl ?_
          obtain ⟨c279, h⟩ := qk_some h
          refine q_if_ne (tgt := 82) dX5_readLine_77 (by decide) rfl (qRb_R c279)  (fun g => ?_) (fun g => ?_)
          · rw [if_neg (show ¬ (q277.1 = 0) from g)] at h
            refine q_iconst dX5_readLine_82 rfl rfl ?_
            refine q_istore_n (lv' := [(3, qi 0), (2, qi q85.1), (1, qi (S 4 4)), (0, qr 4)]) dX5_readLine_83 (by decide) rfl rfl ?_
            obtain ⟨q280, h281, h⟩ := Option.bind_eq_some_iff.mp h
            refine q_pick [3, 1, 0] rfl (Reader_readLine_L84_ok hL d qF q85.1 0 _ _ h281 (fun t282 e4059 => ?_) (fun w e4059 => ?_))
            · subst e4059
              simp only [Sum.elim_inl] at h
              refine q_aload_n dX5_readLine_110 rfl rfl ?_
              obtain ⟨q283, h284, h⟩ := Option.bind_eq_some_iff.mp h
              refine q_callVv (as := []) (c := 4) dX5_readLine_111 ml_X5_47 rfl rfl (hL 4 (by decide)) sh_4 rfl rfl (Nat.le_of_ble_eq_true rfl) (Reader_skipBlanks_ok hL (d + 6) _ _ h284) rfl ?_
              refine q_aload_n dX5_readLine_114 rfl rfl ?_
              refine q_getI dX5_readLine_115 fl_X5_36 (hL 4 (by decide)) sh_4 (by decide) rfl rfl ?_
              refine q_aload_n dX5_readLine_118 rfl rfl ?_
              refine q_getI dX5_readLine_119 fl_X5_33 (hL 4 (by decide)) sh_4 (by decide) rfl rfl ?_
              obtain ⟨c285, h⟩ := qk_some h
              obtain ⟨c286, h⟩ := qk_some h
              refine q_icmp_ge (tgt := 139) dX5_readLine_122 (by decide) rfl (qRb_R c285) (qRb_R c286) (fun g => ?_) (fun g => ?_)
              · rw [if_pos (show (q283 4 3) ≤ (q283 4 4) from g)] at h
                refine q_aload_n dX5_readLine_139 rfl rfl ?_
                refine q_iconst dX5_readLine_140 rfl rfl ?_
                refine q_aload_n dX5_readLine_141 rfl rfl ?_
                refine q_getI dX5_readLine_142 fl_X5_36 (hL 4 (by decide)) sh_4 (by decide) rfl rfl ?_
                obtain ⟨q287, h288, h⟩ := Option.bind_eq_some_iff.mp h
                refine q_callVi (as := [qi 1, qi (q283 4 4)]) (c := 4) dX5_readLine_145 ml_X5_61 rfl rfl (hL 4 (by decide)) sh_4 rfl rfl (Nat.le_of_ble_eq_true rfl) (Reader_refuse_ok hL (d + 6) 1 (q283 4 4) _ _ h288) rfl ?_
                obtain ⟨c289, h⟩ := qk_some h
                cases h
                exact q_zreturn dX5_readLine_148 rfl (qZb_Z c289) hQ
              · rw [if_neg (show ¬ ((q283 4 3) ≤ (q283 4 4)) from g)] at h
                refine q_aload_n dX5_readLine_125 rfl rfl ?_
                refine q_getA dX5_readLine_126 fl_X5_19 (hL 4 (by decide)) sh_4 (by decide) rfl rfl ?_
                refine q_aload_n dX5_readLine_129 rfl rfl ?_
                refine q_getI dX5_readLine_130 fl_X5_36 (hL 4 (by decide)) sh_4 (by decide) rfl rfl ?_
                obtain ⟨c290, h⟩ := qk_some h
                refine q_baload dX5_readLine_133 (hL 1 (by decide)) sh_1 (qIx_0 c290) (qIx_1 c290) rfl ?_
                refine q_bipush dX5_readLine_134 (by decide) rfl ?_
                obtain ⟨c291, h⟩ := qk_some h
                refine q_icmp_eq (tgt := 149) dX5_readLine_136 (by decide) rfl (qRb_R c291) ⟨by decide, by decide⟩ (fun g => ?_) (fun g => ?_)
                · rw [if_pos (show (q283 1 (Int.toNat (q283 4 4))) = 59 from g)] at h
                  refine q_aload_n dX5_readLine_149 rfl rfl ?_
                  refine q_dupA dX5_readLine_150 rfl ?_
                  refine q_getI dX5_readLine_151 fl_X5_36 (hL 4 (by decide)) sh_4 (by decide) rfl rfl ?_
                  refine q_iconst dX5_readLine_154 rfl rfl ?_
                  refine q_iadd dX5_readLine_155 rfl ?_
                  refine q_putI dX5_readLine_156 fl_X5_36 (hL 4 (by decide)) sh_4 (by decide) pf_5_4 pt_5_4 rfl rfl ?_
                  refine q_aload_n dX5_readLine_159 rfl rfl ?_
                  refine q_getA dX5_readLine_160 fl_X5_23 (hL 4 (by decide)) sh_4 (by decide) rfl rfl ?_
                  refine q_iload_n dX5_readLine_163 rfl rfl ?_
                  refine q_aload_n dX5_readLine_164 rfl rfl ?_
                  refine q_getA dX5_readLine_165 fl_X5_9 (hL 4 (by decide)) sh_4 (by decide) rfl rfl ?_
                  obtain ⟨q292, h293, h⟩ := Option.bind_eq_some_iff.mp h
                  refine q_callVv (as := [qi q85.1, qr 35]) (c := 3) dX5_readLine_168 ml_X5_81 rfl rfl (hL 3 (by decide)) sh_3 rfl rfl (Nat.le_of_ble_eq_true rfl) (Heard_take_35_ok hL (d + 6) q85.1 _ _ h293) rfl ?_
                  refine q_iconst dX5_readLine_171 rfl rfl ?_
                  cases h
                  exact q_zreturn dX5_readLine_172 rfl (by decide) hQ
                · rw [if_neg (show ¬ ((q283 1 (Int.toNat (q283 4 4))) = 59) from g)] at h
                  refine q_aload_n dX5_readLine_139 rfl rfl ?_
                  refine q_iconst dX5_readLine_140 rfl rfl ?_
                  refine q_aload_n dX5_readLine_141 rfl rfl ?_
                  refine q_getI dX5_readLine_142 fl_X5_36 (hL 4 (by decide)) sh_4 (by decide) rfl rfl ?_
                  obtain ⟨q294, h295, h⟩ := Option.bind_eq_some_iff.mp h
                  refine q_callVi (as := [qi 1, qi (q283 4 4)]) (c := 4) dX5_readLine_145 ml_X5_61 rfl rfl (hL 4 (by decide)) sh_4 rfl rfl (Nat.le_of_ble_eq_true rfl) (Reader_refuse_ok hL (d + 6) 1 (q283 4 4) _ _ h295) rfl ?_
                  obtain ⟨c296, h⟩ := qk_some h
                  cases h
                  exact q_zreturn dX5_readLine_148 rfl (qZb_Z c296) hQ
            · subst e4059
              simp only [Sum.elim_inr] at h
              cases h
              exact hQ
          · rw [if_pos (show q277.1 = 0 from g)] at h
            refine q_iconst dX5_readLine_80 rfl rfl ?_
            cases h
            exact q_zreturn dX5_readLine_81 rfl (by decide) hQ
      · rw [if_neg (show ¬ (q98.1 = 0) from g)] at h
        refine q_aload_n dX5_readLine_60 rfl rfl ?_
        refine q_iconst dX5_readLine_61 rfl rfl ?_
        refine q_iload_n dX5_readLine_62 rfl rfl ?_
        obtain ⟨q297, h298, h⟩ := Option.bind_eq_some_iff.mp h
        refine q_callVi (as := [qi 4, qi (S 4 4)]) (c := 4) dX5_readLine_63 ml_X5_61 rfl rfl (hL 4 (by decide)) sh_4 rfl rfl (Nat.le_of_ble_eq_true rfl) (Reader_refuse_ok hL (d + 6) 4 (S 4 4) _ _ h298) rfl ?_
        obtain ⟨c299, h⟩ := qk_some h
        cases h
        exact q_zreturn dX5_readLine_66 rfl (qZb_Z c299) hQ
    · rw [if_neg (show ¬ (q90.1 = 0) from g)] at h
      refine q_aload_n dX5_readLine_42 rfl rfl ?_
      refine q_iconst dX5_readLine_43 rfl rfl ?_
      refine q_iload_n dX5_readLine_44 rfl rfl ?_
      obtain ⟨q300, h301, h⟩ := Option.bind_eq_some_iff.mp h
      refine q_callVi (as := [qi 3, qi (S 4 4)]) (c := 4) dX5_readLine_45 ml_X5_61 rfl rfl (hL 4 (by decide)) sh_4 rfl rfl (Nat.le_of_ble_eq_true rfl) (Reader_refuse_ok hL (d + 6) 3 (S 4 4) _ _ h301) rfl ?_
      obtain ⟨c302, h⟩ := qk_some h
      cases h
      exact q_zreturn dX5_readLine_48 rfl (qZb_Z c302) hQ
  · rw [if_pos (show q85.1 = (-1) from g)] at h
    refine q_aload_n dX5_readLine_24 rfl rfl ?_
    refine q_iconst dX5_readLine_25 rfl rfl ?_
    refine q_iload_n dX5_readLine_26 rfl rfl ?_
    obtain ⟨q303, h304, h⟩ := Option.bind_eq_some_iff.mp h
    refine q_callVi (as := [qi 1, qi (S 4 4)]) (c := 4) dX5_readLine_27 ml_X5_61 rfl rfl (hL 4 (by decide)) sh_4 rfl rfl (Nat.le_of_ble_eq_true rfl) (Reader_refuse_ok hL (d + 6) 1 (S 4 4) _ _ h304) rfl ?_
    obtain ⟨c305, h⟩ := qk_some h
    cases h
    exact q_zreturn dX5_readLine_30 rfl (qZb_Z c305) hQ
set_option maxRecDepth 20000 in
theorem Reader_readText_L39_ok {X : qX} (hL : ∀ c, c < 93 → c ∈ qLs X) (d : Nat) {Q : Option qV → qSto → Prop} : ∀ (n : Nat) (x2 : Int) (x3 : Int) (S : qSto) (o : ((Int × qSto) ⊕ (Int × qSto))), Reader_readText_L39 n x2 x3 S = some o → (∀ t, o = Sum.inl t → qW X (d + 8) yX5_readText cX5_readText 4 (some .int) 83 [(2, qi t.1)] [] t.2 Q) → (∀ w, o = Sum.inr w → Q (some (qi w.1)) w.2) → qW X (d + 8) yX5_readText cX5_readText 4 (some .int) 39 [(0, qr 4), (2, qi x2), (3, qi x3)] [] S Q := by
  intro n
  induction n with
  | zero =>
    intro x2 x3 S o h
    simp [Reader_readText_L39] at h
  | succ n ih =>
    intro x2 x3 S o h hE hR
    rw [Reader_readText_L39] at h
    refine q_iload_n dX5_readText_39 rfl rfl ?_
    refine q_aload_n dX5_readText_40 rfl rfl ?_
    refine q_getI dX5_readText_41 fl_X5_33 (hL 4 (by decide)) sh_4 (by decide) rfl rfl ?_
    obtain ⟨c33, h⟩ := qk_some h
    obtain ⟨c34, h⟩ := qk_some h
    refine q_icmp_gt (tgt := 83) dX5_readText_44 (by decide) rfl (qRb_R c33) (qRb_R c34) (fun g => ?_) (fun g => ?_)
    · rw [if_pos (show (S 4 3) < x3 from g)] at h
      cases h
      exact q_pick [1] rfl (hE _ rfl)
    · rw [if_neg (show ¬ ((S 4 3) < x3) from g)] at h
      refine q_aload_n dX5_readText_47 rfl rfl ?_
      obtain ⟨q43, h44, h⟩ := Option.bind_eq_some_iff.mp h
      refine q_callVv (as := []) (c := 4) dX5_readText_48 ml_X5_47 rfl rfl (hL 4 (by decide)) sh_4 rfl rfl (Nat.le_of_ble_eq_true rfl) (Reader_skipBlanks_ok hL (d + 7) _ _ h44) rfl ?_
      refine q_aload_n dX5_readText_51 rfl rfl ?_
      refine q_getI dX5_readText_52 fl_X5_36 (hL 4 (by decide)) sh_4 (by decide) rfl rfl ?_
      refine q_aload_n dX5_readText_55 rfl rfl ?_
      refine q_getI dX5_readText_56 fl_X5_33 (hL 4 (by decide)) sh_4 (by decide) rfl rfl ?_
      obtain ⟨c45, h⟩ := qk_some h
      obtain ⟨c46, h⟩ := qk_some h
      refine q_icmp_lt (tgt := 65) dX5_readText_59 (by decide) rfl (qRb_R c45) (qRb_R c46) (fun g => ?_) (fun g => ?_)
      · rw [if_pos (show (q43 4 4) < (q43 4 3) from g)] at h
        refine q_aload_n dX5_readText_65 rfl rfl ?_
        obtain ⟨q306, h307, h⟩ := Option.bind_eq_some_iff.mp h
        refine q_callVi (as := []) (c := 4) dX5_readText_66 ml_X5_50 rfl rfl (hL 4 (by decide)) sh_4 rfl rfl (Nat.le_of_ble_eq_true rfl) (Reader_readLine_ok hL d _ _ h307) rfl ?_
        obtain ⟨c308, h⟩ := qk_some h
        refine q_if_ne (tgt := 74) dX5_readText_69 (by decide) rfl (qRb_R c308)  (fun g => ?_) (fun g => ?_)
        · rw [if_neg (show ¬ (q306.1 = 0) from g)] at h
          refine q_iinc (lv' := [(2, qi (x2 + 1)), (0, qr 4), (3, qi x3)]) dX5_readText_74 (by decide) rfl rfl rfl ?_
          refine q_iinc (lv' := [(3, qi (x3 + 1)), (2, qi (x2 + 1)), (0, qr 4)]) dX5_readText_77 (by decide) rfl rfl rfl ?_
          refine q_goto (pc' := 39) dX5_readText_80 (by decide) ?_
          exact q_pick [2, 1, 0] rfl (ih (x2 + 1) (x3 + 1) _ _ h hE hR)
        · rw [if_pos (show q306.1 = 0 from g)] at h
          refine q_iconst dX5_readText_72 rfl rfl ?_
          cases h
          exact q_ireturn dX5_readText_73 rfl (hR _ rfl)
      · rw [if_neg (show ¬ ((q43 4 4) < (q43 4 3)) from g)] at h
        refine q_goto (pc' := 83) dX5_readText_62 (by decide) ?_
        cases h
        exact q_pick [1] rfl (hE _ rfl)
set_option maxRecDepth 20000 in
theorem Reader_readText_ok {X : qX} (hL : ∀ c, c < 93 → c ∈ qLs X) (d : Nat) (a1 : Int) (S : qSto) (o : (Int × qSto)) (h : Reader_readText a1 S = some o) (Q : Option qV → qSto → Prop) (hQ : Q (some (qi o.1)) o.2) : qC X (d + 8) yX5_readText cX5_readText 4 (some .int) [qr 4, qi a1] S Q := by
  refine q_entry (lv := [(0, qr 4), (1, qi a1)]) pn_X5 (Nat.le_of_ble_eq_true rfl) rfl ?_
  unfold Reader_readText at h
  refine q_aload_n dX5_readText_0 rfl rfl ?_
  refine q_iload_n dX5_readText_1 rfl rfl ?_
  refine q_aload_n dX5_readText_2 rfl rfl ?_
  refine q_getA dX5_readText_3 fl_X5_19 (hL 4 (by decide)) sh_4 (by decide) rfl rfl ?_
  refine q_alen (k0 := 0) dX5_readText_6 (hL 1 (by decide)) sh_1 (by decide) rfl ?_
  obtain ⟨q23, h24, h⟩ := Option.bind_eq_some_iff.mp h
  refine q_callSi (as := [qi a1, qi 1200]) dX5_readText_7 ml_X5_27 rfl rfl (Nat.le_of_ble_eq_true rfl) (Jm_min_ok hL (d + 7) a1 1200 _ _ h24) rfl ?_
  refine q_putI dX5_readText_10 fl_X5_33 (hL 4 (by decide)) sh_4 (by decide) pf_5_3 pt_5_3 rfl rfl ?_
  refine q_aload_n dX5_readText_13 rfl rfl ?_
  refine q_iconst dX5_readText_14 rfl rfl ?_
  refine q_putI dX5_readText_15 fl_X5_36 (hL 4 (by decide)) sh_4 (by decide) pf_5_4 pt_5_4 rfl rfl ?_
  refine q_aload_n dX5_readText_18 rfl rfl ?_
  refine q_iconst dX5_readText_19 rfl rfl ?_
  refine q_putI dX5_readText_20 fl_X5_39 (hL 4 (by decide)) sh_4 (by decide) pf_5_5 pt_5_5 rfl rfl ?_
  refine q_aload_n dX5_readText_23 rfl rfl ?_
  refine q_iconst dX5_readText_24 rfl rfl ?_
  refine q_putI dX5_readText_25 fl_X5_15 (hL 4 (by decide)) sh_4 (by decide) pf_5_6 pt_5_6 rfl rfl ?_
  refine q_aload_n dX5_readText_28 rfl rfl ?_
  refine q_getA dX5_readText_29 fl_X5_23 (hL 4 (by decide)) sh_4 (by decide) rfl rfl ?_
  obtain ⟨q31, h32, h⟩ := Option.bind_eq_some_iff.mp h
  refine q_callVv (as := []) (c := 3) dX5_readText_32 ml_X5_42 rfl rfl (hL 3 (by decide)) sh_3 rfl rfl (Nat.le_of_ble_eq_true rfl) (Heard_forget_ok hL (d + 6) _ _ h32) rfl ?_
  refine q_iconst dX5_readText_35 rfl rfl ?_
  refine q_istore_n (lv' := [(2, qi 0), (0, qr 4), (1, qi a1)]) dX5_readText_36 (by decide) rfl rfl ?_
  refine q_iconst dX5_readText_37 rfl rfl ?_
  refine q_istore_n (lv' := [(3, qi 0), (2, qi 0), (0, qr 4), (1, qi a1)]) dX5_readText_38 (by decide) rfl rfl ?_
  obtain ⟨q309, h310, h⟩ := Option.bind_eq_some_iff.mp h
  refine q_pick [2, 1, 0] rfl (Reader_readText_L39_ok hL d qF 0 0 _ _ h310 (fun t311 e4060 => ?_) (fun w e4060 => ?_))
  · subst e4060
    simp only [Sum.elim_inl] at h
    refine q_iload_n dX5_readText_83 rfl rfl ?_
    cases h
    exact q_ireturn dX5_readText_84 rfl hQ
  · subst e4060
    simp only [Sum.elim_inr] at h
    cases h
    exact hQ
