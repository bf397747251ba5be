set_option maxRecDepth 20000 in
theorem C_takeBytes_L3_ok {X : qX} (hL : ∀ c, c < 93 → c ∈ qLs X) (d : Nat) {Q : Option qV → qSto → Prop} : ∀ (n : Nat) (x1 : Int) (x2 : Int) (S : qSto) (o : qSto), C_takeBytes_L3 n x1 x2 S = some o → (qW X d yX11_takeBytes cX11_takeBytes 3 none 46 [] [] o Q) → qW X d yX11_takeBytes cX11_takeBytes 3 none 3 [(0, qr 0), (1, qi x1), (2, qi x2)] [] S Q := by
  intro n
  induction n with
  | zero =>
    intro x1 x2 S o h
    simp [C_takeBytes_L3] at h
  | succ n ih =>
    intro x1 x2 S o h hE
    rw [C_takeBytes_L3] at h
    refine q_iload_n dX11_takeBytes_3 rfl rfl ?_
    obtain ⟨c2, h⟩ := qk_some h
    refine q_if_lt (tgt := 46) dX11_takeBytes_4 (by decide) rfl (qRb_R c2)  (fun g => ?_) (fun g => ?_)
    · rw [if_pos (show x2 < 0 from g)] at h
      cases h
      exact q_pick [] rfl (hE)
    · rw [if_neg (show ¬ (x2 < 0) from g)] at h
      refine q_aload_n dX11_takeBytes_7 rfl rfl ?_
      refine q_getI dX11_takeBytes_8 fl_X11_114 (hL 0 (by decide)) sh_0 (by decide) rfl rfl ?_
      refine q_sipush dX11_takeBytes_11 (by decide) rfl ?_
      obtain ⟨c3, h⟩ := qk_some h
      refine q_icmp_ge (tgt := 46) dX11_takeBytes_14 (by decide) rfl (qRb_R c3) ⟨by decide, by decide⟩ (fun g => ?_) (fun g => ?_)
      · rw [if_pos (show 1200 ≤ (S 0 1) from g)] at h
        cases h
        exact q_pick [] rfl (hE)
      · rw [if_neg (show ¬ (1200 ≤ (S 0 1)) from g)] at h
        refine q_aload_n dX11_takeBytes_17 rfl rfl ?_
        refine q_getA dX11_takeBytes_18 fl_X11_9 (hL 0 (by decide)) sh_0 (by decide) rfl rfl ?_
        refine q_aload_n dX11_takeBytes_21 rfl rfl ?_
        refine q_getI dX11_takeBytes_22 fl_X11_114 (hL 0 (by decide)) sh_0 (by decide) rfl rfl ?_
        refine q_iload_n dX11_takeBytes_25 rfl rfl ?_
        refine q_iload_n dX11_takeBytes_26 rfl rfl ?_
        refine q_ishr dX11_takeBytes_27 rfl ?_
        refine q_i2b dX11_takeBytes_28 rfl ?_
        obtain ⟨c4, h⟩ := qk_some h
        obtain ⟨c5, h⟩ := qk_some h
        refine q_bastore dX11_takeBytes_29 (hL 1 (by decide)) sh_1 (qIx_0 c4) (qIx_1 c4) (qBb_B c5) rfl ?_
        refine q_aload_n dX11_takeBytes_30 rfl rfl ?_
        refine q_dupA dX11_takeBytes_31 rfl ?_
        refine q_getI dX11_takeBytes_32 fl_X11_114 (hL 0 (by decide)) sh_0 (by decide) rfl rfl ?_
        refine q_iconst dX11_takeBytes_35 rfl rfl ?_
        refine q_iadd dX11_takeBytes_36 rfl ?_
        refine q_putI dX11_takeBytes_37 fl_X11_114 (hL 0 (by decide)) sh_0 (by decide) pf_11_1 pt_11_1 rfl rfl ?_
        refine q_iinc (lv' := [(2, qi (x2 + (-8))), (0, qr 0), (1, qi x1)]) dX11_takeBytes_40 (by decide) rfl rfl rfl ?_
        refine q_goto (pc' := 3) dX11_takeBytes_43 (by decide) ?_
        exact q_pick [1, 2, 0] rfl (ih x1 (x2 + (-8)) _ _ h hE)
set_option maxRecDepth 20000 in
theorem C_takeBytes_ok {X : qX} (hL : ∀ c, c < 93 → c ∈ qLs X) (d : Nat) (a1 : Int) (S : qSto) (o : qSto) (h : C_takeBytes a1 S = some o) (Q : Option qV → qSto → Prop) (hQ : Q none o) : qC X d yX11_takeBytes cX11_takeBytes 3 none [qr 0, qi a1] S Q := by
  refine q_entry (lv := [(0, qr 0), (1, qi a1)]) pn_X11 (Nat.le_of_ble_eq_true rfl) rfl ?_
  unfold C_takeBytes at h
  refine q_bipush dX11_takeBytes_0 (by decide) rfl ?_
  refine q_istore_n (lv' := [(2, qi 24), (0, qr 0), (1, qi a1)]) dX11_takeBytes_2 (by decide) rfl rfl ?_
  obtain ⟨q6, h7, h⟩ := Option.bind_eq_some_iff.mp h
  refine q_pick [1, 2, 0] rfl (C_takeBytes_L3_ok hL d qF a1 24 _ _ h7 ?_)
  cases h
  exact q_return dX11_takeBytes_46 rfl hQ
set_option maxRecDepth 20000 in
theorem C_feed_ok {X : qX} (hL : ∀ c, c < 93 → c ∈ qLs X) (d : Nat) (a1 : Int) (a2 : Int) (a3 : Int) (a4 : Int) (a5 : Int) (S : qSto) (o : (Int × qSto)) (h : C_feed a1 a2 a3 a4 a5 S = some o) (Q : Option qV → qSto → Prop) (hQ : Q (some (qi o.1)) o.2) : qC X (d + 1) yX11_feed cX11_feed 6 (some .int) [qr 0, qi a1, qi a2, qi a3, qi a4, qi a5] S Q := by
  refine q_entry (lv := [(0, qr 0), (1, qi a1), (2, qi a2), (3, qi a3), (4, qi a4), (5, qi a5)]) pn_X11 (Nat.le_of_ble_eq_true rfl) rfl ?_
  unfold C_feed at h
  refine q_aload_n dX11_feed_0 rfl rfl ?_
  refine q_getI dX11_feed_1 fl_X11_114 (hL 0 (by decide)) sh_0 (by decide) rfl rfl ?_
  refine q_bipush dX11_feed_4 (by decide) rfl ?_
  refine q_iadd dX11_feed_6 rfl ?_
  refine q_sipush dX11_feed_7 (by decide) rfl ?_
  obtain ⟨c1, h⟩ := qk_some h
  refine q_icmp_le (tgt := 15) dX11_feed_10 (by decide) rfl (qRb_R c1) ⟨by decide, by decide⟩ (fun g => ?_) (fun g => ?_)
  · rw [if_pos (show ((S 0 1) + 20) ≤ 1200 from g)] at h
    refine q_aload_n dX11_feed_15 rfl rfl ?_
    refine q_iload_n dX11_feed_16 rfl rfl ?_
    obtain ⟨q8, h9, h⟩ := Option.bind_eq_some_iff.mp h
    refine q_callVv (as := [qi a1]) (c := 0) dX11_feed_17 ml_X11_118 rfl rfl (hL 0 (by decide)) sh_0 rfl rfl (Nat.le_of_ble_eq_true rfl) (C_takeBytes_ok hL d a1 _ _ h9) rfl ?_
    refine q_aload_n dX11_feed_20 rfl rfl ?_
    refine q_iload_n dX11_feed_21 rfl rfl ?_
    obtain ⟨q10, h11, h⟩ := Option.bind_eq_some_iff.mp h
    refine q_callVv (as := [qi a2]) (c := 0) dX11_feed_22 ml_X11_118 rfl rfl (hL 0 (by decide)) sh_0 rfl rfl (Nat.le_of_ble_eq_true rfl) (C_takeBytes_ok hL d a2 _ _ h11) rfl ?_
    refine q_aload_n dX11_feed_25 rfl rfl ?_
    refine q_iload_n dX11_feed_26 rfl rfl ?_
    obtain ⟨q12, h13, h⟩ := Option.bind_eq_some_iff.mp h
    refine q_callVv (as := [qi a3]) (c := 0) dX11_feed_27 ml_X11_118 rfl rfl (hL 0 (by decide)) sh_0 rfl rfl (Nat.le_of_ble_eq_true rfl) (C_takeBytes_ok hL d a3 _ _ h13) rfl ?_
    refine q_aload_n dX11_feed_30 rfl rfl ?_
    refine q_iload dX11_feed_31 rfl rfl ?_
    obtain ⟨q14, h15, h⟩ := Option.bind_eq_some_iff.mp h
    refine q_callVv (as := [qi a4]) (c := 0) dX11_feed_33 ml_X11_118 rfl rfl (hL 0 (by decide)) sh_0 rfl rfl (Nat.le_of_ble_eq_true rfl) (C_takeBytes_ok hL d a4 _ _ h15) rfl ?_
    refine q_aload_n dX11_feed_36 rfl rfl ?_
    refine q_iload dX11_feed_37 rfl rfl ?_
    obtain ⟨q16, h17, h⟩ := Option.bind_eq_some_iff.mp h
    refine q_callVv (as := [qi a5]) (c := 0) dX11_feed_39 ml_X11_118 rfl rfl (hL 0 (by decide)) sh_0 rfl rfl (Nat.le_of_ble_eq_true rfl) (C_takeBytes_ok hL d a5 _ _ h17) rfl ?_
    refine q_aload_n dX11_feed_42 rfl rfl ?_
    refine q_getI dX11_feed_43 fl_X11_114 (hL 0 (by decide)) sh_0 (by decide) rfl rfl ?_
    cases h
    exact q_ireturn dX11_feed_46 rfl hQ
  · rw [if_neg (show ¬ (((S 0 1) + 20) ≤ 1200) from g)] at h
    refine q_iconst dX11_feed_13 rfl rfl ?_
    cases h
    exact q_ireturn dX11_feed_14 rfl hQ
set_option maxRecDepth 20000 in
theorem Jm_min_ok {X : qX} (hL : ∀ c, c < 93 → c ∈ qLs X) (d : Nat) (a0 : Int) (a1 : Int) (S : qSto) (o : (Int × qSto)) (h : Jm_min a0 a1 S = some o) (Q : Option qV → qSto → Prop) (hQ : Q (some (qi o.1)) o.2) : qC X d yJ9_min_7cf53 cJ9_min_7cf53 2 (some .int) [qi a0, qi a1] S Q := by
  refine q_entryF (lv := [(0, qi a0), (1, qi a1)]) pn_J9_min_7cf53 (Nat.le_of_ble_eq_true rfl) rfl ?_
  unfold Jm_min at h
  refine q_iload_n dJ9_min_7cf53_0 rfl rfl ?_
  refine q_iload_n dJ9_min_7cf53_1 rfl rfl ?_
  obtain ⟨c21, h⟩ := qk_some h
  obtain ⟨c22, h⟩ := qk_some h
  refine q_icmp_gt (tgt := 9) dJ9_min_7cf53_2 (by decide) rfl (qRb_R c21) (qRb_R c22) (fun g => ?_) (fun g => ?_)
  · rw [if_pos (show a1 < a0 from g)] at h
    refine q_iload_n dJ9_min_7cf53_9 rfl rfl ?_
    cases h
    exact q_ireturn dJ9_min_7cf53_10 rfl hQ
  · rw [if_neg (show ¬ (a1 < a0) from g)] at h
    refine q_iload_n dJ9_min_7cf53_5 rfl rfl ?_
    refine q_goto (pc' := 10) dJ9_min_7cf53_6 (by decide) ?_
    cases h
    exact q_ireturn dJ9_min_7cf53_10 rfl hQ
set_option maxRecDepth 20000 in
theorem Ja_fill_32_L5_ok {X : qX} (hL : ∀ c, c < 93 → c ∈ qLs X) (d : Nat) {Q : Option qV → qSto → Prop} : ∀ (n : Nat) (x1 : Int) (x2 : Int) (S : qSto) (o : qSto), Ja_fill_32_L5 n x1 x2 S = some o → (qW X d yJ7_fill_53178 cJ7_fill_53178 4 none 20 [] [] o Q) → qW X d yJ7_fill_53178 cJ7_fill_53178 4 none 5 [(0, qr 32), (1, qi x1), (2, qi x2), (3, qi 21)] [] S Q := by
  intro n
  induction n with
  | zero =>
    intro x1 x2 S o h
    simp [Ja_fill_32_L5] at h
  | succ n ih =>
    intro x1 x2 S o h hE
    rw [Ja_fill_32_L5] at h
    refine q_iload_n dJ7_fill_53178_5 rfl rfl ?_
    refine q_iload_n dJ7_fill_53178_6 rfl rfl ?_
    obtain ⟨c25, h⟩ := qk_some h
    refine q_icmp_ge (tgt := 20) dJ7_fill_53178_7 (by decide) rfl (qRb_R c25) ⟨by decide, by decide⟩ (fun g => ?_) (fun g => ?_)
    · rw [if_pos (show 21 ≤ x2 from g)] at h
      cases h
      exact q_pick [] rfl (hE)
    · rw [if_neg (show ¬ (21 ≤ x2) from g)] at h
      refine q_aload_n dJ7_fill_53178_10 rfl rfl ?_
      refine q_iload_n dJ7_fill_53178_11 rfl rfl ?_
      refine q_iload_n dJ7_fill_53178_12 rfl rfl ?_
      obtain ⟨c26, h⟩ := qk_some h
      refine q_iastore dJ7_fill_53178_13 (hL 32 (by decide)) sh_32 (qIx_0 c26) (qIx_1 c26) rfl ?_
      refine q_iinc (lv' := [(2, qi (x2 + 1)), (0, qr 32), (1, qi x1), (3, qi 21)]) dJ7_fill_53178_14 (by decide) rfl rfl rfl ?_
      refine q_goto (pc' := 5) dJ7_fill_53178_17 (by decide) ?_
      exact q_pick [1, 2, 0, 3] rfl (ih x1 (x2 + 1) _ _ h hE)
set_option maxRecDepth 20000 in
theorem Ja_fill_32_ok {X : qX} (hL : ∀ c, c < 93 → c ∈ qLs X) (d : Nat) (a1 : Int) (S : qSto) (o : qSto) (h : Ja_fill_32 a1 S = some o) (Q : Option qV → qSto → Prop) (hQ : Q none o) : qC X d yJ7_fill_53178 cJ7_fill_53178 4 none [qr 32, qi a1] S Q := by
  refine q_entry (lv := [(0, qr 32), (1, qi a1)]) pn_J7 (Nat.le_of_ble_eq_true rfl) rfl ?_
  unfold Ja_fill_32 at h
  refine q_iconst dJ7_fill_53178_0 rfl rfl ?_
  refine q_istore_n (lv' := [(2, qi 0), (0, qr 32), (1, qi a1)]) dJ7_fill_53178_1 (by decide) rfl rfl ?_
  refine q_aload_n dJ7_fill_53178_2 rfl rfl ?_
  refine q_alen (k0 := 0) dJ7_fill_53178_3 (hL 32 (by decide)) sh_32 (by decide) rfl ?_
  refine q_istore_n (lv' := [(3, qi 21), (2, qi 0), (0, qr 32), (1, qi a1)]) dJ7_fill_53178_4 (by decide) rfl rfl ?_
  obtain ⟨q27, h28, h⟩ := Option.bind_eq_some_iff.mp h
  refine q_pick [2, 3, 1, 0] rfl (Ja_fill_32_L5_ok hL d qF a1 0 _ _ h28 ?_)
  cases h
  exact q_return dJ7_fill_53178_20 rfl hQ
set_option maxRecDepth 20000 in
theorem Heard_forget_ok {X : qX} (hL : ∀ c, c < 93 → c ∈ qLs X) (d : Nat) (S : qSto) (o : qSto) (h : Heard_forget S = some o) (Q : Option qV → qSto → Prop) (hQ : Q none o) : qC X (d + 1) yX8_forget cX8_forget 1 none [qr 3] S Q := by
  refine q_entry (lv := [(0, qr 3)]) pn_X8 (Nat.le_of_ble_eq_true rfl) rfl ?_
  unfold Heard_forget at h
  refine q_gets (i := 4) dX8_forget_0 (by decide) (by decide) rfl ?_
  refine q_iconst dX8_forget_3 rfl rfl ?_
  refine q_aload_n dX8_forget_4 rfl rfl ?_
  refine q_getA dX8_forget_5 fl_X8_9 (hL 3 (by decide)) sh_3 (by decide) rfl rfl ?_
  refine q_iconst dX8_forget_8 rfl rfl ?_
  refine q_bipush dX8_forget_9 (by decide) rfl ?_
  refine q_copyT (t := 4) dX8_forget_11 cw_X8_45 (by decide) (hL 25 (by decide)) sh_25 (by decide) (by decide) (by decide) (by decide) (by decide) (Nat.le_of_ble_eq_true rfl) rfl ?_
  refine q_aload_n dX8_forget_14 rfl rfl ?_
  refine q_iconst dX8_forget_15 rfl rfl ?_
  refine q_putI dX8_forget_16 fl_X8_51 (hL 3 (by decide)) sh_3 (by decide) pf_8_1 pt_8_1 rfl rfl ?_
  refine q_aload_n dX8_forget_19 rfl rfl ?_
  refine q_iconst dX8_forget_20 rfl rfl ?_
  refine q_putI dX8_forget_21 fl_X8_55 (hL 3 (by decide)) sh_3 (by decide) pf_8_2 pt_8_2 rfl rfl ?_
  refine q_aload_n dX8_forget_24 rfl rfl ?_
  refine q_iconst dX8_forget_25 rfl rfl ?_
  refine q_putI dX8_forget_26 fl_X8_58 (hL 3 (by decide)) sh_3 (by decide) pf_8_5 pt_8_5 rfl rfl ?_
  refine q_aload_n dX8_forget_29 rfl rfl ?_
  refine q_iconst dX8_forget_30 rfl rfl ?_
  refine q_putI dX8_forget_31 fl_X8_61 (hL 3 (by decide)) sh_3 (by decide) pf_8_8 pt_8_8 rfl rfl ?_
  refine q_aload_n dX8_forget_34 rfl rfl ?_
  refine q_getA dX8_forget_35 fl_X8_33 (hL 3 (by decide)) sh_3 (by decide) rfl rfl ?_
  refine q_iconst dX8_forget_38 rfl rfl ?_
  obtain ⟨q29, h30, h⟩ := Option.bind_eq_some_iff.mp h
  refine q_callSv (as := [qr 32, qi (-1)]) dX8_forget_39 ml_X8_64 rfl rfl (Nat.le_of_ble_eq_true rfl) (Ja_fill_32_ok hL d (-1) _ _ h30) rfl ?_
  refine q_aload_n dX8_forget_42 rfl rfl ?_
  refine q_iconst dX8_forget_43 rfl rfl ?_
  refine q_putI dX8_forget_44 fl_X8_70 (hL 3 (by decide)) sh_3 (by decide) pf_8_12 pt_8_12 rfl rfl ?_
  cases h
  exact q_return dX8_forget_47 rfl hQ
set_option maxRecDepth 20000 in
theorem Reader_skipBlanks_L0_ok {X : qX} (hL : ∀ c, c < 93 → c ∈ qLs X) (d : Nat) {Q : Option qV → qSto → Prop} : ∀ (n : Nat) (S : qSto) (o : qSto), Reader_skipBlanks_L0 n S = some o → (qW X d yX5_skipBlanks cX5_skipBlanks 1 none 52 [] [] o Q) → qW X d yX5_skipBlanks cX5_skipBlanks 1 none 0 [(0, qr 4)] [] S Q := by
  intro n
  induction n with
  | zero =>
    intro S o h
    simp [Reader_skipBlanks_L0] at h
  | succ n ih =>
    intro S o h hE
    rw [Reader_skipBlanks_L0] at h
    refine q_aload_n dX5_skipBlanks_0 rfl rfl ?_
    refine q_getI dX5_skipBlanks_1 fl_X5_36 (hL 4 (by decide)) sh_4 (by decide) rfl rfl ?_
    refine q_aload_n dX5_skipBlanks_4 rfl rfl ?_
    refine q_getI dX5_skipBlanks_5 fl_X5_33 (hL 4 (by decide)) sh_4 (by decide) rfl rfl ?_
    obtain ⟨c35, h⟩ := qk_some h
    obtain ⟨c36, h⟩ := qk_some h
    refine q_icmp_ge (tgt := 52) dX5_skipBlanks_8 (by decide) rfl (qRb_R c35) (qRb_R c36) (fun g => ?_) (fun g => ?_)
    · rw [if_pos (show (S 4 3) ≤ (S 4 4) from g)] at h
      cases h
      exact q_pick [] rfl (hE)
    · rw [if_neg (show ¬ ((S 4 3) ≤ (S 4 4)) from g)] at h
      refine q_aload_n dX5_skipBlanks_11 rfl rfl ?_
      refine q_getA dX5_skipBlanks_12 fl_X5_19 (hL 4 (by decide)) sh_4 (by decide) rfl rfl ?_
      refine q_aload_n dX5_skipBlanks_15 rfl rfl ?_
      refine q_getI dX5_skipBlanks_16 fl_X5_36 (hL 4 (by decide)) sh_4 (by decide) rfl rfl ?_
      obtain ⟨c37, h⟩ := qk_some h
      refine q_baload dX5_skipBlanks_19 (hL 1 (by decide)) sh_1 (qIx_0 c37) (qIx_1 c37) rfl ?_
      refine q_bipush dX5_skipBlanks_20 (by decide) rfl ?_
      obtain ⟨c38, h⟩ := qk_some h
      refine q_icmp_eq (tgt := 39) dX5_skipBlanks_22 (by decide) rfl (qRb_R c38) ⟨by decide, by decide⟩ (fun g => ?_) (fun g => ?_)
      · rw [if_pos (show (S 1 (Int.toNat (S 4 4))) = 32 from g)] at h
        refine q_aload_n dX5_skipBlanks_39 rfl rfl ?_
        refine q_dupA dX5_skipBlanks_40 rfl ?_
        refine q_getI dX5_skipBlanks_41 fl_X5_36 (hL 4 (by decide)) sh_4 (by decide) rfl rfl ?_
        refine q_iconst dX5_skipBlanks_44 rfl rfl ?_
        refine q_iadd dX5_skipBlanks_45 rfl ?_
        refine q_putI dX5_skipBlanks_46 fl_X5_36 (hL 4 (by decide)) sh_4 (by decide) pf_5_4 pt_5_4 rfl rfl ?_
        refine q_goto (pc' := 0) dX5_skipBlanks_49 (by decide) ?_
        exact q_pick [0] rfl (ih _ _ h hE)
      · rw [if_neg (show ¬ ((S 1 (Int.toNat (S 4 4))) = 32) from g)] at h
        refine q_aload_n dX5_skipBlanks_25 rfl rfl ?_
        refine q_getA dX5_skipBlanks_26 fl_X5_19 (hL 4 (by decide)) sh_4 (by decide) rfl rfl ?_
        refine q_aload_n dX5_skipBlanks_29 rfl rfl ?_
        refine q_getI dX5_skipBlanks_30 fl_X5_36 (hL 4 (by decide)) sh_4 (by decide) rfl rfl ?_
        obtain ⟨c39, h⟩ := qk_some h
        refine q_baload dX5_skipBlanks_33 (hL 1 (by decide)) sh_1 (qIx_0 c39) (qIx_1 c39) rfl ?_
        refine q_bipush dX5_skipBlanks_34 (by decide) rfl ?_
        obtain ⟨c40, h⟩ := qk_some h
        refine q_icmp_ne (tgt := 52) dX5_skipBlanks_36 (by decide) rfl (qRb_R c40) ⟨by decide, by decide⟩ (fun g => ?_) (fun g => ?_)
        · rw [if_neg (show ¬ ((S 1 (Int.toNat (S 4 4))) = 10) from g)] at h
          cases h
          exact q_pick [] rfl (hE)
        · rw [if_pos (show (S 1 (Int.toNat (S 4 4))) = 10 from g)] at h
          refine q_aload_n dX5_skipBlanks_39 rfl rfl ?_
          refine q_dupA dX5_skipBlanks_40 rfl ?_
          refine q_getI dX5_skipBlanks_41 fl_X5_36 (hL 4 (by decide)) sh_4 (by decide) rfl rfl ?_
          refine q_iconst dX5_skipBlanks_44 rfl rfl ?_
          refine q_iadd dX5_skipBlanks_45 rfl ?_
          refine q_putI dX5_skipBlanks_46 fl_X5_36 (hL 4 (by decide)) sh_4 (by decide) pf_5_4 pt_5_4 rfl rfl ?_
          refine q_goto (pc' := 0) dX5_skipBlanks_49 (by decide) ?_
          exact q_pick [0] rfl (ih _ _ h hE)
set_option maxRecDepth 20000 in
theorem Reader_skipBlanks_ok {X : qX} (hL : ∀ c, c < 93 → c ∈ qLs X) (d : Nat) (S : qSto) (o : qSto) (h : Reader_skipBlanks S = some o) (Q : Option qV → qSto → Prop) (hQ : Q none o) : qC X d yX5_skipBlanks cX5_skipBlanks 1 none [qr 4] S Q := by
  refine q_entry (lv := [(0, qr 4)]) pn_X5 (Nat.le_of_ble_eq_true rfl) rfl ?_
  unfold Reader_skipBlanks at h
  obtain ⟨q41, h42, h⟩ := Option.bind_eq_some_iff.mp h
  refine q_pick [0] rfl (Reader_skipBlanks_L0_ok hL d qF _ _ h42 ?_)
  cases h
  exact q_return dX5_skipBlanks_52 rfl hQ
set_option maxRecDepth 20000 in
theorem Reader_passRow_L5_ok {X : qX} (hL : ∀ c, c < 93 → c ∈ qLs X) (d : Nat) {Q : Option qV → qSto → Prop} : ∀ (n : Nat) (x1 : Int) (x2 : Int) (x3 : Int) (S : qSto) (o : qSto), Reader_passRow_L5 n x1 x2 S = some o → (qW X d yX5_passRow cX5_passRow 4 (some .int) 55 [(0, qr 4), (3, qi x3)] [] o Q) → qW X d yX5_passRow cX5_passRow 4 (some .int) 5 [(0, qr 4), (1, qi x1), (2, qi x2), (3, qi x3)] [] S Q := by
  intro n
  induction n with
  | zero =>
    intro x1 x2 x3 S o h
    simp [Reader_passRow_L5] at h
  | succ n ih =>
    intro x1 x2 x3 S o h hE
    rw [Reader_passRow_L5] at h
    refine q_aload_n dX5_passRow_5 rfl rfl ?_
    refine q_getI dX5_passRow_6 fl_X5_36 (hL 4 (by decide)) sh_4 (by decide) rfl rfl ?_
    refine q_aload_n dX5_passRow_9 rfl rfl ?_
    refine q_getI dX5_passRow_10 fl_X5_33 (hL 4 (by decide)) sh_4 (by decide) rfl rfl ?_
    obtain ⟨c47, h⟩ := qk_some h
    obtain ⟨c48, h⟩ := qk_some h
    refine q_icmp_ge (tgt := 55) dX5_passRow_13 (by decide) rfl (qRb_R c47) (qRb_R c48) (fun g => ?_) (fun g => ?_)
    · rw [if_pos (show (S 4 3) ≤ (S 4 4) from g)] at h
      cases h
      exact q_pick [0, 3] rfl (hE)
    · rw [if_neg (show ¬ ((S 4 3) ≤ (S 4 4)) from g)] at h
      refine q_aload_n dX5_passRow_16 rfl rfl ?_
      refine q_getA dX5_passRow_17 fl_X5_19 (hL 4 (by decide)) sh_4 (by decide) rfl rfl ?_
      refine q_aload_n dX5_passRow_20 rfl rfl ?_
      refine q_getI dX5_passRow_21 fl_X5_36 (hL 4 (by decide)) sh_4 (by decide) rfl rfl ?_
      obtain ⟨c49, h⟩ := qk_some h
      refine q_baload dX5_passRow_24 (hL 1 (by decide)) sh_1 (qIx_0 c49) (qIx_1 c49) rfl ?_
      refine q_iload_n dX5_passRow_25 rfl rfl ?_
      obtain ⟨c50, h⟩ := qk_some h
      obtain ⟨c51, h⟩ := qk_some h
      refine q_icmp_lt (tgt := 55) dX5_passRow_26 (by decide) rfl (qRb_R c50) (qRb_R c51) (fun g => ?_) (fun g => ?_)
      · rw [if_pos (show (S 1 (Int.toNat (S 4 4))) < x1 from g)] at h
        cases h
        exact q_pick [0, 3] rfl (hE)
      · rw [if_neg (show ¬ ((S 1 (Int.toNat (S 4 4))) < x1) from g)] at h
        refine q_aload_n dX5_passRow_29 rfl rfl ?_
        refine q_getA dX5_passRow_30 fl_X5_19 (hL 4 (by decide)) sh_4 (by decide) rfl rfl ?_
        refine q_aload_n dX5_passRow_33 rfl rfl ?_
        refine q_getI dX5_passRow_34 fl_X5_36 (hL 4 (by decide)) sh_4 (by decide) rfl rfl ?_
        obtain ⟨c52, h⟩ := qk_some h
        refine q_baload dX5_passRow_37 (hL 1 (by decide)) sh_1 (qIx_0 c52) (qIx_1 c52) rfl ?_
        refine q_iload_n dX5_passRow_38 rfl rfl ?_
        obtain ⟨c53, h⟩ := qk_some h
        obtain ⟨c54, h⟩ := qk_some h
        refine q_icmp_gt (tgt := 55) dX5_passRow_39 (by decide) rfl (qRb_R c53) (qRb_R c54) (fun g => ?_) (fun g => ?_)
        · rw [if_pos (show x2 < (S 1 (Int.toNat (S 4 4))) from g)] at h
          cases h
          exact q_pick [0, 3] rfl (hE)
        · rw [if_neg (show ¬ (x2 < (S 1 (Int.toNat (S 4 4)))) from g)] at h
          refine q_aload_n dX5_passRow_42 rfl rfl ?_
          refine q_dupA dX5_passRow_43 rfl ?_
          refine q_getI dX5_passRow_44 fl_X5_36 (hL 4 (by decide)) sh_4 (by decide) rfl rfl ?_
          refine q_iconst dX5_passRow_47 rfl rfl ?_
          refine q_iadd dX5_passRow_48 rfl ?_
          refine q_putI dX5_passRow_49 fl_X5_36 (hL 4 (by decide)) sh_4 (by decide) pf_5_4 pt_5_4 rfl rfl ?_
          refine q_goto (pc' := 5) dX5_passRow_52 (by decide) ?_
          exact q_pick [0, 1, 2, 3] rfl (ih x1 x2 x3 _ _ h hE)
set_option maxRecDepth 20000 in
theorem Reader_passRow_ok {X : qX} (hL : ∀ c, c < 93 → c ∈ qLs X) (d : Nat) (a1 : Int) (a2 : Int) (S : qSto) (o : (Int × qSto)) (h : Reader_passRow a1 a2 S = some o) (Q : Option qV → qSto → Prop) (hQ : Q (some (qi o.1)) o.2) : qC X d yX5_passRow cX5_passRow 4 (some .int) [qr 4, qi a1, qi a2] S Q := by
  refine q_entry (lv := [(0, qr 4), (1, qi a1), (2, qi a2)]) pn_X5 (Nat.le_of_ble_eq_true rfl) rfl ?_
  unfold Reader_passRow at h
  refine q_aload_n dX5_passRow_0 rfl rfl ?_
  refine q_getI dX5_passRow_1 fl_X5_36 (hL 4 (by decide)) sh_4 (by decide) rfl rfl ?_
  refine q_istore_n (lv' := [(3, qi (S 4 4)), (0, qr 4), (1, qi a1), (2, qi a2)]) dX5_passRow_4 (by decide) rfl rfl ?_
  obtain ⟨q55, h56, h⟩ := Option.bind_eq_some_iff.mp h
  refine q_pick [1, 2, 3, 0] rfl (Reader_passRow_L5_ok hL d qF a1 a2 (S 4 4) _ _ h56 ?_)
  refine q_aload_n dX5_passRow_55 rfl rfl ?_
  refine q_getI dX5_passRow_56 fl_X5_36 (hL 4 (by decide)) sh_4 (by decide) rfl rfl ?_
  refine q_iload_n dX5_passRow_59 rfl rfl ?_
  refine q_isub dX5_passRow_60 rfl ?_
  cases h
  exact q_ireturn dX5_passRow_61 rfl hQ
set_option maxRecDepth 20000 in
theorem C_fault_ok {X : qX} (hL : ∀ c, c < 93 → c ∈ qLs X) (d : Nat) (a1 : Int) (S : qSto) (o : (Int × qSto)) (h : C_fault a1 S = some o) (Q : Option qV → qSto → Prop) (hQ : Q (some (qi o.1)) o.2) : qC X d yX11_fault cX11_fault 2 (some .int) [qr 0, qi a1] S Q := by
  refine q_entry (lv := [(0, qr 0), (1, qi a1)]) pn_X11 (Nat.le_of_ble_eq_true rfl) rfl ?_
  unfold C_fault at h
  refine q_iload_n dX11_fault_0 rfl rfl ?_
  obtain ⟨c61, h⟩ := qk_some h
  by_cases e3723 : a1 = 0
  · rw [if_pos e3723] at h
    refine q_lsw (tgt := 28) (off := 27) dX11_fault_1 (by decide) (qRb_R c61) (by rw [e3723]; rfl) (by decide) ?_
    refine q_aload_n dX11_fault_28 rfl rfl ?_
    refine q_getA dX11_fault_29 fl_X11_31 (hL 0 (by decide)) sh_0 (by decide) rfl rfl ?_
    refine q_getI dX11_fault_32 fl_X11_140 (hL 4 (by decide)) sh_4 (by decide) rfl rfl ?_
    cases h
    exact q_ireturn dX11_fault_35 rfl hQ
  · rw [if_neg e3723] at h
    by_cases e3724 : a1 = 1
    · rw [if_pos e3724] at h
      refine q_lsw (tgt := 36) (off := 35) dX11_fault_1 (by decide) (qRb_R c61) (by rw [e3724]; rfl) (by decide) ?_
      refine q_aload_n dX11_fault_36 rfl rfl ?_
      refine q_getA dX11_fault_37 fl_X11_31 (hL 0 (by decide)) sh_0 (by decide) rfl rfl ?_
      refine q_getI dX11_fault_40 fl_X11_143 (hL 4 (by decide)) sh_4 (by decide) rfl rfl ?_
      cases h
      exact q_ireturn dX11_fault_43 rfl hQ
    · rw [if_neg e3724] at h
      refine q_lsw (tgt := 44) (off := 43) dX11_fault_1 (by decide) (qRb_R c61) (by simp [Op.lookupswitch.offset, show ¬ (0 = a1) from fun z => e3723 z.symm, show ¬ (1 = a1) from fun z => e3724 z.symm]) (by decide) ?_
      refine q_iconst dX11_fault_44 rfl rfl ?_
      cases h
      exact q_ireturn dX11_fault_45 rfl hQ
set_option maxRecDepth 20000 in
theorem Stays_has_ok {X : qX} (hL : ∀ c, c < 93 → c ∈ qLs X) (d : Nat) (a1 : Int) (S : qSto) (o : (Int × qSto)) (h : Stays_has a1 S = some o) (Q : Option qV → qSto → Prop) (hQ : Q (some (qi o.1)) o.2) : qC X d yX7_has cX7_has 2 (some .boolean) [qr 6, qi a1] S Q := by
  refine q_entry (lv := [(0, qr 6), (1, qi a1)]) pn_X7 (Nat.le_of_ble_eq_true rfl) rfl ?_
  unfold Stays_has at h
  refine q_aload_n dX7_has_0 rfl rfl ?_
  refine q_getA dX7_has_1 fl_X7_21 (hL 6 (by decide)) sh_6 (by decide) rfl rfl ?_
  refine q_iload_n dX7_has_4 rfl rfl ?_
  obtain ⟨c66, h⟩ := qk_some h
  refine q_iaload dX7_has_5 (hL 40 (by decide)) sh_40 (qIx_0 c66) (qIx_1 c66) rfl ?_
  obtain ⟨c67, h⟩ := qk_some h
  refine q_if_le (tgt := 13) dX7_has_6 (by decide) rfl (qRb_R c67)  (fun g => ?_) (fun g => ?_)
  · rw [if_pos (show (S 40 (Int.toNat a1)) ≤ 0 from g)] at h
    refine q_iconst dX7_has_13 rfl rfl ?_
    cases h
    exact q_zreturn dX7_has_14 rfl (by decide) hQ
  · rw [if_neg (show ¬ ((S 40 (Int.toNat a1)) ≤ 0) from g)] at h
    refine q_iconst dX7_has_9 rfl rfl ?_
    refine q_goto (pc' := 14) dX7_has_10 (by decide) ?_
    cases h
    exact q_zreturn dX7_has_14 rfl (by decide) hQ
set_option maxRecDepth 20000 in
theorem Stays_howMany_L4_ok {X : qX} (hL : ∀ c, c < 93 → c ∈ qLs X) (d : Nat) {Q : Option qV → qSto → Prop} : ∀ (n : Nat) (x1 : Int) (x2 : Int) (S : qSto) (o : (Int × qSto)), Stays_howMany_L4 n x1 x2 S = some o → (qW X (d + 1) yX7_howMany cX7_howMany 3 (some .int) 37 [(1, qi o.1)] [] o.2 Q) → qW X (d + 1) yX7_howMany cX7_howMany 3 (some .int) 4 [(0, qr 6), (1, qi x1), (2, qi x2)] [] S Q := by
  intro n
  induction n with
  | zero =>
    intro x1 x2 S o h
    simp [Stays_howMany_L4] at h
  | succ n ih =>
    intro x1 x2 S o h hE
    rw [Stays_howMany_L4] at h
    refine q_iload_n dX7_howMany_4 rfl rfl ?_
    refine q_aload_n dX7_howMany_5 rfl rfl ?_
    refine q_getA dX7_howMany_6 fl_X7_36 (hL 6 (by decide)) sh_6 (by decide) rfl rfl ?_
    refine q_getI dX7_howMany_9 fl_X7_44 (hL 2 (by decide)) sh_2 (by decide) rfl rfl ?_
    obtain ⟨c64, h⟩ := qk_some h
    obtain ⟨c65, h⟩ := qk_some h
    refine q_icmp_ge (tgt := 37) dX7_howMany_12 (by decide) rfl (qRb_R c64) (qRb_R c65) (fun g => ?_) (fun g => ?_)
    · rw [if_pos (show (S 2 12) ≤ x2 from g)] at h
      cases h
      exact q_pick [1] rfl (hE)
    · rw [if_neg (show ¬ ((S 2 12) ≤ x2) from g)] at h
      refine q_iload_n dX7_howMany_15 rfl rfl ?_
      refine q_aload_n dX7_howMany_16 rfl rfl ?_
      refine q_iload_n dX7_howMany_17 rfl rfl ?_
      obtain ⟨q68, h69, h⟩ := Option.bind_eq_some_iff.mp h
      refine q_callVi (as := [qi x2]) (c := 6) dX7_howMany_18 ml_X7_50 rfl rfl (hL 6 (by decide)) sh_6 rfl rfl (Nat.le_of_ble_eq_true rfl) (Stays_has_ok hL d x2 _ _ h69) rfl ?_
      refine q_jn (G := fun (t71 : Int) => qW X (d + 1) yX7_howMany cX7_howMany 3 (some .int) 29 [(0, qr 6), (2, qi x2)] [qi t71, qi x1] q68.2 Q) h (fun t71 h => ?_) (fun t71 h hk3725 => ?_)
      · try dsimp only at h
        refine q_iadd dX7_howMany_29 rfl ?_
        refine q_istore_n (lv' := [(1, qi (x1 + t71)), (0, qr 6), (2, qi x2)]) dX7_howMany_30 (by decide) rfl rfl ?_
        refine q_iinc (lv' := [(2, qi (x2 + 1)), (1, qi (x1 + t71)), (0, qr 6)]) dX7_howMany_31 (by decide) rfl rfl rfl ?_
        refine q_goto (pc' := 4) dX7_howMany_34 (by decide) ?_
        exact q_pick [2, 1, 0] rfl (ih (x1 + t71) (x2 + 1) _ _ h hE)
      · skip
        obtain ⟨c70, h⟩ := qk_some h
        refine q_if_eq (tgt := 28) dX7_howMany_21 (by decide) rfl (qRb_R c70)  (fun g => ?_) (fun g => ?_)
        · rw [if_pos (show q68.1 = 0 from g)] at h
          refine q_iconst dX7_howMany_28 rfl rfl ?_
          cases h
          exact q_pick [0, 2] rfl hk3725
        · rw [if_neg (show ¬ (q68.1 = 0) from g)] at h
          refine q_iconst dX7_howMany_24 rfl rfl ?_
          refine q_goto (pc' := 29) dX7_howMany_25 (by decide) ?_
          cases h
          exact q_pick [0, 2] rfl hk3725
set_option maxRecDepth 20000 in
theorem Stays_howMany_ok {X : qX} (hL : ∀ c, c < 93 → c ∈ qLs X) (d : Nat) (S : qSto) (o : (Int × qSto)) (h : Stays_howMany S = some o) (Q : Option qV → qSto → Prop) (hQ : Q (some (qi o.1)) o.2) : qC X (d + 1) yX7_howMany cX7_howMany 3 (some .int) [qr 6] S Q := by
  refine q_entry (lv := [(0, qr 6)]) pn_X7 (Nat.le_of_ble_eq_true rfl) rfl ?_
  unfold Stays_howMany at h
  refine q_iconst dX7_howMany_0 rfl rfl ?_
  refine q_istore_n (lv' := [(1, qi 0), (0, qr 6)]) dX7_howMany_1 (by decide) rfl rfl ?_
  refine q_iconst dX7_howMany_2 rfl rfl ?_
  refine q_istore_n (lv' := [(2, qi 0), (1, qi 0), (0, qr 6)]) dX7_howMany_3 (by decide) rfl rfl ?_
  obtain ⟨q72, h73, h⟩ := Option.bind_eq_some_iff.mp h
  refine q_pick [2, 1, 0] rfl (Stays_howMany_L4_ok hL d qF 0 0 _ _ h73 ?_)
  refine q_iload_n dX7_howMany_37 rfl rfl ?_
  cases h
  exact q_ireturn dX7_howMany_38 rfl hQ
set_option maxRecDepth 20000 in
theorem Ji_bitCount_ok {X : qX} (hL : ∀ c, c < 93 → c ∈ qLs X) (d : Nat) (a0 : Int) (S : qSto) (o : (Int × qSto)) (h : Ji_bitCount a0 S = some o) (Q : Option qV → qSto → Prop) (hQ : Q (some (qi o.1)) o.2) : qC X d yJ6_bitCount_0f7a4 cJ6_bitCount_0f7a4 1 (some .int) [qi a0] S Q := by
  refine q_entry (lv := [(0, qi a0)]) pn_J6 (Nat.le_of_ble_eq_true rfl) rfl ?_
  unfold Ji_bitCount at h
  refine q_iload_n dJ6_bitCount_0f7a4_0 rfl rfl ?_
  refine q_iload_n dJ6_bitCount_0f7a4_1 rfl rfl ?_
  refine q_iconst dJ6_bitCount_0f7a4_2 rfl rfl ?_
  refine q_iushr dJ6_bitCount_0f7a4_3 rfl ?_
  refine q_ldcw (v := 1431655765) dJ6_bitCount_0f7a4_4 qw_793 rfl ?_
  refine q_iand dJ6_bitCount_0f7a4_7 rfl ?_
  refine q_isub dJ6_bitCount_0f7a4_8 rfl ?_
  refine q_istore_n (lv' := [(0, qi (a0 - (qb_iand (qb_iushr a0 1) 1431655765)))]) dJ6_bitCount_0f7a4_9 (by decide) rfl rfl ?_
  refine q_iload_n dJ6_bitCount_0f7a4_10 rfl rfl ?_
  refine q_ldcw (v := 858993459) dJ6_bitCount_0f7a4_11 qw_794 rfl ?_
  refine q_iand dJ6_bitCount_0f7a4_14 rfl ?_
  refine q_iload_n dJ6_bitCount_0f7a4_15 rfl rfl ?_
  refine q_iconst dJ6_bitCount_0f7a4_16 rfl rfl ?_
  refine q_iushr dJ6_bitCount_0f7a4_17 rfl ?_
  refine q_ldcw (v := 858993459) dJ6_bitCount_0f7a4_18 qw_794 rfl ?_
  refine q_iand dJ6_bitCount_0f7a4_21 rfl ?_
  refine q_iadd dJ6_bitCount_0f7a4_22 rfl ?_
  refine q_istore_n (lv' := [(0, qi ((qb_iand (a0 - (qb_iand (qb_iushr a0 1) 1431655765)) 858993459) + (qb_iand (qb_iushr (a0 - (qb_iand (qb_iushr a0 1) 1431655765)) 2) 858993459)))]) dJ6_bitCount_0f7a4_23 (by decide) rfl rfl ?_
  refine q_iload_n dJ6_bitCount_0f7a4_24 rfl rfl ?_
  refine q_iload_n dJ6_bitCount_0f7a4_25 rfl rfl ?_
  refine q_iconst dJ6_bitCount_0f7a4_26 rfl rfl ?_
  refine q_iushr dJ6_bitCount_0f7a4_27 rfl ?_
  refine q_iadd dJ6_bitCount_0f7a4_28 rfl ?_
  refine q_ldcw (v := 252645135) dJ6_bitCount_0f7a4_29 qw_795 rfl ?_
  refine q_iand dJ6_bitCount_0f7a4_32 rfl ?_
  refine q_istore_n (lv' := [(0, qi (qb_iand (((qb_iand (a0 - (qb_iand (qb_iushr a0 1) 1431655765)) 858993459) + (qb_iand (qb_iushr (a0 - (qb_iand (qb_iushr a0 1) 1431655765)) 2) 858993459)) + (qb_iushr ((qb_iand (a0 - (qb_iand (qb_iushr a0 1) 1431655765)) 858993459) + (qb_iand (qb_iushr (a0 - (qb_iand (qb_iushr a0 1) 1431655765)) 2) 858993459)) 4)) 252645135))]) dJ6_bitCount_0f7a4_33 (by decide) rfl rfl ?_
  refine q_iload_n dJ6_bitCount_0f7a4_34 rfl rfl ?_
  refine q_iload_n dJ6_bitCount_0f7a4_35 rfl rfl ?_
  refine q_bipush dJ6_bitCount_0f7a4_36 (by decide) rfl ?_
  refine q_iushr dJ6_bitCount_0f7a4_38 rfl ?_
  refine q_iadd dJ6_bitCount_0f7a4_39 rfl ?_
  refine q_istore_n (lv' := [(0, qi ((qb_iand (((qb_iand (a0 - (qb_iand (qb_iushr a0 1) 1431655765)) 858993459) + (qb_iand (qb_iushr (a0 - (qb_iand (qb_iushr a0 1) 1431655765)) 2) 858993459)) + (qb_iushr ((qb_iand (a0 - (qb_iand (qb_iushr a0 1) 1431655765)) 858993459) + (qb_iand (qb_iushr (a0 - (qb_iand (qb_iushr a0 1) 1431655765)) 2) 858993459)) 4)) 252645135) + (qb_iushr (qb_iand (((qb_iand (a0 - (qb_iand (qb_iushr a0 1) 1431655765)) 858993459) + (qb_iand (qb_iushr (a0 - (qb_iand (qb_iushr a0 1) 1431655765)) 2) 858993459)) + (qb_iushr ((qb_iand (a0 - (qb_iand (qb_iushr a0 1) 1431655765)) 858993459) + (qb_iand (qb_iushr (a0 - (qb_iand (qb_iushr a0 1) 1431655765)) 2) 858993459)) 4)) 252645135) 8)))]) dJ6_bitCount_0f7a4_40 (by decide) rfl rfl ?_
  refine q_iload_n dJ6_bitCount_0f7a4_41 rfl rfl ?_
  refine q_iload_n dJ6_bitCount_0f7a4_42 rfl rfl ?_
  refine q_bipush dJ6_bitCount_0f7a4_43 (by decide) rfl ?_
  refine q_iushr dJ6_bitCount_0f7a4_45 rfl ?_
  refine q_iadd dJ6_bitCount_0f7a4_46 rfl ?_
  refine q_istore_n (lv' := [(0, qi (((qb_iand (((qb_iand (a0 - (qb_iand (qb_iushr a0 1) 1431655765)) 858993459) + (qb_iand (qb_iushr (a0 - (qb_iand (qb_iushr a0 1) 1431655765)) 2) 858993459)) + (qb_iushr ((qb_iand (a0 - (qb_iand (qb_iushr a0 1) 1431655765)) 858993459) + (qb_iand (qb_iushr (a0 - (qb_iand (qb_iushr a0 1) 1431655765)) 2) 858993459)) 4)) 252645135) + (qb_iushr (qb_iand (((qb_iand (a0 - (qb_iand (qb_iushr a0 1) 1431655765)) 858993459) + (qb_iand (qb_iushr (a0 - (qb_iand (qb_iushr a0 1) 1431655765)) 2) 858993459)) + (qb_iushr ((qb_iand (a0 - (qb_iand (qb_iushr a0 1) 1431655765)) 858993459) + (qb_iand (qb_iushr (a0 - (qb_iand (qb_iushr a0 1) 1431655765)) 2) 858993459)) 4)) 252645135) 8)) + (qb_iushr ((qb_iand (((qb_iand (a0 - (qb_iand (qb_iushr a0 1) 1431655765)) 858993459) + (qb_iand (qb_iushr (a0 - (qb_iand (qb_iushr a0 1) 1431655765)) 2) 858993459)) + (qb_iushr ((qb_iand (a0 - (qb_iand (qb_iushr a0 1) 1431655765)) 858993459) + (qb_iand (qb_iushr (a0 - (qb_iand (qb_iushr a0 1) 1431655765)) 2) 858993459)) 4)) 252645135) + (qb_iushr (qb_iand (((qb_iand (a0 - (qb_iand (qb_iushr a0 1) 1431655765)) 858993459) + (qb_iand (qb_iushr (a0 - (qb_iand (qb_iushr a0 1) 1431655765)) 2) 858993459)) + (qb_iushr ((qb_iand (a0 - (qb_iand (qb_iushr a0 1) 1431655765)) 858993459) + (qb_iand (qb_iushr (a0 - (qb_iand (qb_iushr a0 1) 1431655765)) 2) 858993459)) 4)) 252645135) 8)) 16)))]) dJ6_bitCount_0f7a4_47 (by decide) rfl rfl ?_
  refine q_iload_n dJ6_bitCount_0f7a4_48 rfl rfl ?_
  refine q_bipush dJ6_bitCount_0f7a4_49 (by decide) rfl ?_
  refine q_iand dJ6_bitCount_0f7a4_51 rfl ?_
  cases h
  exact q_ireturn dJ6_bitCount_0f7a4_52 rfl hQ
set_option maxRecDepth 20000 in
theorem History_marksMade_ok {X : qX} (hL : ∀ c, c < 93 → c ∈ qLs X) (d : Nat) (S : qSto) (o : (Int × qSto)) (h : History_marksMade S = some o) (Q : Option qV → qSto → Prop) (hQ : Q (some (qi o.1)) o.2) : qC X (d + 1) yX2_marksMade cX2_marksMade 1 (some .int) [qr 12] S Q := by
  refine q_entry (lv := [(0, qr 12)]) pn_X2 (Nat.le_of_ble_eq_true rfl) rfl ?_
  unfold History_marksMade at h
  refine q_aload_n dX2_marksMade_0 rfl rfl ?_
  refine q_getI dX2_marksMade_1 fl_X2_23 (hL 12 (by decide)) sh_12 (by decide) rfl rfl ?_
  obtain ⟨q76, h77, h⟩ := Option.bind_eq_some_iff.mp h
  refine q_callSi (as := [qi (S 12 4)]) dX2_marksMade_4 ml_X2_35 rfl rfl (Nat.le_of_ble_eq_true rfl) (Ji_bitCount_ok hL d (S 12 4) _ _ h77) rfl ?_
  cases h
  exact q_ireturn dX2_marksMade_7 rfl hQ
set_option maxRecDepth 20000 in
theorem Told_contractOf_ok {X : qX} (hL : ∀ c, c < 93 → c ∈ qLs X) (d : Nat) (a1 : Int) (a2 : Int) (S : qSto) (o : (Int × qSto)) (h : Told_contractOf a1 a2 S = some o) (Q : Option qV → qSto → Prop) (hQ : Q (some (qi o.1)) o.2) : qC X d yX8_contractOf cX8_contractOf 3 (some .int) [qr 2, qi a1, qi a2] S Q := by
  refine q_entry (lv := [(0, qr 2), (1, qi a1), (2, qi a2)]) pn_X8 (Nat.le_of_ble_eq_true rfl) rfl ?_
  unfold Told_contractOf at h
  refine q_aload_n dX8_contractOf_0 rfl rfl ?_
  refine q_getA dX8_contractOf_1 fl_X8_36 (hL 2 (by decide)) sh_2 (by decide) rfl rfl ?_
  refine q_iload_n dX8_contractOf_4 rfl rfl ?_
  refine q_bipush dX8_contractOf_5 (by decide) rfl ?_
  refine q_imul dX8_contractOf_7 rfl ?_
  refine q_iload_n dX8_contractOf_8 rfl rfl ?_
  refine q_iadd dX8_contractOf_9 rfl ?_
  obtain ⟨c89, h⟩ := qk_some h
  refine q_iaload dX8_contractOf_10 (hL 23 (by decide)) sh_23 (qIx_0 c89) (qIx_1 c89) rfl ?_
  cases h
  exact q_ireturn dX8_contractOf_11 rfl hQ
set_option maxRecDepth 20000 in
theorem Jm_max_ok {X : qX} (hL : ∀ c, c < 93 → c ∈ qLs X) (d : Nat) (a0 : Int) (a1 : Int) (S : qSto) (o : (Int × qSto)) (h : Jm_max a0 a1 S = some o) (Q : Option qV → qSto → Prop) (hQ : Q (some (qi o.1)) o.2) : qC X d yJ9_max_7cf53 cJ9_max_7cf53 2 (some .int) [qi a0, qi a1] S Q := by
  refine q_entryF (lv := [(0, qi a0), (1, qi a1)]) pn_J9_max_7cf53 (Nat.le_of_ble_eq_true rfl) rfl ?_
  unfold Jm_max at h
  refine q_iload_n dJ9_max_7cf53_0 rfl rfl ?_
  refine q_iload_n dJ9_max_7cf53_1 rfl rfl ?_
  obtain ⟨c92, h⟩ := qk_some h
  obtain ⟨c93, h⟩ := qk_some h
  refine q_icmp_lt (tgt := 9) dJ9_max_7cf53_2 (by decide) rfl (qRb_R c92) (qRb_R c93) (fun g => ?_) (fun g => ?_)
  · rw [if_pos (show a0 < a1 from g)] at h
    refine q_iload_n dJ9_max_7cf53_9 rfl rfl ?_
    cases h
    exact q_ireturn dJ9_max_7cf53_10 rfl hQ
  · rw [if_neg (show ¬ (a0 < a1) from g)] at h
    refine q_iload_n dJ9_max_7cf53_5 rfl rfl ?_
    refine q_goto (pc' := 10) dJ9_max_7cf53_6 (by decide) ?_
    cases h
    exact q_ireturn dJ9_max_7cf53_10 rfl hQ
set_option maxRecDepth 20000 in
theorem Stays_lateOf_ok {X : qX} (hL : ∀ c, c < 93 → c ∈ qLs X) (d : Nat) (a1 : Int) (S : qSto) (o : (Int × qSto)) (h : Stays_lateOf a1 S = some o) (Q : Option qV → qSto → Prop) (hQ : Q (some (qi o.1)) o.2) : qC X (d + 1) yX7_lateOf cX7_lateOf 2 (some .int) [qr 6, qi a1] S Q := by
  refine q_entry (lv := [(0, qr 6), (1, qi a1)]) pn_X7 (Nat.le_of_ble_eq_true rfl) rfl ?_
  unfold Stays_lateOf at h
  refine q_aload_n dX7_lateOf_0 rfl rfl ?_
  refine q_iload_n dX7_lateOf_1 rfl rfl ?_
  obtain ⟨q85, h86, h⟩ := Option.bind_eq_some_iff.mp h
  refine q_callVi (as := [qi a1]) (c := 6) dX7_lateOf_2 ml_X7_50 rfl rfl (hL 6 (by decide)) sh_6 rfl rfl (Nat.le_of_ble_eq_true rfl) (Stays_has_ok hL d a1 _ _ h86) rfl ?_
  obtain ⟨c87, h⟩ := qk_some h
  refine q_if_eq (tgt := 31) dX7_lateOf_5 (by decide) rfl (qRb_R c87)  (fun g => ?_) (fun g => ?_)
  · rw [if_pos (show q85.1 = 0 from g)] at h
    refine q_iconst dX7_lateOf_31 rfl rfl ?_
    cases h
    exact q_ireturn dX7_lateOf_32 rfl hQ
  · rw [if_neg (show ¬ (q85.1 = 0) from g)] at h
    refine q_iconst dX7_lateOf_8 rfl rfl ?_
    refine q_aload_n dX7_lateOf_9 rfl rfl ?_
    refine q_getA dX7_lateOf_10 fl_X7_27 (hL 6 (by decide)) sh_6 (by decide) rfl rfl ?_
    refine q_iload_n dX7_lateOf_13 rfl rfl ?_
    obtain ⟨c88, h⟩ := qk_some h
    refine q_iaload dX7_lateOf_14 (hL 42 (by decide)) sh_42 (qIx_0 c88) (qIx_1 c88) rfl ?_
    refine q_aload_n dX7_lateOf_15 rfl rfl ?_
    refine q_getA dX7_lateOf_16 fl_X7_36 (hL 6 (by decide)) sh_6 (by decide) rfl rfl ?_
    refine q_iload_n dX7_lateOf_19 rfl rfl ?_
    refine q_iconst dX7_lateOf_20 rfl rfl ?_
    obtain ⟨q90, h91, h⟩ := Option.bind_eq_some_iff.mp h
    refine q_callVi (as := [qi a1, qi 5]) (c := 2) dX7_lateOf_21 ml_X7_54 rfl rfl (hL 2 (by decide)) sh_2 rfl rfl (Nat.le_of_ble_eq_true rfl) (Told_contractOf_ok hL d a1 5 _ _ h91) rfl ?_
    refine q_isub dX7_lateOf_24 rfl ?_
    obtain ⟨q94, h95, h⟩ := Option.bind_eq_some_iff.mp h
    refine q_callSi (as := [qi 0, qi ((q85.2 42 (Int.toNat a1)) - q90.1)]) dX7_lateOf_25 ml_X7_108 rfl rfl (Nat.le_of_ble_eq_true rfl) (Jm_max_ok hL d 0 ((q85.2 42 (Int.toNat a1)) - q90.1) _ _ h95) rfl ?_
    refine q_goto (pc' := 32) dX7_lateOf_28 (by decide) ?_
    cases h
    exact q_ireturn dX7_lateOf_32 rfl hQ
set_option maxRecDepth 20000 in
theorem Stays_costOf_ok {X : qX} (hL : ∀ c, c < 93 → c ∈ qLs X) (d : Nat) (a1 : Int) (S : qSto) (o : (Int × qSto)) (h : Stays_costOf a1 S = some o) (Q : Option qV → qSto → Prop) (hQ : Q (some (qi o.1)) o.2) : qC X (d + 2) yX7_costOf cX7_costOf 2 (some .int) [qr 6, qi a1] S Q := by
  refine q_entry (lv := [(0, qr 6), (1, qi a1)]) pn_X7 (Nat.le_of_ble_eq_true rfl) rfl ?_
  unfold Stays_costOf at h
  refine q_aload_n dX7_costOf_0 rfl rfl ?_
  refine q_iload_n dX7_costOf_1 rfl rfl ?_
  obtain ⟨q96, h97, h⟩ := Option.bind_eq_some_iff.mp h
  refine q_callVi (as := [qi a1]) (c := 6) dX7_costOf_2 ml_X7_115 rfl rfl (hL 6 (by decide)) sh_6 rfl rfl (Nat.le_of_ble_eq_true rfl) (Stays_lateOf_ok hL d a1 _ _ h97) rfl ?_
  refine q_bipush dX7_costOf_5 (by decide) rfl ?_
  refine q_aload_n dX7_costOf_7 rfl rfl ?_
  refine q_getA dX7_costOf_8 fl_X7_36 (hL 6 (by decide)) sh_6 (by decide) rfl rfl ?_
  refine q_iload_n dX7_costOf_11 rfl rfl ?_
  refine q_bipush dX7_costOf_12 (by decide) rfl ?_
  obtain ⟨q98, h99, h⟩ := Option.bind_eq_some_iff.mp h
  refine q_callVi (as := [qi a1, qi 6]) (c := 2) dX7_costOf_14 ml_X7_54 rfl rfl (hL 2 (by decide)) sh_2 rfl rfl (Nat.le_of_ble_eq_true rfl) (Told_contractOf_ok hL (d + 1) a1 6 _ _ h99) rfl ?_
  refine q_ishr dX7_costOf_17 rfl ?_
  refine q_imul dX7_costOf_18 rfl ?_
  cases h
  exact q_ireturn dX7_costOf_19 rfl hQ
set_option maxRecDepth 20000 in
theorem C_costOfAll_L4_ok {X : qX} (hL : ∀ c, c < 93 → c ∈ qLs X) (d : Nat) {Q : Option qV → qSto → Prop} : ∀ (n : Nat) (x1 : Int) (x2 : Int) (S : qSto) (o : (Int × qSto)), C_costOfAll_L4 n x1 x2 S = some o → (qW X (d + 3) yX11_costOfAll cX11_costOfAll 3 (some .int) 43 [(1, qi o.1)] [] o.2 Q) → qW X (d + 3) yX11_costOfAll cX11_costOfAll 3 (some .int) 4 [(0, qr 0), (1, qi x1), (2, qi x2)] [] S Q := by
  intro n
  induction n with
  | zero =>
    intro x1 x2 S o h
    simp [C_costOfAll_L4] at h
  | succ n ih =>
    intro x1 x2 S o h hE
    rw [C_costOfAll_L4] at h
    refine q_iload_n dX11_costOfAll_4 rfl rfl ?_
    refine q_aload_n dX11_costOfAll_5 rfl rfl ?_
    refine q_getA dX11_costOfAll_6 fl_X11_16 (hL 0 (by decide)) sh_0 (by decide) rfl rfl ?_
    refine q_getI dX11_costOfAll_9 fl_X11_158 (hL 2 (by decide)) sh_2 (by decide) rfl rfl ?_
    obtain ⟨c80, h⟩ := qk_some h
    obtain ⟨c81, h⟩ := qk_some h
    refine q_icmp_ge (tgt := 43) dX11_costOfAll_12 (by decide) rfl (qRb_R c80) (qRb_R c81) (fun g => ?_) (fun g => ?_)
    · rw [if_pos (show (S 2 12) ≤ x2 from g)] at h
      cases h
      exact q_pick [1] rfl (hE)
    · rw [if_neg (show ¬ ((S 2 12) ≤ x2) from g)] at h
      refine q_aload_n dX11_costOfAll_15 rfl rfl ?_
      refine q_getA dX11_costOfAll_16 fl_X11_49 (hL 0 (by decide)) sh_0 (by decide) rfl rfl ?_
      refine q_iload_n dX11_costOfAll_19 rfl rfl ?_
      obtain ⟨q82, h83, h⟩ := Option.bind_eq_some_iff.mp h
      refine q_callVi (as := [qi x2]) (c := 6) dX11_costOfAll_20 ml_X11_178 rfl rfl (hL 6 (by decide)) sh_6 rfl rfl (Nat.le_of_ble_eq_true rfl) (Stays_has_ok hL (d + 2) x2 _ _ h83) rfl ?_
      refine q_jn (G := fun (t102 : (Int × qSto)) => qW X (d + 3) yX11_costOfAll cX11_costOfAll 3 (some .int) 37 [(0, qr 0), (1, qi t102.1), (2, qi x2)] [] t102.2 Q) h (fun t102 h => ?_) (fun t102 h hk3726 => ?_)
      · try dsimp only at h
        refine q_iinc (lv' := [(2, qi (x2 + 1)), (0, qr 0), (1, qi t102.1)]) dX11_costOfAll_37 (by decide) rfl rfl rfl ?_
        refine q_goto (pc' := 4) dX11_costOfAll_40 (by decide) ?_
        exact q_pick [1, 2, 0] rfl (ih t102.1 (x2 + 1) _ _ h hE)
      · skip
        obtain ⟨c84, h⟩ := qk_some h
        refine q_if_eq (tgt := 37) dX11_costOfAll_23 (by decide) rfl (qRb_R c84)  (fun g => ?_) (fun g => ?_)
        · rw [if_pos (show q82.1 = 0 from g)] at h
          cases h
          exact q_pick [0, 1, 2] rfl hk3726
        · rw [if_neg (show ¬ (q82.1 = 0) from g)] at h
          refine q_iload_n dX11_costOfAll_26 rfl rfl ?_
          refine q_aload_n dX11_costOfAll_27 rfl rfl ?_
          refine q_getA dX11_costOfAll_28 fl_X11_49 (hL 0 (by decide)) sh_0 (by decide) rfl rfl ?_
          refine q_iload_n dX11_costOfAll_31 rfl rfl ?_
          obtain ⟨q100, h101, h⟩ := Option.bind_eq_some_iff.mp h
          refine q_callVi (as := [qi x2]) (c := 6) dX11_costOfAll_32 ml_X11_182 rfl rfl (hL 6 (by decide)) sh_6 rfl rfl (Nat.le_of_ble_eq_true rfl) (Stays_costOf_ok hL d x2 _ _ h101) rfl ?_
          refine q_iadd dX11_costOfAll_35 rfl ?_
          refine q_istore_n (lv' := [(1, qi (x1 + q100.1)), (0, qr 0), (2, qi x2)]) dX11_costOfAll_36 (by decide) rfl rfl ?_
          cases h
          exact q_pick [1, 0, 2] rfl hk3726
set_option maxRecDepth 20000 in
theorem C_costOfAll_ok {X : qX} (hL : ∀ c, c < 93 → c ∈ qLs X) (d : Nat) (S : qSto) (o : (Int × qSto)) (h : C_costOfAll S = some o) (Q : Option qV → qSto → Prop) (hQ : Q (some (qi o.1)) o.2) : qC X (d + 3) yX11_costOfAll cX11_costOfAll 3 (some .int) [qr 0] S Q := by
  refine q_entry (lv := [(0, qr 0)]) pn_X11 (Nat.le_of_ble_eq_true rfl) rfl ?_
  unfold C_costOfAll at h
  refine q_iconst dX11_costOfAll_0 rfl rfl ?_
  refine q_istore_n (lv' := [(1, qi 0), (0, qr 0)]) dX11_costOfAll_1 (by decide) rfl rfl ?_
  refine q_iconst dX11_costOfAll_2 rfl rfl ?_
  refine q_istore_n (lv' := [(2, qi 0), (1, qi 0), (0, qr 0)]) dX11_costOfAll_3 (by decide) rfl rfl ?_
  obtain ⟨q103, h104, h⟩ := Option.bind_eq_some_iff.mp h
  refine q_pick [2, 1, 0] rfl (C_costOfAll_L4_ok hL d qF 0 0 _ _ h104 ?_)
  refine q_iload_n dX11_costOfAll_43 rfl rfl ?_
  cases h
  exact q_ireturn dX11_costOfAll_44 rfl hQ
set_option maxRecDepth 20000 in
theorem Stays_busyIn_L5_ok {X : qX} (hL : ∀ c, c < 93 → c ∈ qLs X) (d : Nat) {Q : Option qV → qSto → Prop} : ∀ (n : Nat) (x2 : Int) (x3 : Int) (x4 : Int) (S : qSto) (o : (Int × qSto)), Stays_busyIn_L5 n x2 x3 x4 S = some o → (qW X d yX7_busyIn cX7_busyIn 5 (some .int) 27 [(3, qi o.1)] [] o.2 Q) → qW X d yX7_busyIn cX7_busyIn 5 (some .int) 5 [(0, qr 6), (2, qi x2), (3, qi x3), (4, qi x4)] [] S Q := by
  intro n
  induction n with
  | zero =>
    intro x2 x3 x4 S o h
    simp [Stays_busyIn_L5] at h
  | succ n ih =>
    intro x2 x3 x4 S o h hE
    rw [Stays_busyIn_L5] at h
    refine q_iload dX7_busyIn_5 rfl rfl ?_
    refine q_iload_n dX7_busyIn_7 rfl rfl ?_
    obtain ⟨c107, h⟩ := qk_some h
    obtain ⟨c108, h⟩ := qk_some h
    refine q_icmp_ge (tgt := 27) dX7_busyIn_8 (by decide) rfl (qRb_R c107) (qRb_R c108) (fun g => ?_) (fun g => ?_)
    · rw [if_pos (show x2 ≤ x4 from g)] at h
      cases h
      exact q_pick [2] rfl (hE)
    · rw [if_neg (show ¬ (x2 ≤ x4) from g)] at h
      refine q_iload_n dX7_busyIn_11 rfl rfl ?_
      refine q_aload_n dX7_busyIn_12 rfl rfl ?_
      refine q_getA dX7_busyIn_13 fl_X7_30 (hL 6 (by decide)) sh_6 (by decide) rfl rfl ?_
      refine q_iload dX7_busyIn_16 rfl rfl ?_
      obtain ⟨c109, h⟩ := qk_some h
      refine q_iaload dX7_busyIn_18 (hL 43 (by decide)) sh_43 (qIx_0 c109) (qIx_1 c109) rfl ?_
      refine q_iadd dX7_busyIn_19 rfl ?_
      refine q_istore_n (lv' := [(3, qi (x3 + (S 43 (Int.toNat x4)))), (0, qr 6), (2, qi x2), (4, qi x4)]) dX7_busyIn_20 (by decide) rfl rfl ?_
      refine q_iinc (lv' := [(4, qi (x4 + 1)), (3, qi (x3 + (S 43 (Int.toNat x4)))), (0, qr 6), (2, qi x2)]) dX7_busyIn_21 (by decide) rfl rfl rfl ?_
      refine q_goto (pc' := 5) dX7_busyIn_24 (by decide) ?_
      exact q_pick [2, 3, 1, 0] rfl (ih x2 (x3 + (S 43 (Int.toNat x4))) (x4 + 1) _ _ h hE)
set_option maxRecDepth 20000 in
theorem Stays_busyIn_ok {X : qX} (hL : ∀ c, c < 93 → c ∈ qLs X) (d : Nat) (a1 : Int) (a2 : Int) (S : qSto) (o : (Int × qSto)) (h : Stays_busyIn a1 a2 S = some o) (Q : Option qV → qSto → Prop) (hQ : Q (some (qi o.1)) o.2) : qC X d yX7_busyIn cX7_busyIn 5 (some .int) [qr 6, qi a1, qi a2] S Q := by
  refine q_entry (lv := [(0, qr 6), (1, qi a1), (2, qi a2)]) pn_X7 (Nat.le_of_ble_eq_true rfl) rfl ?_
  unfold Stays_busyIn at h
  refine q_iconst dX7_busyIn_0 rfl rfl ?_
  refine q_istore_n (lv' := [(3, qi 0), (0, qr 6), (1, qi a1), (2, qi a2)]) dX7_busyIn_1 (by decide) rfl rfl ?_
  refine q_iload_n dX7_busyIn_2 rfl rfl ?_
  refine q_istore (lv' := [(4, qi a1), (3, qi 0), (0, qr 6), (1, qi a1), (2, qi a2)]) dX7_busyIn_3 (by decide) rfl rfl ?_
  obtain ⟨q110, h111, h⟩ := Option.bind_eq_some_iff.mp h
  refine q_pick [2, 4, 1, 0] rfl (Stays_busyIn_L5_ok hL d qF a2 0 a1 _ _ h111 ?_)
  refine q_iload_n dX7_busyIn_27 rfl rfl ?_
  cases h
  exact q_ireturn dX7_busyIn_28 rfl hQ
set_option maxRecDepth 20000 in
theorem C_count_ok {X : qX} (hL : ∀ c, c < 93 → c ∈ qLs X) (d : Nat) (a1 : Int) (S : qSto) (o : (Int × qSto)) (h : C_count a1 S = some o) (Q : Option qV → qSto → Prop) (hQ : Q (some (qi o.1)) o.2) : qC X (d + 4) yX11_count cX11_count 2 (some .int) [qr 0, qi a1] S Q := by
  refine q_entry (lv := [(0, qr 0), (1, qi a1)]) pn_X11 (Nat.le_of_ble_eq_true rfl) rfl ?_
  unfold C_count at h
  refine q_iload_n dX11_count_0 rfl rfl ?_
  obtain ⟨c62, h⟩ := qk_some h
  refine q_if_lt (tgt := 20) dX11_count_1 (by decide) rfl (qRb_R c62)  (fun g => ?_) (fun g => ?_)
  · rw [if_pos (show a1 < 0 from g)] at h
    refine q_iload_n dX11_count_20 rfl rfl ?_
    obtain ⟨c63, h⟩ := qk_some h
    by_cases e3727 : a1 = 6
    · rw [if_pos e3727] at h
      refine q_tsw (tgt := 154) dX11_count_21 (qRb_R c63) (by decide) (fun g => absurd g (by rw [e3727]; decide)) (fun _ _ => ⟨55, 76, by rw [e3727]; rfl, by decide, ?_⟩)
      refine q_aload_n dX11_count_76 rfl rfl ?_
      refine q_getA dX11_count_77 fl_X11_16 (hL 0 (by decide)) sh_0 (by decide) rfl rfl ?_
      refine q_getI dX11_count_80 fl_X11_149 (hL 2 (by decide)) sh_2 (by decide) rfl rfl ?_
      cases h
      exact q_ireturn dX11_count_83 rfl hQ
    · rw [if_neg e3727] at h
      by_cases e3728 : a1 = 7
      · rw [if_pos e3728] at h
        refine q_tsw (tgt := 154) dX11_count_21 (qRb_R c63) (by decide) (fun g => absurd g (by rw [e3728]; decide)) (fun _ _ => ⟨63, 84, by rw [e3728]; rfl, by decide, ?_⟩)
        refine q_aload_n dX11_count_84 rfl rfl ?_
        refine q_getA dX11_count_85 fl_X11_16 (hL 0 (by decide)) sh_0 (by decide) rfl rfl ?_
        refine q_getI dX11_count_88 fl_X11_152 (hL 2 (by decide)) sh_2 (by decide) rfl rfl ?_
        cases h
        exact q_ireturn dX11_count_91 rfl hQ
      · rw [if_neg e3728] at h
        by_cases e3729 : a1 = 8
        · rw [if_pos e3729] at h
          refine q_tsw (tgt := 154) dX11_count_21 (qRb_R c63) (by decide) (fun g => absurd g (by rw [e3729]; decide)) (fun _ _ => ⟨71, 92, by rw [e3729]; rfl, by decide, ?_⟩)
          refine q_aload_n dX11_count_92 rfl rfl ?_
          refine q_getA dX11_count_93 fl_X11_16 (hL 0 (by decide)) sh_0 (by decide) rfl rfl ?_
          refine q_getI dX11_count_96 fl_X11_155 (hL 2 (by decide)) sh_2 (by decide) rfl rfl ?_
          cases h
          exact q_ireturn dX11_count_99 rfl hQ
        · rw [if_neg e3729] at h
          by_cases e3730 : a1 = 9
          · rw [if_pos e3730] at h
            refine q_tsw (tgt := 154) dX11_count_21 (qRb_R c63) (by decide) (fun g => absurd g (by rw [e3730]; decide)) (fun _ _ => ⟨79, 100, by rw [e3730]; rfl, by decide, ?_⟩)
            refine q_aload_n dX11_count_100 rfl rfl ?_
            refine q_getA dX11_count_101 fl_X11_16 (hL 0 (by decide)) sh_0 (by decide) rfl rfl ?_
            refine q_getI dX11_count_104 fl_X11_158 (hL 2 (by decide)) sh_2 (by decide) rfl rfl ?_
            cases h
            exact q_ireturn dX11_count_107 rfl hQ
          · rw [if_neg e3730] at h
            by_cases e3731 : a1 = 10
            · rw [if_pos e3731] at h
              refine q_tsw (tgt := 154) dX11_count_21 (qRb_R c63) (by decide) (fun g => absurd g (by rw [e3731]; decide)) (fun _ _ => ⟨87, 108, by rw [e3731]; rfl, by decide, ?_⟩)
              refine q_aload_n dX11_count_108 rfl rfl ?_
              refine q_getA dX11_count_109 fl_X11_49 (hL 0 (by decide)) sh_0 (by decide) rfl rfl ?_
              obtain ⟨q74, h75, h⟩ := Option.bind_eq_some_iff.mp h
              refine q_callVi (as := []) (c := 6) dX11_count_112 ml_X11_161 rfl rfl (hL 6 (by decide)) sh_6 rfl rfl (Nat.le_of_ble_eq_true rfl) (Stays_howMany_ok hL (d + 2) _ _ h75) rfl ?_
              cases h
              exact q_ireturn dX11_count_115 rfl hQ
            · rw [if_neg e3731] at h
              by_cases e3732 : a1 = 11
              · rw [if_pos e3732] at h
                refine q_tsw (tgt := 154) dX11_count_21 (qRb_R c63) (by decide) (fun g => absurd g (by rw [e3732]; decide)) (fun _ _ => ⟨95, 116, by rw [e3732]; rfl, by decide, ?_⟩)
                refine q_aload_n dX11_count_116 rfl rfl ?_
                refine q_getA dX11_count_117 fl_X11_99 (hL 0 (by decide)) sh_0 (by decide) rfl rfl ?_
                refine q_getI dX11_count_120 fl_X11_165 (hL 12 (by decide)) sh_12 (by decide) rfl rfl ?_
                cases h
                exact q_ireturn dX11_count_123 rfl hQ
              · rw [if_neg e3732] at h
                by_cases e3733 : a1 = 12
                · rw [if_pos e3733] at h
                  refine q_tsw (tgt := 154) dX11_count_21 (qRb_R c63) (by decide) (fun g => absurd g (by rw [e3733]; decide)) (fun _ _ => ⟨103, 124, by rw [e3733]; rfl, by decide, ?_⟩)
                  refine q_aload_n dX11_count_124 rfl rfl ?_
                  refine q_getA dX11_count_125 fl_X11_99 (hL 0 (by decide)) sh_0 (by decide) rfl rfl ?_
                  obtain ⟨q78, h79, h⟩ := Option.bind_eq_some_iff.mp h
                  refine q_callVi (as := []) (c := 12) dX11_count_128 ml_X11_168 rfl rfl (hL 12 (by decide)) sh_12 rfl rfl (Nat.le_of_ble_eq_true rfl) (History_marksMade_ok hL (d + 2) _ _ h79) rfl ?_
                  cases h
                  exact q_ireturn dX11_count_131 rfl hQ
                · rw [if_neg e3733] at h
                  by_cases e3734 : a1 = 13
                  · rw [if_pos e3734] at h
                    refine q_tsw (tgt := 154) dX11_count_21 (qRb_R c63) (by decide) (fun g => absurd g (by rw [e3734]; decide)) (fun _ _ => ⟨111, 132, by rw [e3734]; rfl, by decide, ?_⟩)
                    refine q_aload_n dX11_count_132 rfl rfl ?_
                    refine q_getI dX11_count_133 fl_X11_114 (hL 0 (by decide)) sh_0 (by decide) rfl rfl ?_
                    cases h
                    exact q_ireturn dX11_count_136 rfl hQ
                  · rw [if_neg e3734] at h
                    by_cases e3735 : a1 = 14
                    · rw [if_pos e3735] at h
                      refine q_tsw (tgt := 154) dX11_count_21 (qRb_R c63) (by decide) (fun g => absurd g (by rw [e3735]; decide)) (fun _ _ => ⟨116, 137, by rw [e3735]; rfl, by decide, ?_⟩)
                      refine q_aload_n dX11_count_137 rfl rfl ?_
                      obtain ⟨q105, h106, h⟩ := Option.bind_eq_some_iff.mp h
                      refine q_callVi (as := []) (c := 0) dX11_count_138 ml_X11_171 rfl rfl (hL 0 (by decide)) sh_0 rfl rfl (Nat.le_of_ble_eq_true rfl) (C_costOfAll_ok hL d _ _ h106) rfl ?_
                      cases h
                      exact q_ireturn dX11_count_141 rfl hQ
                    · rw [if_neg e3735] at h
                      by_cases e3736 : a1 = 15
                      · rw [if_pos e3736] at h
                        refine q_tsw (tgt := 154) dX11_count_21 (qRb_R c63) (by decide) (fun g => absurd g (by rw [e3736]; decide)) (fun _ _ => ⟨121, 142, by rw [e3736]; rfl, by decide, ?_⟩)
                        refine q_aload_n dX11_count_142 rfl rfl ?_
                        refine q_getA dX11_count_143 fl_X11_49 (hL 0 (by decide)) sh_0 (by decide) rfl rfl ?_
                        refine q_iconst dX11_count_146 rfl rfl ?_
                        refine q_sipush dX11_count_147 (by decide) rfl ?_
                        obtain ⟨q112, h113, h⟩ := Option.bind_eq_some_iff.mp h
                        refine q_callVi (as := [qi 0, qi 336]) (c := 6) dX11_count_150 ml_X11_174 rfl rfl (hL 6 (by decide)) sh_6 rfl rfl (Nat.le_of_ble_eq_true rfl) (Stays_busyIn_ok hL (d + 3) 0 336 _ _ h113) rfl ?_
                        cases h
                        exact q_ireturn dX11_count_153 rfl hQ
                      · rw [if_neg e3736] at h
                        refine q_tsw (tgt := 154) dX11_count_21 (qRb_R c63) (by decide) (fun _ => ?_) (fun g1 g2 => absurd g1 (by omega))
                        refine q_iconst dX11_count_154 rfl rfl ?_
                        cases h
                        exact q_ireturn dX11_count_155 rfl hQ
  · rw [if_neg (show ¬ (a1 < 0) from g)] at h
    refine q_iload_n dX11_count_4 rfl rfl ?_
    refine q_bipush dX11_count_5 (by decide) rfl ?_
    obtain ⟨c114, h⟩ := qk_some h
    refine q_icmp_ge (tgt := 20) dX11_count_7 (by decide) rfl (qRb_R c114) ⟨by decide, by decide⟩ (fun g => ?_) (fun g => ?_)
    · rw [if_pos (show 6 ≤ a1 from g)] at h
      refine q_iload_n dX11_count_20 rfl rfl ?_
      obtain ⟨c115, h⟩ := qk_some h
      by_cases e3737 : a1 = 6
      · rw [if_pos e3737] at h
        refine q_tsw (tgt := 154) dX11_count_21 (qRb_R c115) (by decide) (fun g => absurd g (by rw [e3737]; decide)) (fun _ _ => ⟨55, 76, by rw [e3737]; rfl, by decide, ?_⟩)
        refine q_aload_n dX11_count_76 rfl rfl ?_
        refine q_getA dX11_count_77 fl_X11_16 (hL 0 (by decide)) sh_0 (by decide) rfl rfl ?_
        refine q_getI dX11_count_80 fl_X11_149 (hL 2 (by decide)) sh_2 (by decide) rfl rfl ?_
        cases h
        exact q_ireturn dX11_count_83 rfl hQ
      · rw [if_neg e3737] at h
        by_cases e3738 : a1 = 7
        · rw [if_pos e3738] at h
          refine q_tsw (tgt := 154) dX11_count_21 (qRb_R c115) (by decide) (fun g => absurd g (by rw [e3738]; decide)) (fun _ _ => ⟨63, 84, by rw [e3738]; rfl, by decide, ?_⟩)
          refine q_aload_n dX11_count_84 rfl rfl ?_
          refine q_getA dX11_count_85 fl_X11_16 (hL 0 (by decide)) sh_0 (by decide) rfl rfl ?_
          refine q_getI dX11_count_88 fl_X11_152 (hL 2 (by decide)) sh_2 (by decide) rfl rfl ?_
          cases h
          exact q_ireturn dX11_count_91 rfl hQ
        · rw [if_neg e3738] at h
          by_cases e3739 : a1 = 8
          · rw [if_pos e3739] at h
            refine q_tsw (tgt := 154) dX11_count_21 (qRb_R c115) (by decide) (fun g => absurd g (by rw [e3739]; decide)) (fun _ _ => ⟨71, 92, by rw [e3739]; rfl, by decide, ?_⟩)
            refine q_aload_n dX11_count_92 rfl rfl ?_
            refine q_getA dX11_count_93 fl_X11_16 (hL 0 (by decide)) sh_0 (by decide) rfl rfl ?_
            refine q_getI dX11_count_96 fl_X11_155 (hL 2 (by decide)) sh_2 (by decide) rfl rfl ?_
            cases h
            exact q_ireturn dX11_count_99 rfl hQ
          · rw [if_neg e3739] at h
            by_cases e3740 : a1 = 9
            · rw [if_pos e3740] at h
              refine q_tsw (tgt := 154) dX11_count_21 (qRb_R c115) (by decide) (fun g => absurd g (by rw [e3740]; decide)) (fun _ _ => ⟨79, 100, by rw [e3740]; rfl, by decide, ?_⟩)
              refine q_aload_n dX11_count_100 rfl rfl ?_
              refine q_getA dX11_count_101 fl_X11_16 (hL 0 (by decide)) sh_0 (by decide) rfl rfl ?_
              refine q_getI dX11_count_104 fl_X11_158 (hL 2 (by decide)) sh_2 (by decide) rfl rfl ?_
              cases h
              exact q_ireturn dX11_count_107 rfl hQ
            · rw [if_neg e3740] at h
              by_cases e3741 : a1 = 10
              · rw [if_pos e3741] at h
                refine q_tsw (tgt := 154) dX11_count_21 (qRb_R c115) (by decide) (fun g => absurd g (by rw [e3741]; decide)) (fun _ _ => ⟨87, 108, by rw [e3741]; rfl, by decide, ?_⟩)
                refine q_aload_n dX11_count_108 rfl rfl ?_
                refine q_getA dX11_count_109 fl_X11_49 (hL 0 (by decide)) sh_0 (by decide) rfl rfl ?_
                obtain ⟨q116, h117, h⟩ := Option.bind_eq_some_iff.mp h
                refine q_callVi (as := []) (c := 6) dX11_count_112 ml_X11_161 rfl rfl (hL 6 (by decide)) sh_6 rfl rfl (Nat.le_of_ble_eq_true rfl) (Stays_howMany_ok hL (d + 2) _ _ h117) rfl ?_
                cases h
                exact q_ireturn dX11_count_115 rfl hQ
              · rw [if_neg e3741] at h
                by_cases e3742 : a1 = 11
                · rw [if_pos e3742] at h
                  refine q_tsw (tgt := 154) dX11_count_21 (qRb_R c115) (by decide) (fun g => absurd g (by rw [e3742]; decide)) (fun _ _ => ⟨95, 116, by rw [e3742]; rfl, by decide, ?_⟩)
                  refine q_aload_n dX11_count_116 rfl rfl ?_
                  refine q_getA dX11_count_117 fl_X11_99 (hL 0 (by decide)) sh_0 (by decide) rfl rfl ?_
                  refine q_getI dX11_count_120 fl_X11_165 (hL 12 (by decide)) sh_12 (by decide) rfl rfl ?_
                  cases h
                  exact q_ireturn dX11_count_123 rfl hQ
                · rw [if_neg e3742] at h
                  by_cases e3743 : a1 = 12
                  · rw [if_pos e3743] at h
                    refine q_tsw (tgt := 154) dX11_count_21 (qRb_R c115) (by decide) (fun g => absurd g (by rw [e3743]; decide)) (fun _ _ => ⟨103, 124, by rw [e3743]; rfl, by decide, ?_⟩)
                    refine q_aload_n dX11_count_124 rfl rfl ?_
                    refine q_getA dX11_count_125 fl_X11_99 (hL 0 (by decide)) sh_0 (by decide) rfl rfl ?_
                    obtain ⟨q118, h119, h⟩ := Option.bind_eq_some_iff.mp h
                    refine q_callVi (as := []) (c := 12) dX11_count_128 ml_X11_168 rfl rfl (hL 12 (by decide)) sh_12 rfl rfl (Nat.le_of_ble_eq_true rfl) (History_marksMade_ok hL (d + 2) _ _ h119) rfl ?_
                    cases h
                    exact q_ireturn dX11_count_131 rfl hQ
                  · rw [if_neg e3743] at h
                    by_cases e3744 : a1 = 13
                    · rw [if_pos e3744] at h
                      refine q_tsw (tgt := 154) dX11_count_21 (qRb_R c115) (by decide) (fun g => absurd g (by rw [e3744]; decide)) (fun _ _ => ⟨111, 132, by rw [e3744]; rfl, by decide, ?_⟩)
                      refine q_aload_n dX11_count_132 rfl rfl ?_
                      refine q_getI dX11_count_133 fl_X11_114 (hL 0 (by decide)) sh_0 (by decide) rfl rfl ?_
                      cases h
                      exact q_ireturn dX11_count_136 rfl hQ
                    · rw [if_neg e3744] at h
                      by_cases e3745 : a1 = 14
                      · rw [if_pos e3745] at h
                        refine q_tsw (tgt := 154) dX11_count_21 (qRb_R c115) (by decide) (fun g => absurd g (by rw [e3745]; decide)) (fun _ _ => ⟨116, 137, by rw [e3745]; rfl, by decide, ?_⟩)
                        refine q_aload_n dX11_count_137 rfl rfl ?_
                        obtain ⟨q120, h121, h⟩ := Option.bind_eq_some_iff.mp h
                        refine q_callVi (as := []) (c := 0) dX11_count_138 ml_X11_171 rfl rfl (hL 0 (by decide)) sh_0 rfl rfl (Nat.le_of_ble_eq_true rfl) (C_costOfAll_ok hL d _ _ h121) rfl ?_
                        cases h
                        exact q_ireturn dX11_count_141 rfl hQ
                      · rw [if_neg e3745] at h
                        by_cases e3746 : a1 = 15
                        · rw [if_pos e3746] at h
                          refine q_tsw (tgt := 154) dX11_count_21 (qRb_R c115) (by decide) (fun g => absurd g (by rw [e3746]; decide)) (fun _ _ => ⟨121, 142, by rw [e3746]; rfl, by decide, ?_⟩)
                          refine q_aload_n dX11_count_142 rfl rfl ?_
                          refine q_getA dX11_count_143 fl_X11_49 (hL 0 (by decide)) sh_0 (by decide) rfl rfl ?_
                          refine q_iconst dX11_count_146 rfl rfl ?_
                          refine q_sipush dX11_count_147 (by decide) rfl ?_
                          obtain ⟨q122, h123, h⟩ := Option.bind_eq_some_iff.mp h
                          refine q_callVi (as := [qi 0, qi 336]) (c := 6) dX11_count_150 ml_X11_174 rfl rfl (hL 6 (by decide)) sh_6 rfl rfl (Nat.le_of_ble_eq_true rfl) (Stays_busyIn_ok hL (d + 3) 0 336 _ _ h123) rfl ?_
                          cases h
                          exact q_ireturn dX11_count_153 rfl hQ
                        · rw [if_neg e3746] at h
                          refine q_tsw (tgt := 154) dX11_count_21 (qRb_R c115) (by decide) (fun _ => ?_) (fun g1 g2 => absurd g1 (by omega))
                          refine q_iconst dX11_count_154 rfl rfl ?_
                          cases h
                          exact q_ireturn dX11_count_155 rfl hQ
    · rw [if_neg (show ¬ (6 ≤ a1) from g)] at h
      refine q_aload_n dX11_count_10 rfl rfl ?_
      refine q_getA dX11_count_11 fl_X11_16 (hL 0 (by decide)) sh_0 (by decide) rfl rfl ?_
      refine q_getA dX11_count_14 fl_X11_146 (hL 2 (by decide)) sh_2 (by decide) rfl rfl ?_
      refine q_iload_n dX11_count_17 rfl rfl ?_
      obtain ⟨c124, h⟩ := qk_some h
      refine q_iaload dX11_count_18 (hL 15 (by decide)) sh_15 (qIx_0 c124) (qIx_1 c124) rfl ?_
      cases h
      exact q_ireturn dX11_count_19 rfl hQ
set_option maxRecDepth 20000 in
theorem C_isMetre_ok {X : qX} (hL : ∀ c, c < 93 → c ∈ qLs X) (d : Nat) (a1 : Int) (S : qSto) (o : (Int × qSto)) (h : C_isMetre a1 S = some o) (Q : Option qV → qSto → Prop) (hQ : Q (some (qi o.1)) o.2) : qC X d yX11_isMetre cX11_isMetre 2 (some .boolean) [qr 0, qi a1] S Q := by
  refine q_entry (lv := [(0, qr 0), (1, qi a1)]) pn_X11 (Nat.le_of_ble_eq_true rfl) rfl ?_
  unfold C_isMetre at h
  refine q_iload_n dX11_isMetre_0 rfl rfl ?_
  obtain ⟨c125, h⟩ := qk_some h
  refine q_if_lt (tgt := 21) dX11_isMetre_1 (by decide) rfl (qRb_R c125)  (fun g => ?_) (fun g => ?_)
  · rw [if_pos (show a1 < 0 from g)] at h
    refine q_iconst dX11_isMetre_21 rfl rfl ?_
    cases h
    exact q_zreturn dX11_isMetre_22 rfl (by decide) hQ
  · rw [if_neg (show ¬ (a1 < 0) from g)] at h
    refine q_iload_n dX11_isMetre_4 rfl rfl ?_
    refine q_aload_n dX11_isMetre_5 rfl rfl ?_
    refine q_getA dX11_isMetre_6 fl_X11_16 (hL 0 (by decide)) sh_0 (by decide) rfl rfl ?_
    refine q_getA dX11_isMetre_9 fl_X11_146 (hL 2 (by decide)) sh_2 (by decide) rfl rfl ?_
    refine q_iconst dX11_isMetre_12 rfl rfl ?_
    refine q_iaload dX11_isMetre_13 (hL 15 (by decide)) sh_15 (by decide) (by decide) rfl ?_
    obtain ⟨c126, h⟩ := qk_some h
    obtain ⟨c127, h⟩ := qk_some h
    refine q_icmp_ge (tgt := 21) dX11_isMetre_14 (by decide) rfl (qRb_R c126) (qRb_R c127) (fun g => ?_) (fun g => ?_)
    · rw [if_pos (show (S 15 0) ≤ a1 from g)] at h
      refine q_iconst dX11_isMetre_21 rfl rfl ?_
      cases h
      exact q_zreturn dX11_isMetre_22 rfl (by decide) hQ
    · rw [if_neg (show ¬ ((S 15 0) ≤ a1) from g)] at h
      refine q_iconst dX11_isMetre_17 rfl rfl ?_
      refine q_goto (pc' := 22) dX11_isMetre_18 (by decide) ?_
      cases h
      exact q_zreturn dX11_isMetre_22 rfl (by decide) hQ
set_option maxRecDepth 20000 in
theorem Told_depthOf_L8_ok {X : qX} (hL : ∀ c, c < 93 → c ∈ qLs X) (d : Nat) {Q : Option qV → qSto → Prop} : ∀ (n : Nat) (x1 : Int) (x2 : Int) (x3 : Int) (x4 : Int) (S : qSto) (o : (Int × qSto)), Told_depthOf_L8 n x1 x2 x3 x4 S = some o → (qW X d yX8_depthOf cX8_depthOf 5 (some .int) 61 [(3, qi o.1)] [] o.2 Q) → qW X d yX8_depthOf cX8_depthOf 5 (some .int) 8 [(0, qr 2), (1, qi x1), (2, qi x2), (3, qi x3), (4, qi x4)] [] S Q := by
  intro n
  induction n with
  | zero =>
    intro x1 x2 x3 x4 S o h
    simp [Told_depthOf_L8] at h
  | succ n ih =>
    intro x1 x2 x3 x4 S o h hE
    rw [Told_depthOf_L8] at h
    refine q_iload dX8_depthOf_8 rfl rfl ?_
    refine q_aload_n dX8_depthOf_10 rfl rfl ?_
    refine q_getI dX8_depthOf_11 fl_X8_55 (hL 2 (by decide)) sh_2 (by decide) rfl rfl ?_
    obtain ⟨c131, h⟩ := qk_some h
    obtain ⟨c132, h⟩ := qk_some h
    refine q_icmp_ge (tgt := 61) dX8_depthOf_14 (by decide) rfl (qRb_R c131) (qRb_R c132) (fun g => ?_) (fun g => ?_)
    · rw [if_pos (show (S 2 2) ≤ x4 from g)] at h
      cases h
      exact q_pick [3] rfl (hE)
    · rw [if_neg (show ¬ ((S 2 2) ≤ x4) from g)] at h
      refine q_aload_n dX8_depthOf_17 rfl rfl ?_
      refine q_getA dX8_depthOf_18 fl_X8_15 (hL 2 (by decide)) sh_2 (by decide) rfl rfl ?_
      refine q_iload dX8_depthOf_21 rfl rfl ?_
      obtain ⟨c133, h⟩ := qk_some h
      refine q_iaload dX8_depthOf_23 (hL 16 (by decide)) sh_16 (qIx_0 c133) (qIx_1 c133) rfl ?_
      refine q_iload_n dX8_depthOf_24 rfl rfl ?_
      refine q_jn (G := fun (t141 : (Int × Int)) => qW X d yX8_depthOf cX8_depthOf 5 (some .int) 55 [(0, qr 2), (1, qi x1), (2, qi t141.1), (3, qi t141.2), (4, qi x4)] [] S Q) h (fun t141 h => ?_) (fun t141 h hk3747 => ?_)
      · try dsimp only at h
        refine q_iinc (lv' := [(4, qi (x4 + 1)), (0, qr 2), (1, qi x1), (2, qi t141.1), (3, qi t141.2)]) dX8_depthOf_55 (by decide) rfl rfl rfl ?_
        refine q_goto (pc' := 8) dX8_depthOf_58 (by decide) ?_
        exact q_pick [1, 2, 3, 4, 0] rfl (ih x1 t141.1 t141.2 (x4 + 1) _ _ h hE)
      · skip
        obtain ⟨c134, h⟩ := qk_some h
        obtain ⟨c135, h⟩ := qk_some h
        refine q_icmp_gt (tgt := 55) dX8_depthOf_25 (by decide) rfl (qRb_R c134) (qRb_R c135) (fun g => ?_) (fun g => ?_)
        · rw [if_pos (show x1 < (S 16 (Int.toNat x4)) from g)] at h
          cases h
          exact q_pick [0, 1, 2, 3, 4] rfl hk3747
        · rw [if_neg (show ¬ (x1 < (S 16 (Int.toNat x4))) from g)] at h
          refine q_aload_n dX8_depthOf_28 rfl rfl ?_
          refine q_getA dX8_depthOf_29 fl_X8_15 (hL 2 (by decide)) sh_2 (by decide) rfl rfl ?_
          refine q_iload dX8_depthOf_32 rfl rfl ?_
          obtain ⟨c136, h⟩ := qk_some h
          refine q_iaload dX8_depthOf_34 (hL 16 (by decide)) sh_16 (qIx_0 c136) (qIx_1 c136) rfl ?_
          refine q_iload_n dX8_depthOf_35 rfl rfl ?_
          obtain ⟨c137, h⟩ := qk_some h
          obtain ⟨c138, h⟩ := qk_some h
          refine q_icmp_le (tgt := 55) dX8_depthOf_36 (by decide) rfl (qRb_R c137) (qRb_R c138) (fun g => ?_) (fun g => ?_)
          · rw [if_pos (show (S 16 (Int.toNat x4)) ≤ x2 from g)] at h
            cases h
            exact q_pick [0, 1, 2, 3, 4] rfl hk3747
          · rw [if_neg (show ¬ ((S 16 (Int.toNat x4)) ≤ x2) from g)] at h
            refine q_aload_n dX8_depthOf_39 rfl rfl ?_
            refine q_getA dX8_depthOf_40 fl_X8_15 (hL 2 (by decide)) sh_2 (by decide) rfl rfl ?_
            refine q_iload dX8_depthOf_43 rfl rfl ?_
            obtain ⟨c139, h⟩ := qk_some h
            refine q_iaload dX8_depthOf_45 (hL 16 (by decide)) sh_16 (qIx_0 c139) (qIx_1 c139) rfl ?_
            refine q_istore_n (lv' := [(2, qi (S 16 (Int.toNat x4))), (0, qr 2), (1, qi x1), (3, qi x3), (4, qi x4)]) dX8_depthOf_46 (by decide) rfl rfl ?_
            refine q_aload_n dX8_depthOf_47 rfl rfl ?_
            refine q_getA dX8_depthOf_48 fl_X8_18 (hL 2 (by decide)) sh_2 (by decide) rfl rfl ?_
            refine q_iload dX8_depthOf_51 rfl rfl ?_
            obtain ⟨c140, h⟩ := qk_some h
            refine q_iaload dX8_depthOf_53 (hL 17 (by decide)) sh_17 (qIx_0 c140) (qIx_1 c140) rfl ?_
            refine q_istore_n (lv' := [(3, qi (S 17 (Int.toNat x4))), (2, qi (S 16 (Int.toNat x4))), (0, qr 2), (1, qi x1), (4, qi x4)]) dX8_depthOf_54 (by decide) rfl rfl ?_
            cases h
            exact q_pick [2, 3, 1, 0, 4] rfl hk3747
set_option maxRecDepth 20000 in
theorem Told_depthOf_ok {X : qX} (hL : ∀ c, c < 93 → c ∈ qLs X) (d : Nat) (a1 : Int) (S : qSto) (o : (Int × qSto)) (h : Told_depthOf a1 S = some o) (Q : Option qV → qSto → Prop) (hQ : Q (some (qi o.1)) o.2) : qC X d yX8_depthOf cX8_depthOf 5 (some .int) [qr 2, qi a1] S Q := by
  refine q_entry (lv := [(0, qr 2), (1, qi a1)]) pn_X8 (Nat.le_of_ble_eq_true rfl) rfl ?_
  unfold Told_depthOf at h
  refine q_iconst dX8_depthOf_0 rfl rfl ?_
  refine q_istore_n (lv' := [(2, qi (-1)), (0, qr 2), (1, qi a1)]) dX8_depthOf_1 (by decide) rfl rfl ?_
  refine q_bipush dX8_depthOf_2 (by decide) rfl ?_
  refine q_istore_n (lv' := [(3, qi 100), (2, qi (-1)), (0, qr 2), (1, qi a1)]) dX8_depthOf_4 (by decide) rfl rfl ?_
  refine q_iconst dX8_depthOf_5 rfl rfl ?_
  refine q_istore (lv' := [(4, qi 0), (3, qi 100), (2, qi (-1)), (0, qr 2), (1, qi a1)]) dX8_depthOf_6 (by decide) rfl rfl ?_
  obtain ⟨q142, h143, h⟩ := Option.bind_eq_some_iff.mp h
  refine q_pick [3, 4, 2, 1, 0] rfl (Told_depthOf_L8_ok hL d qF a1 (-1) 100 0 _ _ h143 ?_)
  refine q_iload_n dX8_depthOf_61 rfl rfl ?_
  cases h
  exact q_ireturn dX8_depthOf_62 rfl hQ
set_option maxRecDepth 20000 in
theorem C_depth_ok {X : qX} (hL : ∀ c, c < 93 → c ∈ qLs X) (d : Nat) (a1 : Int) (S : qSto) (o : (Int × qSto)) (h : C_depth a1 S = some o) (Q : Option qV → qSto → Prop) (hQ : Q (some (qi o.1)) o.2) : qC X (d + 1) yX11_depth cX11_depth 2 (some .int) [qr 0, qi a1] S Q := by
  refine q_entry (lv := [(0, qr 0), (1, qi a1)]) pn_X11 (Nat.le_of_ble_eq_true rfl) rfl ?_
  unfold C_depth at h
  refine q_aload_n dX11_depth_0 rfl rfl ?_
  refine q_iload_n dX11_depth_1 rfl rfl ?_
  obtain ⟨q128, h129, h⟩ := Option.bind_eq_some_iff.mp h
  refine q_callVi (as := [qi a1]) (c := 0) dX11_depth_2 ml_X11_185 rfl rfl (hL 0 (by decide)) sh_0 rfl rfl (Nat.le_of_ble_eq_true rfl) (C_isMetre_ok hL d a1 _ _ h129) rfl ?_
  obtain ⟨c130, h⟩ := qk_some h
  refine q_if_eq (tgt := 19) dX11_depth_5 (by decide) rfl (qRb_R c130)  (fun g => ?_) (fun g => ?_)
  · rw [if_pos (show q128.1 = 0 from g)] at h
    refine q_iconst dX11_depth_19 rfl rfl ?_
    cases h
    exact q_ireturn dX11_depth_20 rfl hQ
  · rw [if_neg (show ¬ (q128.1 = 0) from g)] at h
    refine q_aload_n dX11_depth_8 rfl rfl ?_
    refine q_getA dX11_depth_9 fl_X11_16 (hL 0 (by decide)) sh_0 (by decide) rfl rfl ?_
    refine q_iload_n dX11_depth_12 rfl rfl ?_
    obtain ⟨q144, h145, h⟩ := Option.bind_eq_some_iff.mp h
    refine q_callVi (as := [qi a1]) (c := 2) dX11_depth_13 ml_X11_188 rfl rfl (hL 2 (by decide)) sh_2 rfl rfl (Nat.le_of_ble_eq_true rfl) (Told_depthOf_ok hL d a1 _ _ h145) rfl ?_
    refine q_goto (pc' := 20) dX11_depth_16 (by decide) ?_
    cases h
    exact q_ireturn dX11_depth_20 rfl hQ
set_option maxRecDepth 20000 in
theorem Told_shallowest_L9_ok {X : qX} (hL : ∀ c, c < 93 → c ∈ qLs X) (d : Nat) {Q : Option qV → qSto → Prop} : ∀ (n : Nat) (x1 : Int) (x2 : Int) (x3 : Int) (x4 : Int) (S : qSto) (o : (Int × qSto)), Told_shallowest_L9 n x1 x2 x3 x4 S = some o → (qW X (d + 1) yX8_shallowest cX8_shallowest 5 (some .int) 58 [(3, qi o.1)] [] o.2 Q) → qW X (d + 1) yX8_shallowest cX8_shallowest 5 (some .int) 9 [(0, qr 2), (1, qi x1), (2, qi x2), (3, qi x3), (4, qi x4)] [] S Q := by
  intro n
  induction n with
  | zero =>
    intro x1 x2 x3 x4 S o h
    simp [Told_shallowest_L9] at h
  | succ n ih =>
    intro x1 x2 x3 x4 S o h hE
    rw [Told_shallowest_L9] at h
    refine q_iload dX8_shallowest_9 rfl rfl ?_
    refine q_aload_n dX8_shallowest_11 rfl rfl ?_
    refine q_getI dX8_shallowest_12 fl_X8_55 (hL 2 (by decide)) sh_2 (by decide) rfl rfl ?_
    obtain ⟨c156, h⟩ := qk_some h
    obtain ⟨c157, h⟩ := qk_some h
    refine q_icmp_ge (tgt := 58) dX8_shallowest_15 (by decide) rfl (qRb_R c156) (qRb_R c157) (fun g => ?_) (fun g => ?_)
    · rw [if_pos (show (S 2 2) ≤ x4 from g)] at h
      cases h
      exact q_pick [3] rfl (hE)
    · rw [if_neg (show ¬ ((S 2 2) ≤ x4) from g)] at h
      refine q_aload_n dX8_shallowest_18 rfl rfl ?_
      refine q_getA dX8_shallowest_19 fl_X8_15 (hL 2 (by decide)) sh_2 (by decide) rfl rfl ?_
      refine q_iload dX8_shallowest_22 rfl rfl ?_
      obtain ⟨c158, h⟩ := qk_some h
      refine q_iaload dX8_shallowest_24 (hL 16 (by decide)) sh_16 (qIx_0 c158) (qIx_1 c158) rfl ?_
      refine q_iload_n dX8_shallowest_25 rfl rfl ?_
      refine q_jn (G := fun (t167 : (Int × qSto)) => qW X (d + 1) yX8_shallowest cX8_shallowest 5 (some .int) 52 [(0, qr 2), (1, qi x1), (2, qi x2), (3, qi t167.1), (4, qi x4)] [] t167.2 Q) h (fun t167 h => ?_) (fun t167 h hk3748 => ?_)
      · try dsimp only at h
        refine q_iinc (lv' := [(4, qi (x4 + 1)), (0, qr 2), (1, qi x1), (2, qi x2), (3, qi t167.1)]) dX8_shallowest_52 (by decide) rfl rfl rfl ?_
        refine q_goto (pc' := 9) dX8_shallowest_55 (by decide) ?_
        exact q_pick [1, 2, 3, 4, 0] rfl (ih x1 x2 t167.1 (x4 + 1) _ _ h hE)
      · skip
        obtain ⟨c159, h⟩ := qk_some h
        obtain ⟨c160, h⟩ := qk_some h
        refine q_icmp_le (tgt := 52) dX8_shallowest_26 (by decide) rfl (qRb_R c159) (qRb_R c160) (fun g => ?_) (fun g => ?_)
        · rw [if_pos (show (S 16 (Int.toNat x4)) ≤ x1 from g)] at h
          cases h
          exact q_pick [0, 1, 2, 3, 4] rfl hk3748
        · rw [if_neg (show ¬ ((S 16 (Int.toNat x4)) ≤ x1) from g)] at h
          refine q_aload_n dX8_shallowest_29 rfl rfl ?_
          refine q_getA dX8_shallowest_30 fl_X8_15 (hL 2 (by decide)) sh_2 (by decide) rfl rfl ?_
          refine q_iload dX8_shallowest_33 rfl rfl ?_
          obtain ⟨c161, h⟩ := qk_some h
          refine q_iaload dX8_shallowest_35 (hL 16 (by decide)) sh_16 (qIx_0 c161) (qIx_1 c161) rfl ?_
          refine q_iload_n dX8_shallowest_36 rfl rfl ?_
          obtain ⟨c162, h⟩ := qk_some h
          obtain ⟨c163, h⟩ := qk_some h
          refine q_icmp_gt (tgt := 52) dX8_shallowest_37 (by decide) rfl (qRb_R c162) (qRb_R c163) (fun g => ?_) (fun g => ?_)
          · rw [if_pos (show x2 < (S 16 (Int.toNat x4)) from g)] at h
            cases h
            exact q_pick [0, 1, 2, 3, 4] rfl hk3748
          · rw [if_neg (show ¬ (x2 < (S 16 (Int.toNat x4))) from g)] at h
            refine q_iload_n dX8_shallowest_40 rfl rfl ?_
            refine q_aload_n dX8_shallowest_41 rfl rfl ?_
            refine q_getA dX8_shallowest_42 fl_X8_18 (hL 2 (by decide)) sh_2 (by decide) rfl rfl ?_
            refine q_iload dX8_shallowest_45 rfl rfl ?_
            obtain ⟨c164, h⟩ := qk_some h
            refine q_iaload dX8_shallowest_47 (hL 17 (by decide)) sh_17 (qIx_0 c164) (qIx_1 c164) rfl ?_
            obtain ⟨q165, h166, h⟩ := Option.bind_eq_some_iff.mp h
            refine q_callSi (as := [qi x3, qi (S 17 (Int.toNat x4))]) dX8_shallowest_48 ml_X8_85 rfl rfl (Nat.le_of_ble_eq_true rfl) (Jm_min_ok hL d x3 (S 17 (Int.toNat x4)) _ _ h166) rfl ?_
            refine q_istore_n (lv' := [(3, qi q165.1), (0, qr 2), (1, qi x1), (2, qi x2), (4, qi x4)]) dX8_shallowest_51 (by decide) rfl rfl ?_
            cases h
            exact q_pick [1, 2, 3, 0, 4] rfl hk3748
set_option maxRecDepth 20000 in
theorem Told_shallowest_ok {X : qX} (hL : ∀ c, c < 93 → c ∈ qLs X) (d : Nat) (a1 : Int) (a2 : Int) (S : qSto) (o : (Int × qSto)) (h : Told_shallowest a1 a2 S = some o) (Q : Option qV → qSto → Prop) (hQ : Q (some (qi o.1)) o.2) : qC X (d + 1) yX8_shallowest cX8_shallowest 5 (some .int) [qr 2, qi a1, qi a2] S Q := by
  refine q_entry (lv := [(0, qr 2), (1, qi a1), (2, qi a2)]) pn_X8 (Nat.le_of_ble_eq_true rfl) rfl ?_
  unfold Told_shallowest at h
  refine q_aload_n dX8_shallowest_0 rfl rfl ?_
  refine q_iload_n dX8_shallowest_1 rfl rfl ?_
  obtain ⟨q154, h155, h⟩ := Option.bind_eq_some_iff.mp h
  refine q_callVi (as := [qi a1]) (c := 2) dX8_shallowest_2 ml_X8_81 rfl rfl (hL 2 (by decide)) sh_2 rfl rfl (Nat.le_of_ble_eq_true rfl) (Told_depthOf_ok hL d a1 _ _ h155) rfl ?_
  refine q_istore_n (lv' := [(3, qi q154.1), (0, qr 2), (1, qi a1), (2, qi a2)]) dX8_shallowest_5 (by decide) rfl rfl ?_
  refine q_iconst dX8_shallowest_6 rfl rfl ?_
  refine q_istore (lv' := [(4, qi 0), (3, qi q154.1), (0, qr 2), (1, qi a1), (2, qi a2)]) dX8_shallowest_7 (by decide) rfl rfl ?_
  obtain ⟨q168, h169, h⟩ := Option.bind_eq_some_iff.mp h
  refine q_pick [2, 3, 4, 1, 0] rfl (Told_shallowest_L9_ok hL d qF a1 a2 q154.1 0 _ _ h169 ?_)
  refine q_iload_n dX8_shallowest_58 rfl rfl ?_
  cases h
  exact q_ireturn dX8_shallowest_59 rfl hQ
set_option maxRecDepth 20000 in
theorem C_shallow_ok {X : qX} (hL : ∀ c, c < 93 → c ∈ qLs X) (d : Nat) (a1 : Int) (a2 : Int) (S : qSto) (o : (Int × qSto)) (h : C_shallow a1 a2 S = some o) (Q : Option qV → qSto → Prop) (hQ : Q (some (qi o.1)) o.2) : qC X (d + 2) yX11_shallow cX11_shallow 3 (some .int) [qr 0, qi a1, qi a2] S Q := by
  refine q_entry (lv := [(0, qr 0), (1, qi a1), (2, qi a2)]) pn_X11 (Nat.le_of_ble_eq_true rfl) rfl ?_
  unfold C_shallow at h
  refine q_aload_n dX11_shallow_0 rfl rfl ?_
  refine q_iload_n dX11_shallow_1 rfl rfl ?_
  obtain ⟨q146, h147, h⟩ := Option.bind_eq_some_iff.mp h
  refine q_callVi (as := [qi a1]) (c := 0) dX11_shallow_2 ml_X11_185 rfl rfl (hL 0 (by decide)) sh_0 rfl rfl (Nat.le_of_ble_eq_true rfl) (C_isMetre_ok hL (d + 1) a1 _ _ h147) rfl ?_
  obtain ⟨c148, h⟩ := qk_some h
  refine q_if_eq (tgt := 21) dX11_shallow_5 (by decide) rfl (qRb_R c148)  (fun g => ?_) (fun g => ?_)
  · rw [if_pos (show q146.1 = 0 from g)] at h
    refine q_iconst dX11_shallow_21 rfl rfl ?_
    cases h
    exact q_ireturn dX11_shallow_22 rfl hQ
  · rw [if_neg (show ¬ (q146.1 = 0) from g)] at h
    refine q_aload_n dX11_shallow_8 rfl rfl ?_
    refine q_iload_n dX11_shallow_9 rfl rfl ?_
    obtain ⟨q149, h150, h⟩ := Option.bind_eq_some_iff.mp h
    refine q_callVi (as := [qi a2]) (c := 0) dX11_shallow_10 ml_X11_185 rfl rfl (hL 0 (by decide)) sh_0 rfl rfl (Nat.le_of_ble_eq_true rfl) (C_isMetre_ok hL (d + 1) a2 _ _ h150) rfl ?_
    obtain ⟨c151, h⟩ := qk_some h
    refine q_if_eq (tgt := 21) dX11_shallow_13 (by decide) rfl (qRb_R c151)  (fun g => ?_) (fun g => ?_)
    · rw [if_pos (show q149.1 = 0 from g)] at h
      refine q_iconst dX11_shallow_21 rfl rfl ?_
      cases h
      exact q_ireturn dX11_shallow_22 rfl hQ
    · rw [if_neg (show ¬ (q149.1 = 0) from g)] at h
      refine q_iload_n dX11_shallow_16 rfl rfl ?_
      refine q_iload_n dX11_shallow_17 rfl rfl ?_
      obtain ⟨c152, h⟩ := qk_some h
      obtain ⟨c153, h⟩ := qk_some h
      refine q_icmp_ge (tgt := 23) dX11_shallow_18 (by decide) rfl (qRb_R c152) (qRb_R c153) (fun g => ?_) (fun g => ?_)
      · rw [if_pos (show a1 ≤ a2 from g)] at h
        refine q_aload_n dX11_shallow_23 rfl rfl ?_
        refine q_getA dX11_shallow_24 fl_X11_16 (hL 0 (by decide)) sh_0 (by decide) rfl rfl ?_
        refine q_iload_n dX11_shallow_27 rfl rfl ?_
        refine q_iload_n dX11_shallow_28 rfl rfl ?_
        obtain ⟨q170, h171, h⟩ := Option.bind_eq_some_iff.mp h
        refine q_callVi (as := [qi a1, qi a2]) (c := 2) dX11_shallow_29 ml_X11_191 rfl rfl (hL 2 (by decide)) sh_2 rfl rfl (Nat.le_of_ble_eq_true rfl) (Told_shallowest_ok hL d a1 a2 _ _ h171) rfl ?_
        cases h
        exact q_ireturn dX11_shallow_32 rfl hQ
      · rw [if_neg (show ¬ (a1 ≤ a2) from g)] at h
        refine q_iconst dX11_shallow_21 rfl rfl ?_
        cases h
        exact q_ireturn dX11_shallow_22 rfl hQ
set_option maxRecDepth 20000 in
theorem C_isSlot_ok {X : qX} (hL : ∀ c, c < 93 → c ∈ qLs X) (d : Nat) (a0 : Int) (S : qSto) (o : (Int × qSto)) (h : C_isSlot a0 S = some o) (Q : Option qV → qSto → Prop) (hQ : Q (some (qi o.1)) o.2) : qC X d yX11_isSlot cX11_isSlot 1 (some .boolean) [qi a0] S Q := by
  refine q_entry (lv := [(0, qi a0)]) pn_X11 (Nat.le_of_ble_eq_true rfl) rfl ?_
  unfold C_isSlot at h
  refine q_iload_n dX11_isSlot_0 rfl rfl ?_
  obtain ⟨c172, h⟩ := qk_some h
  refine q_if_lt (tgt := 15) dX11_isSlot_1 (by decide) rfl (qRb_R c172)  (fun g => ?_) (fun g => ?_)
  · rw [if_pos (show a0 < 0 from g)] at h
    refine q_iconst dX11_isSlot_15 rfl rfl ?_
    cases h
    exact q_zreturn dX11_isSlot_16 rfl (by decide) hQ
  · rw [if_neg (show ¬ (a0 < 0) from g)] at h
    refine q_iload_n dX11_isSlot_4 rfl rfl ?_
    refine q_sipush dX11_isSlot_5 (by decide) rfl ?_
    obtain ⟨c173, h⟩ := qk_some h
    refine q_icmp_ge (tgt := 15) dX11_isSlot_8 (by decide) rfl (qRb_R c173) ⟨by decide, by decide⟩ (fun g => ?_) (fun g => ?_)
    · rw [if_pos (show 336 ≤ a0 from g)] at h
      refine q_iconst dX11_isSlot_15 rfl rfl ?_
      cases h
      exact q_zreturn dX11_isSlot_16 rfl (by decide) hQ
    · rw [if_neg (show ¬ (336 ≤ a0) from g)] at h
      refine q_iconst dX11_isSlot_11 rfl rfl ?_
      refine q_goto (pc' := 16) dX11_isSlot_12 (by decide) ?_
      cases h
      exact q_zreturn dX11_isSlot_16 rfl (by decide) hQ
set_option maxRecDepth 20000 in
theorem C_level_ok {X : qX} (hL : ∀ c, c < 93 → c ∈ qLs X) (d : Nat) (a1 : Int) (S : qSto) (o : (Int × qSto)) (h : C_level a1 S = some o) (Q : Option qV → qSto → Prop) (hQ : Q (some (qi o.1)) o.2) : qC X (d + 1) yX11_level cX11_level 2 (some .int) [qr 0, qi a1] S Q := by
  refine q_entry (lv := [(0, qr 0), (1, qi a1)]) pn_X11 (Nat.le_of_ble_eq_true rfl) rfl ?_
  unfold C_level at h
  refine q_iload_n dX11_level_0 rfl rfl ?_
  obtain ⟨q174, h175, h⟩ := Option.bind_eq_some_iff.mp h
  refine q_callSi (as := [qi a1]) dX11_level_1 ml_X11_194 rfl rfl (Nat.le_of_ble_eq_true rfl) (C_isSlot_ok hL d a1 _ _ h175) rfl ?_
  obtain ⟨c176, h⟩ := qk_some h
  refine q_if_eq (tgt := 19) dX11_level_4 (by decide) rfl (qRb_R c176)  (fun g => ?_) (fun g => ?_)
  · rw [if_pos (show q174.1 = 0 from g)] at h
    refine q_iconst dX11_level_19 rfl rfl ?_
    cases h
    exact q_ireturn dX11_level_20 rfl hQ
  · rw [if_neg (show ¬ (q174.1 = 0) from g)] at h
    refine q_aload_n dX11_level_7 rfl rfl ?_
    refine q_getA dX11_level_8 fl_X11_40 (hL 0 (by decide)) sh_0 (by decide) rfl rfl ?_
    refine q_getA dX11_level_11 fl_X11_197 (hL 5 (by decide)) sh_5 (by decide) rfl rfl ?_
    refine q_iload_n dX11_level_14 rfl rfl ?_
    obtain ⟨c177, h⟩ := qk_some h
    refine q_iaload dX11_level_15 (hL 36 (by decide)) sh_36 (qIx_0 c177) (qIx_1 c177) rfl ?_
    refine q_goto (pc' := 20) dX11_level_16 (by decide) ?_
    cases h
    exact q_ireturn dX11_level_20 rfl hQ
set_option maxRecDepth 20000 in
theorem C_isShift_ok {X : qX} (hL : ∀ c, c < 93 → c ∈ qLs X) (d : Nat) (a0 : Int) (a1 : Int) (S : qSto) (o : (Int × qSto)) (h : C_isShift a0 a1 S = some o) (Q : Option qV → qSto → Prop) (hQ : Q (some (qi o.1)) o.2) : qC X d yX11_isShift cX11_isShift 2 (some .boolean) [qi a0, qi a1] S Q := by
  refine q_entry (lv := [(0, qi a0), (1, qi a1)]) pn_X11 (Nat.le_of_ble_eq_true rfl) rfl ?_
  unfold C_isShift at h
  refine q_iload_n dX11_isShift_0 rfl rfl ?_
  obtain ⟨c178, h⟩ := qk_some h
  refine q_if_lt (tgt := 23) dX11_isShift_1 (by decide) rfl (qRb_R c178)  (fun g => ?_) (fun g => ?_)
  · rw [if_pos (show a0 < 0 from g)] at h
    refine q_iconst dX11_isShift_23 rfl rfl ?_
    cases h
    exact q_zreturn dX11_isShift_24 rfl (by decide) hQ
  · rw [if_neg (show ¬ (a0 < 0) from g)] at h
    refine q_iload_n dX11_isShift_4 rfl rfl ?_
    refine q_bipush dX11_isShift_5 (by decide) rfl ?_
    obtain ⟨c179, h⟩ := qk_some h
    refine q_icmp_ge (tgt := 23) dX11_isShift_7 (by decide) rfl (qRb_R c179) ⟨by decide, by decide⟩ (fun g => ?_) (fun g => ?_)
    · rw [if_pos (show 7 ≤ a0 from g)] at h
      refine q_iconst dX11_isShift_23 rfl rfl ?_
      cases h
      exact q_zreturn dX11_isShift_24 rfl (by decide) hQ
    · rw [if_neg (show ¬ (7 ≤ a0) from g)] at h
      refine q_iload_n dX11_isShift_10 rfl rfl ?_
      obtain ⟨c180, h⟩ := qk_some h
      refine q_if_lt (tgt := 23) dX11_isShift_11 (by decide) rfl (qRb_R c180)  (fun g => ?_) (fun g => ?_)
      · rw [if_pos (show a1 < 0 from g)] at h
        refine q_iconst dX11_isShift_23 rfl rfl ?_
        cases h
        exact q_zreturn dX11_isShift_24 rfl (by decide) hQ
      · rw [if_neg (show ¬ (a1 < 0) from g)] at h
        refine q_iload_n dX11_isShift_14 rfl rfl ?_
        refine q_iconst dX11_isShift_15 rfl rfl ?_
        obtain ⟨c181, h⟩ := qk_some h
        refine q_icmp_ge (tgt := 23) dX11_isShift_16 (by decide) rfl (qRb_R c181) ⟨by decide, by decide⟩ (fun g => ?_) (fun g => ?_)
        · rw [if_pos (show 3 ≤ a1 from g)] at h
          refine q_iconst dX11_isShift_23 rfl rfl ?_
          cases h
          exact q_zreturn dX11_isShift_24 rfl (by decide) hQ
        · rw [if_neg (show ¬ (3 ≤ a1) from g)] at h
          refine q_iconst dX11_isShift_19 rfl rfl ?_
          refine q_goto (pc' := 24) dX11_isShift_20 (by decide) ?_
          cases h
          exact q_zreturn dX11_isShift_24 rfl (by decide) hQ
set_option maxRecDepth 20000 in
theorem Told_gangsIn_ok {X : qX} (hL : ∀ c, c < 93 → c ∈ qLs X) (d : Nat) (a1 : Int) (S : qSto) (o : (Int × qSto)) (h : Told_gangsIn a1 S = some o) (Q : Option qV → qSto → Prop) (hQ : Q (some (qi o.1)) o.2) : qC X d yX8_gangsIn cX8_gangsIn 2 (some .int) [qr 2, qi a1] S Q := by
  refine q_entry (lv := [(0, qr 2), (1, qi a1)]) pn_X8 (Nat.le_of_ble_eq_true rfl) rfl ?_
  unfold Told_gangsIn at h
  refine q_aload_n dX8_gangsIn_0 rfl rfl ?_
  refine q_getA dX8_gangsIn_1 fl_X8_33 (hL 2 (by decide)) sh_2 (by decide) rfl rfl ?_
  refine q_iload_n dX8_gangsIn_4 rfl rfl ?_
  obtain ⟨c185, h⟩ := qk_some h
  refine q_iaload dX8_gangsIn_5 (hL 22 (by decide)) sh_22 (qIx_0 c185) (qIx_1 c185) rfl ?_
  refine q_iconst dX8_gangsIn_6 rfl rfl ?_
  obtain ⟨c186, h⟩ := qk_some h
  refine q_icmp_ne (tgt := 17) dX8_gangsIn_7 (by decide) rfl (qRb_R c186) ⟨by decide, by decide⟩ (fun g => ?_) (fun g => ?_)
  · rw [if_neg (show ¬ ((S 22 (Int.toNat a1)) = (-1)) from g)] at h
    refine q_aload_n dX8_gangsIn_17 rfl rfl ?_
    refine q_getA dX8_gangsIn_18 fl_X8_33 (hL 2 (by decide)) sh_2 (by decide) rfl rfl ?_
    refine q_iload_n dX8_gangsIn_21 rfl rfl ?_
    obtain ⟨c187, h⟩ := qk_some h
    refine q_iaload dX8_gangsIn_22 (hL 22 (by decide)) sh_22 (qIx_0 c187) (qIx_1 c187) rfl ?_
    cases h
    exact q_ireturn dX8_gangsIn_23 rfl hQ
  · rw [if_pos (show (S 22 (Int.toNat a1)) = (-1) from g)] at h
    refine q_aload_n dX8_gangsIn_10 rfl rfl ?_
    refine q_getI dX8_gangsIn_11 fl_X8_58 (hL 2 (by decide)) sh_2 (by decide) rfl rfl ?_
    refine q_goto (pc' := 23) dX8_gangsIn_14 (by decide) ?_
    cases h
    exact q_ireturn dX8_gangsIn_23 rfl hQ
set_option maxRecDepth 20000 in
theorem C_gangs_ok {X : qX} (hL : ∀ c, c < 93 → c ∈ qLs X) (d : Nat) (a1 : Int) (a2 : Int) (S : qSto) (o : (Int × qSto)) (h : C_gangs a1 a2 S = some o) (Q : Option qV → qSto → Prop) (hQ : Q (some (qi o.1)) o.2) : qC X (d + 1) yX11_gangs cX11_gangs 3 (some .int) [qr 0, qi a1, qi a2] S Q := by
  refine q_entry (lv := [(0, qr 0), (1, qi a1), (2, qi a2)]) pn_X11 (Nat.le_of_ble_eq_true rfl) rfl ?_
  unfold C_gangs at h
  refine q_iload_n dX11_gangs_0 rfl rfl ?_
  refine q_iload_n dX11_gangs_1 rfl rfl ?_
  obtain ⟨q182, h183, h⟩ := Option.bind_eq_some_iff.mp h
  refine q_callSi (as := [qi a1, qi a2]) dX11_gangs_2 ml_X11_200 rfl rfl (Nat.le_of_ble_eq_true rfl) (C_isShift_ok hL d a1 a2 _ _ h183) rfl ?_
  obtain ⟨c184, h⟩ := qk_some h
  refine q_if_eq (tgt := 23) dX11_gangs_5 (by decide) rfl (qRb_R c184)  (fun g => ?_) (fun g => ?_)
  · rw [if_pos (show q182.1 = 0 from g)] at h
    refine q_iconst dX11_gangs_23 rfl rfl ?_
    cases h
    exact q_ireturn dX11_gangs_24 rfl hQ
  · rw [if_neg (show ¬ (q182.1 = 0) from g)] at h
    refine q_aload_n dX11_gangs_8 rfl rfl ?_
    refine q_getA dX11_gangs_9 fl_X11_16 (hL 0 (by decide)) sh_0 (by decide) rfl rfl ?_
    refine q_iload_n dX11_gangs_12 rfl rfl ?_
    refine q_iconst dX11_gangs_13 rfl rfl ?_
    refine q_imul dX11_gangs_14 rfl ?_
    refine q_iload_n dX11_gangs_15 rfl rfl ?_
    refine q_iadd dX11_gangs_16 rfl ?_
    obtain ⟨q188, h189, h⟩ := Option.bind_eq_some_iff.mp h
    refine q_callVi (as := [qi ((a1 * 3) + a2)]) (c := 2) dX11_gangs_17 ml_X11_204 rfl rfl (hL 2 (by decide)) sh_2 rfl rfl (Nat.le_of_ble_eq_true rfl) (Told_gangsIn_ok hL d ((a1 * 3) + a2) _ _ h189) rfl ?_
    refine q_goto (pc' := 24) dX11_gangs_20 (by decide) ?_
    cases h
    exact q_ireturn dX11_gangs_24 rfl hQ
set_option maxRecDepth 20000 in
theorem C_isCrane_ok {X : qX} (hL : ∀ c, c < 93 → c ∈ qLs X) (d : Nat) (a1 : Int) (S : qSto) (o : (Int × qSto)) (h : C_isCrane a1 S = some o) (Q : Option qV → qSto → Prop) (hQ : Q (some (qi o.1)) o.2) : qC X d yX11_isCrane cX11_isCrane 2 (some .boolean) [qr 0, qi a1] S Q := by
  refine q_entry (lv := [(0, qr 0), (1, qi a1)]) pn_X11 (Nat.le_of_ble_eq_true rfl) rfl ?_
  unfold C_isCrane at h
  refine q_iload_n dX11_isCrane_0 rfl rfl ?_
  obtain ⟨c190, h⟩ := qk_some h
  refine q_if_lt (tgt := 19) dX11_isCrane_1 (by decide) rfl (qRb_R c190)  (fun g => ?_) (fun g => ?_)
  · rw [if_pos (show a1 < 0 from g)] at h
    refine q_iconst dX11_isCrane_19 rfl rfl ?_
    cases h
    exact q_zreturn dX11_isCrane_20 rfl (by decide) hQ
  · rw [if_neg (show ¬ (a1 < 0) from g)] at h
    refine q_iload_n dX11_isCrane_4 rfl rfl ?_
    refine q_aload_n dX11_isCrane_5 rfl rfl ?_
    refine q_getA dX11_isCrane_6 fl_X11_16 (hL 0 (by decide)) sh_0 (by decide) rfl rfl ?_
    refine q_getI dX11_isCrane_9 fl_X11_152 (hL 2 (by decide)) sh_2 (by decide) rfl rfl ?_
    obtain ⟨c191, h⟩ := qk_some h
    obtain ⟨c192, h⟩ := qk_some h
    refine q_icmp_ge (tgt := 19) dX11_isCrane_12 (by decide) rfl (qRb_R c191) (qRb_R c192) (fun g => ?_) (fun g => ?_)
    · rw [if_pos (show (S 2 5) ≤ a1 from g)] at h
      refine q_iconst dX11_isCrane_19 rfl rfl ?_
      cases h
      exact q_zreturn dX11_isCrane_20 rfl (by decide) hQ
    · rw [if_neg (show ¬ ((S 2 5) ≤ a1) from g)] at h
      refine q_iconst dX11_isCrane_15 rfl rfl ?_
      refine q_goto (pc' := 20) dX11_isCrane_16 (by decide) ?_
      cases h
      exact q_zreturn dX11_isCrane_20 rfl (by decide) hQ
set_option maxRecDepth 20000 in
theorem C_crane_ok {X : qX} (hL : ∀ c, c < 93 → c ∈ qLs X) (d : Nat) (a1 : Int) (a2 : Int) (S : qSto) (o : (Int × qSto)) (h : C_crane a1 a2 S = some o) (Q : Option qV → qSto → Prop) (hQ : Q (some (qi o.1)) o.2) : qC X (d + 1) yX11_crane cX11_crane 3 (some .int) [qr 0, qi a1, qi a2] S Q := by
  refine q_entry (lv := [(0, qr 0), (1, qi a1), (2, qi a2)]) pn_X11 (Nat.le_of_ble_eq_true rfl) rfl ?_
  unfold C_crane at h
  refine q_aload_n dX11_crane_0 rfl rfl ?_
  refine q_iload_n dX11_crane_1 rfl rfl ?_
  obtain ⟨q193, h194, h⟩ := Option.bind_eq_some_iff.mp h
  refine q_callVi (as := [qi a1]) (c := 0) dX11_crane_2 ml_X11_207 rfl rfl (hL 0 (by decide)) sh_0 rfl rfl (Nat.le_of_ble_eq_true rfl) (C_isCrane_ok hL d a1 _ _ h194) rfl ?_
  obtain ⟨c195, h⟩ := qk_some h
  refine q_if_ne (tgt := 10) dX11_crane_5 (by decide) rfl (qRb_R c195)  (fun g => ?_) (fun g => ?_)
  · rw [if_neg (show ¬ (q193.1 = 0) from g)] at h
    refine q_iload_n dX11_crane_10 rfl rfl ?_
    obtain ⟨c196, h⟩ := qk_some h
    by_cases e3749 : a2 = 0
    · rw [if_pos e3749] at h
      refine q_lsw (tgt := 36) (off := 25) dX11_crane_11 (by decide) (qRb_R c196) (by rw [e3749]; rfl) (by decide) ?_
      refine q_aload_n dX11_crane_36 rfl rfl ?_
      refine q_getA dX11_crane_37 fl_X11_16 (hL 0 (by decide)) sh_0 (by decide) rfl rfl ?_
      refine q_getA dX11_crane_40 fl_X11_210 (hL 2 (by decide)) sh_2 (by decide) rfl rfl ?_
      refine q_iload_n dX11_crane_43 rfl rfl ?_
      obtain ⟨c197, h⟩ := qk_some h
      refine q_iaload dX11_crane_44 (hL 18 (by decide)) sh_18 (qIx_0 c197) (qIx_1 c197) rfl ?_
      cases h
      exact q_ireturn dX11_crane_45 rfl hQ
    · rw [if_neg e3749] at h
      by_cases e3750 : a2 = 1
      · rw [if_pos e3750] at h
        refine q_lsw (tgt := 46) (off := 35) dX11_crane_11 (by decide) (qRb_R c196) (by rw [e3750]; rfl) (by decide) ?_
        refine q_aload_n dX11_crane_46 rfl rfl ?_
        refine q_getA dX11_crane_47 fl_X11_16 (hL 0 (by decide)) sh_0 (by decide) rfl rfl ?_
        refine q_getA dX11_crane_50 fl_X11_213 (hL 2 (by decide)) sh_2 (by decide) rfl rfl ?_
        refine q_iload_n dX11_crane_53 rfl rfl ?_
        obtain ⟨c198, h⟩ := qk_some h
        refine q_iaload dX11_crane_54 (hL 19 (by decide)) sh_19 (qIx_0 c198) (qIx_1 c198) rfl ?_
        cases h
        exact q_ireturn dX11_crane_55 rfl hQ
      · rw [if_neg e3750] at h
        refine q_lsw (tgt := 56) (off := 45) dX11_crane_11 (by decide) (qRb_R c196) (by simp [Op.lookupswitch.offset, show ¬ (0 = a2) from fun z => e3749 z.symm, show ¬ (1 = a2) from fun z => e3750 z.symm]) (by decide) ?_
        refine q_iconst dX11_crane_56 rfl rfl ?_
        cases h
        exact q_ireturn dX11_crane_57 rfl hQ
  · rw [if_pos (show q193.1 = 0 from g)] at h
    refine q_iconst dX11_crane_8 rfl rfl ?_
    cases h
    exact q_ireturn dX11_crane_9 rfl hQ
set_option maxRecDepth 20000 in
theorem C_isShip_ok {X : qX} (hL : ∀ c, c < 93 → c ∈ qLs X) (d : Nat) (a1 : Int) (S : qSto) (o : (Int × qSto)) (h : C_isShip a1 S = some o) (Q : Option qV → qSto → Prop) (hQ : Q (some (qi o.1)) o.2) : qC X d yX11_isShip cX11_isShip 2 (some .boolean) [qr 0, qi a1] S Q := by
  refine q_entry (lv := [(0, qr 0), (1, qi a1)]) pn_X11 (Nat.le_of_ble_eq_true rfl) rfl ?_
  unfold C_isShip at h
  refine q_iload_n dX11_isShip_0 rfl rfl ?_
  obtain ⟨c199, h⟩ := qk_some h
  refine q_if_lt (tgt := 19) dX11_isShip_1 (by decide) rfl (qRb_R c199)  (fun g => ?_) (fun g => ?_)
  · rw [if_pos (show a1 < 0 from g)] at h
    refine q_iconst dX11_isShip_19 rfl rfl ?_
    cases h
    exact q_zreturn dX11_isShip_20 rfl (by decide) hQ
  · rw [if_neg (show ¬ (a1 < 0) from g)] at h
    refine q_iload_n dX11_isShip_4 rfl rfl ?_
    refine q_aload_n dX11_isShip_5 rfl rfl ?_
    refine q_getA dX11_isShip_6 fl_X11_16 (hL 0 (by decide)) sh_0 (by decide) rfl rfl ?_
    refine q_getI dX11_isShip_9 fl_X11_158 (hL 2 (by decide)) sh_2 (by decide) rfl rfl ?_
    obtain ⟨c200, h⟩ := qk_some h
    obtain ⟨c201, h⟩ := qk_some h
    refine q_icmp_ge (tgt := 19) dX11_isShip_12 (by decide) rfl (qRb_R c200) (qRb_R c201) (fun g => ?_) (fun g => ?_)
    · rw [if_pos (show (S 2 12) ≤ a1 from g)] at h
      refine q_iconst dX11_isShip_19 rfl rfl ?_
      cases h
      exact q_zreturn dX11_isShip_20 rfl (by decide) hQ
    · rw [if_neg (show ¬ ((S 2 12) ≤ a1) from g)] at h
      refine q_iconst dX11_isShip_15 rfl rfl ?_
      refine q_goto (pc' := 20) dX11_isShip_16 (by decide) ?_
      cases h
      exact q_zreturn dX11_isShip_20 rfl (by decide) hQ
set_option maxRecDepth 20000 in
theorem C_stayFact_ok {X : qX} (hL : ∀ c, c < 93 → c ∈ qLs X) (d : Nat) (a1 : Int) (a2 : Int) (S : qSto) (o : (Int × qSto)) (h : C_stayFact a1 a2 S = some o) (Q : Option qV → qSto → Prop) (hQ : Q (some (qi o.1)) o.2) : qC X (d + 3) yX11_stayFact cX11_stayFact 3 (some .int) [qr 0, qi a1, qi a2] S Q := by
  refine q_entry (lv := [(0, qr 0), (1, qi a1), (2, qi a2)]) pn_X11 (Nat.le_of_ble_eq_true rfl) rfl ?_
  unfold C_stayFact at h
  refine q_iload_n dX11_stayFact_0 rfl rfl ?_
  obtain ⟨c211, h⟩ := qk_some h
  by_cases e3751 : a2 = 9
  · rw [if_pos e3751] at h
    refine q_tsw (tgt := 170) dX11_stayFact_1 (qRb_R c211) (by decide) (fun g => absurd g (by rw [e3751]; decide)) (fun _ _ => ⟨51, 52, by rw [e3751]; rfl, by decide, ?_⟩)
    refine q_aload_n dX11_stayFact_52 rfl rfl ?_
    refine q_getA dX11_stayFact_53 fl_X11_49 (hL 0 (by decide)) sh_0 (by decide) rfl rfl ?_
    refine q_getA dX11_stayFact_56 fl_X11_225 (hL 6 (by decide)) sh_6 (by decide) rfl rfl ?_
    refine q_iload_n dX11_stayFact_59 rfl rfl ?_
    obtain ⟨c212, h⟩ := qk_some h
    refine q_iaload dX11_stayFact_60 (hL 37 (by decide)) sh_37 (qIx_0 c212) (qIx_1 c212) rfl ?_
    cases h
    exact q_ireturn dX11_stayFact_61 rfl hQ
  · rw [if_neg e3751] at h
    by_cases e3752 : a2 = 10
    · rw [if_pos e3752] at h
      refine q_tsw (tgt := 170) dX11_stayFact_1 (qRb_R c211) (by decide) (fun g => absurd g (by rw [e3752]; decide)) (fun _ _ => ⟨61, 62, by rw [e3752]; rfl, by decide, ?_⟩)
      refine q_aload_n dX11_stayFact_62 rfl rfl ?_
      refine q_getA dX11_stayFact_63 fl_X11_49 (hL 0 (by decide)) sh_0 (by decide) rfl rfl ?_
      refine q_getA dX11_stayFact_66 fl_X11_228 (hL 6 (by decide)) sh_6 (by decide) rfl rfl ?_
      refine q_iload_n dX11_stayFact_69 rfl rfl ?_
      obtain ⟨c213, h⟩ := qk_some h
      refine q_iaload dX11_stayFact_70 (hL 39 (by decide)) sh_39 (qIx_0 c213) (qIx_1 c213) rfl ?_
      cases h
      exact q_ireturn dX11_stayFact_71 rfl hQ
    · rw [if_neg e3752] at h
      by_cases e3753 : a2 = 11
      · rw [if_pos e3753] at h
        refine q_tsw (tgt := 170) dX11_stayFact_1 (qRb_R c211) (by decide) (fun g => absurd g (by rw [e3753]; decide)) (fun _ _ => ⟨71, 72, by rw [e3753]; rfl, by decide, ?_⟩)
        refine q_aload_n dX11_stayFact_72 rfl rfl ?_
        refine q_getA dX11_stayFact_73 fl_X11_49 (hL 0 (by decide)) sh_0 (by decide) rfl rfl ?_
        refine q_getA dX11_stayFact_76 fl_X11_231 (hL 6 (by decide)) sh_6 (by decide) rfl rfl ?_
        refine q_iload_n dX11_stayFact_79 rfl rfl ?_
        obtain ⟨c214, h⟩ := qk_some h
        refine q_iaload dX11_stayFact_80 (hL 40 (by decide)) sh_40 (qIx_0 c214) (qIx_1 c214) rfl ?_
        cases h
        exact q_ireturn dX11_stayFact_81 rfl hQ
      · rw [if_neg e3753] at h
        by_cases e3754 : a2 = 12
        · rw [if_pos e3754] at h
          refine q_tsw (tgt := 170) dX11_stayFact_1 (qRb_R c211) (by decide) (fun g => absurd g (by rw [e3754]; decide)) (fun _ _ => ⟨81, 82, by rw [e3754]; rfl, by decide, ?_⟩)
          refine q_aload_n dX11_stayFact_82 rfl rfl ?_
          refine q_getA dX11_stayFact_83 fl_X11_49 (hL 0 (by decide)) sh_0 (by decide) rfl rfl ?_
          refine q_getA dX11_stayFact_86 fl_X11_233 (hL 6 (by decide)) sh_6 (by decide) rfl rfl ?_
          refine q_iload_n dX11_stayFact_89 rfl rfl ?_
          obtain ⟨c215, h⟩ := qk_some h
          refine q_iaload dX11_stayFact_90 (hL 41 (by decide)) sh_41 (qIx_0 c215) (qIx_1 c215) rfl ?_
          cases h
          exact q_ireturn dX11_stayFact_91 rfl hQ
        · rw [if_neg e3754] at h
          by_cases e3755 : a2 = 13
          · rw [if_pos e3755] at h
            refine q_tsw (tgt := 170) dX11_stayFact_1 (qRb_R c211) (by decide) (fun g => absurd g (by rw [e3755]; decide)) (fun _ _ => ⟨91, 92, by rw [e3755]; rfl, by decide, ?_⟩)
            refine q_aload_n dX11_stayFact_92 rfl rfl ?_
            refine q_getA dX11_stayFact_93 fl_X11_49 (hL 0 (by decide)) sh_0 (by decide) rfl rfl ?_
            refine q_getA dX11_stayFact_96 fl_X11_236 (hL 6 (by decide)) sh_6 (by decide) rfl rfl ?_
            refine q_iload_n dX11_stayFact_99 rfl rfl ?_
            obtain ⟨c216, h⟩ := qk_some h
            refine q_iaload dX11_stayFact_100 (hL 42 (by decide)) sh_42 (qIx_0 c216) (qIx_1 c216) rfl ?_
            cases h
            exact q_ireturn dX11_stayFact_101 rfl hQ
          · rw [if_neg e3755] at h
            by_cases e3756 : a2 = 14
            · rw [if_pos e3756] at h
              refine q_tsw (tgt := 170) dX11_stayFact_1 (qRb_R c211) (by decide) (fun g => absurd g (by rw [e3756]; decide)) (fun _ _ => ⟨101, 102, by rw [e3756]; rfl, by decide, ?_⟩)
              refine q_aload_n dX11_stayFact_102 rfl rfl ?_
              refine q_getA dX11_stayFact_103 fl_X11_49 (hL 0 (by decide)) sh_0 (by decide) rfl rfl ?_
              refine q_getA dX11_stayFact_106 fl_X11_228 (hL 6 (by decide)) sh_6 (by decide) rfl rfl ?_
              refine q_iload_n dX11_stayFact_109 rfl rfl ?_
              obtain ⟨c217, h⟩ := qk_some h
              refine q_iaload dX11_stayFact_110 (hL 39 (by decide)) sh_39 (qIx_0 c217) (qIx_1 c217) rfl ?_
              refine q_aload_n dX11_stayFact_111 rfl rfl ?_
              refine q_getA dX11_stayFact_112 fl_X11_16 (hL 0 (by decide)) sh_0 (by decide) rfl rfl ?_
              refine q_iload_n dX11_stayFact_115 rfl rfl ?_
              refine q_iconst dX11_stayFact_116 rfl rfl ?_
              obtain ⟨q218, h219, h⟩ := Option.bind_eq_some_iff.mp h
              refine q_callVi (as := [qi a1, qi 4]) (c := 2) dX11_stayFact_117 ml_X11_219 rfl rfl (hL 2 (by decide)) sh_2 rfl rfl (Nat.le_of_ble_eq_true rfl) (Told_contractOf_ok hL (d + 2) a1 4 _ _ h219) rfl ?_
              refine q_isub dX11_stayFact_120 rfl ?_
              cases h
              exact q_ireturn dX11_stayFact_121 rfl hQ
            · rw [if_neg e3756] at h
              by_cases e3757 : a2 = 15
              · rw [if_pos e3757] at h
                refine q_tsw (tgt := 170) dX11_stayFact_1 (qRb_R c211) (by decide) (fun g => absurd g (by rw [e3757]; decide)) (fun _ _ => ⟨121, 122, by rw [e3757]; rfl, by decide, ?_⟩)
                refine q_aload_n dX11_stayFact_122 rfl rfl ?_
                refine q_getA dX11_stayFact_123 fl_X11_49 (hL 0 (by decide)) sh_0 (by decide) rfl rfl ?_
                refine q_getA dX11_stayFact_126 fl_X11_236 (hL 6 (by decide)) sh_6 (by decide) rfl rfl ?_
                refine q_iload_n dX11_stayFact_129 rfl rfl ?_
                obtain ⟨c220, h⟩ := qk_some h
                refine q_iaload dX11_stayFact_130 (hL 42 (by decide)) sh_42 (qIx_0 c220) (qIx_1 c220) rfl ?_
                refine q_aload_n dX11_stayFact_131 rfl rfl ?_
                refine q_getA dX11_stayFact_132 fl_X11_49 (hL 0 (by decide)) sh_0 (by decide) rfl rfl ?_
                refine q_getA dX11_stayFact_135 fl_X11_228 (hL 6 (by decide)) sh_6 (by decide) rfl rfl ?_
                refine q_iload_n dX11_stayFact_138 rfl rfl ?_
                obtain ⟨c221, h⟩ := qk_some h
                refine q_iaload dX11_stayFact_139 (hL 39 (by decide)) sh_39 (qIx_0 c221) (qIx_1 c221) rfl ?_
                refine q_isub dX11_stayFact_140 rfl ?_
                refine q_aload_n dX11_stayFact_141 rfl rfl ?_
                refine q_getA dX11_stayFact_142 fl_X11_49 (hL 0 (by decide)) sh_0 (by decide) rfl rfl ?_
                refine q_getA dX11_stayFact_145 fl_X11_233 (hL 6 (by decide)) sh_6 (by decide) rfl rfl ?_
                refine q_iload_n dX11_stayFact_148 rfl rfl ?_
                obtain ⟨c222, h⟩ := qk_some h
                refine q_iaload dX11_stayFact_149 (hL 41 (by decide)) sh_41 (qIx_0 c222) (qIx_1 c222) rfl ?_
                refine q_isub dX11_stayFact_150 rfl ?_
                cases h
                exact q_ireturn dX11_stayFact_151 rfl hQ
              · rw [if_neg e3757] at h
                by_cases e3758 : a2 = 16
                · rw [if_pos e3758] at h
                  refine q_tsw (tgt := 170) dX11_stayFact_1 (qRb_R c211) (by decide) (fun g => absurd g (by rw [e3758]; decide)) (fun _ _ => ⟨151, 152, by rw [e3758]; rfl, by decide, ?_⟩)
                  refine q_aload_n dX11_stayFact_152 rfl rfl ?_
                  refine q_getA dX11_stayFact_153 fl_X11_49 (hL 0 (by decide)) sh_0 (by decide) rfl rfl ?_
                  refine q_iload_n dX11_stayFact_156 rfl rfl ?_
                  obtain ⟨q223, h224, h⟩ := Option.bind_eq_some_iff.mp h
                  refine q_callVi (as := [qi a1]) (c := 6) dX11_stayFact_157 ml_X11_239 rfl rfl (hL 6 (by decide)) sh_6 rfl rfl (Nat.le_of_ble_eq_true rfl) (Stays_lateOf_ok hL (d + 1) a1 _ _ h224) rfl ?_
                  cases h
                  exact q_ireturn dX11_stayFact_160 rfl hQ
                · rw [if_neg e3758] at h
                  by_cases e3759 : a2 = 17
                  · rw [if_pos e3759] at h
                    refine q_tsw (tgt := 170) dX11_stayFact_1 (qRb_R c211) (by decide) (fun g => absurd g (by rw [e3759]; decide)) (fun _ _ => ⟨160, 161, by rw [e3759]; rfl, by decide, ?_⟩)
                    refine q_aload_n dX11_stayFact_161 rfl rfl ?_
                    refine q_getA dX11_stayFact_162 fl_X11_49 (hL 0 (by decide)) sh_0 (by decide) rfl rfl ?_
                    refine q_iload_n dX11_stayFact_165 rfl rfl ?_
                    obtain ⟨q225, h226, h⟩ := Option.bind_eq_some_iff.mp h
                    refine q_callVi (as := [qi a1]) (c := 6) dX11_stayFact_166 ml_X11_182 rfl rfl (hL 6 (by decide)) sh_6 rfl rfl (Nat.le_of_ble_eq_true rfl) (Stays_costOf_ok hL d a1 _ _ h226) rfl ?_
                    cases h
                    exact q_ireturn dX11_stayFact_169 rfl hQ
                  · rw [if_neg e3759] at h
                    refine q_tsw (tgt := 170) dX11_stayFact_1 (qRb_R c211) (by decide) (fun _ => ?_) (fun g1 g2 => absurd g1 (by omega))
                    refine q_iconst dX11_stayFact_170 rfl rfl ?_
                    cases h
                    exact q_ireturn dX11_stayFact_171 rfl hQ
set_option maxRecDepth 20000 in
theorem C_ship_ok {X : qX} (hL : ∀ c, c < 93 → c ∈ qLs X) (d : Nat) (a1 : Int) (a2 : Int) (S : qSto) (o : (Int × qSto)) (h : C_ship a1 a2 S = some o) (Q : Option qV → qSto → Prop) (hQ : Q (some (qi o.1)) o.2) : qC X (d + 4) yX11_ship cX11_ship 3 (some .int) [qr 0, qi a1, qi a2] S Q := by
  refine q_entry (lv := [(0, qr 0), (1, qi a1), (2, qi a2)]) pn_X11 (Nat.le_of_ble_eq_true rfl) rfl ?_
  unfold C_ship at h
  refine q_aload_n dX11_ship_0 rfl rfl ?_
  refine q_iload_n dX11_ship_1 rfl rfl ?_
  obtain ⟨q202, h203, h⟩ := Option.bind_eq_some_iff.mp h
  refine q_callVi (as := [qi a1]) (c := 0) dX11_ship_2 ml_X11_216 rfl rfl (hL 0 (by decide)) sh_0 rfl rfl (Nat.le_of_ble_eq_true rfl) (C_isShip_ok hL (d + 3) a1 _ _ h203) rfl ?_
  obtain ⟨c204, h⟩ := qk_some h
  refine q_if_eq (tgt := 18) dX11_ship_5 (by decide) rfl (qRb_R c204)  (fun g => ?_) (fun g => ?_)
  · rw [if_pos (show q202.1 = 0 from g)] at h
    refine q_iconst dX11_ship_18 rfl rfl ?_
    cases h
    exact q_ireturn dX11_ship_19 rfl hQ
  · rw [if_neg (show ¬ (q202.1 = 0) from g)] at h
    refine q_iload_n dX11_ship_8 rfl rfl ?_
    obtain ⟨c205, h⟩ := qk_some h
    refine q_if_lt (tgt := 18) dX11_ship_9 (by decide) rfl (qRb_R c205)  (fun g => ?_) (fun g => ?_)
    · rw [if_pos (show a2 < 0 from g)] at h
      refine q_iconst dX11_ship_18 rfl rfl ?_
      cases h
      exact q_ireturn dX11_ship_19 rfl hQ
    · rw [if_neg (show ¬ (a2 < 0) from g)] at h
      refine q_iload_n dX11_ship_12 rfl rfl ?_
      refine q_bipush dX11_ship_13 (by decide) rfl ?_
      obtain ⟨c206, h⟩ := qk_some h
      refine q_icmp_lt (tgt := 20) dX11_ship_15 (by decide) rfl (qRb_R c206) ⟨by decide, by decide⟩ (fun g => ?_) (fun g => ?_)
      · rw [if_pos (show a2 < 18 from g)] at h
        refine q_iload_n dX11_ship_20 rfl rfl ?_
        refine q_bipush dX11_ship_21 (by decide) rfl ?_
        obtain ⟨c207, h⟩ := qk_some h
        refine q_icmp_ge (tgt := 36) dX11_ship_23 (by decide) rfl (qRb_R c207) ⟨by decide, by decide⟩ (fun g => ?_) (fun g => ?_)
        · rw [if_pos (show 9 ≤ a2 from g)] at h
          refine q_aload_n dX11_ship_36 rfl rfl ?_
          refine q_getA dX11_ship_37 fl_X11_49 (hL 0 (by decide)) sh_0 (by decide) rfl rfl ?_
          refine q_iload_n dX11_ship_40 rfl rfl ?_
          obtain ⟨q208, h209, h⟩ := Option.bind_eq_some_iff.mp h
          refine q_callVi (as := [qi a1]) (c := 6) dX11_ship_41 ml_X11_178 rfl rfl (hL 6 (by decide)) sh_6 rfl rfl (Nat.le_of_ble_eq_true rfl) (Stays_has_ok hL (d + 3) a1 _ _ h209) rfl ?_
          obtain ⟨c210, h⟩ := qk_some h
          refine q_if_eq (tgt := 56) dX11_ship_44 (by decide) rfl (qRb_R c210)  (fun g => ?_) (fun g => ?_)
          · rw [if_pos (show q208.1 = 0 from g)] at h
            refine q_bipush dX11_ship_56 (by decide) rfl ?_
            cases h
            exact q_ireturn dX11_ship_58 rfl hQ
          · rw [if_neg (show ¬ (q208.1 = 0) from g)] at h
            refine q_aload_n dX11_ship_47 rfl rfl ?_
            refine q_iload_n dX11_ship_48 rfl rfl ?_
            refine q_iload_n dX11_ship_49 rfl rfl ?_
            obtain ⟨q227, h228, h⟩ := Option.bind_eq_some_iff.mp h
            refine q_callVi (as := [qi a1, qi a2]) (c := 0) dX11_ship_50 ml_X11_222 rfl rfl (hL 0 (by decide)) sh_0 rfl rfl (Nat.le_of_ble_eq_true rfl) (C_stayFact_ok hL d a1 a2 _ _ h228) rfl ?_
            refine q_goto (pc' := 58) dX11_ship_53 (by decide) ?_
            cases h
            exact q_ireturn dX11_ship_58 rfl hQ
        · rw [if_neg (show ¬ (9 ≤ a2) from g)] at h
          refine q_aload_n dX11_ship_26 rfl rfl ?_
          refine q_getA dX11_ship_27 fl_X11_16 (hL 0 (by decide)) sh_0 (by decide) rfl rfl ?_
          refine q_iload_n dX11_ship_30 rfl rfl ?_
          refine q_iload_n dX11_ship_31 rfl rfl ?_
          obtain ⟨q229, h230, h⟩ := Option.bind_eq_some_iff.mp h
          refine q_callVi (as := [qi a1, qi a2]) (c := 2) dX11_ship_32 ml_X11_219 rfl rfl (hL 2 (by decide)) sh_2 rfl rfl (Nat.le_of_ble_eq_true rfl) (Told_contractOf_ok hL (d + 3) a1 a2 _ _ h230) rfl ?_
          cases h
          exact q_ireturn dX11_ship_35 rfl hQ
      · rw [if_neg (show ¬ (a2 < 18) from g)] at h
        refine q_iconst dX11_ship_18 rfl rfl ?_
        cases h
        exact q_ireturn dX11_ship_19 rfl hQ
set_option maxRecDepth 20000 in
theorem Told_nameByte_ok {X : qX} (hL : ∀ c, c < 93 → c ∈ qLs X) (d : Nat) (a1 : Int) (a2 : Int) (S : qSto) (o : (Int × qSto)) (h : Told_nameByte a1 a2 S = some o) (Q : Option qV → qSto → Prop) (hQ : Q (some (qi o.1)) o.2) : qC X d yX8_nameByte cX8_nameByte 3 (some .int) [qr 2, qi a1, qi a2] S Q := by
  refine q_entry (lv := [(0, qr 2), (1, qi a1), (2, qi a2)]) pn_X8 (Nat.le_of_ble_eq_true rfl) rfl ?_
  unfold Told_nameByte at h
  refine q_iload_n dX8_nameByte_0 rfl rfl ?_
  refine q_bipush dX8_nameByte_1 (by decide) rfl ?_
  obtain ⟨c236, h⟩ := qk_some h
  refine q_icmp_ge (tgt := 20) dX8_nameByte_3 (by decide) rfl (qRb_R c236) ⟨by decide, by decide⟩ (fun g => ?_) (fun g => ?_)
  · rw [if_pos (show 14 ≤ a1 from g)] at h
    refine q_iconst dX8_nameByte_20 rfl rfl ?_
    cases h
    exact q_ireturn dX8_nameByte_21 rfl hQ
  · rw [if_neg (show ¬ (14 ≤ a1) from g)] at h
    refine q_aload_n dX8_nameByte_6 rfl rfl ?_
    refine q_getA dX8_nameByte_7 fl_X8_39 (hL 2 (by decide)) sh_2 (by decide) rfl rfl ?_
    refine q_iload_n dX8_nameByte_10 rfl rfl ?_
    refine q_bipush dX8_nameByte_11 (by decide) rfl ?_
    refine q_imul dX8_nameByte_13 rfl ?_
    refine q_iload_n dX8_nameByte_14 rfl rfl ?_
    refine q_iadd dX8_nameByte_15 rfl ?_
    obtain ⟨c237, h⟩ := qk_some h
    refine q_iaload dX8_nameByte_16 (hL 24 (by decide)) sh_24 (qIx_0 c237) (qIx_1 c237) rfl ?_
    refine q_goto (pc' := 21) dX8_nameByte_17 (by decide) ?_
    cases h
    exact q_ireturn dX8_nameByte_21 rfl hQ
set_option maxRecDepth 20000 in
theorem C_letter_ok {X : qX} (hL : ∀ c, c < 93 → c ∈ qLs X) (d : Nat) (a1 : Int) (a2 : Int) (S : qSto) (o : (Int × qSto)) (h : C_letter a1 a2 S = some o) (Q : Option qV → qSto → Prop) (hQ : Q (some (qi o.1)) o.2) : qC X (d + 1) yX11_letter cX11_letter 4 (some .int) [qr 0, qi a1, qi a2] S Q := by
  refine q_entry (lv := [(0, qr 0), (1, qi a1), (2, qi a2)]) pn_X11 (Nat.le_of_ble_eq_true rfl) rfl ?_
  unfold C_letter at h
  refine q_aload_n dX11_letter_0 rfl rfl ?_
  refine q_iload_n dX11_letter_1 rfl rfl ?_
  obtain ⟨q231, h232, h⟩ := Option.bind_eq_some_iff.mp h
  refine q_callVi (as := [qi a1]) (c := 0) dX11_letter_2 ml_X11_216 rfl rfl (hL 0 (by decide)) sh_0 rfl rfl (Nat.le_of_ble_eq_true rfl) (C_isShip_ok hL d a1 _ _ h232) rfl ?_
  obtain ⟨c233, h⟩ := qk_some h
  refine q_if_eq (tgt := 18) dX11_letter_5 (by decide) rfl (qRb_R c233)  (fun g => ?_) (fun g => ?_)
  · rw [if_pos (show q231.1 = 0 from g)] at h
    refine q_iconst dX11_letter_18 rfl rfl ?_
    cases h
    exact q_ireturn dX11_letter_19 rfl hQ
  · rw [if_neg (show ¬ (q231.1 = 0) from g)] at h
    refine q_iload_n dX11_letter_8 rfl rfl ?_
    obtain ⟨c234, h⟩ := qk_some h
    refine q_if_lt (tgt := 18) dX11_letter_9 (by decide) rfl (qRb_R c234)  (fun g => ?_) (fun g => ?_)
    · rw [if_pos (show a2 < 0 from g)] at h
      refine q_iconst dX11_letter_18 rfl rfl ?_
      cases h
      exact q_ireturn dX11_letter_19 rfl hQ
    · rw [if_neg (show ¬ (a2 < 0) from g)] at h
      refine q_iload_n dX11_letter_12 rfl rfl ?_
      refine q_bipush dX11_letter_13 (by decide) rfl ?_
      obtain ⟨c235, h⟩ := qk_some h
      refine q_icmp_lt (tgt := 20) dX11_letter_15 (by decide) rfl (qRb_R c235) ⟨by decide, by decide⟩ (fun g => ?_) (fun g => ?_)
      · rw [if_pos (show a2 < 8 from g)] at h
        refine q_aload_n dX11_letter_20 rfl rfl ?_
        refine q_getA dX11_letter_21 fl_X11_16 (hL 0 (by decide)) sh_0 (by decide) rfl rfl ?_
        refine q_iload_n dX11_letter_24 rfl rfl ?_
        refine q_iload_n dX11_letter_25 rfl rfl ?_
        obtain ⟨q238, h239, h⟩ := Option.bind_eq_some_iff.mp h
        refine q_callVi (as := [qi a1, qi a2]) (c := 2) dX11_letter_26 ml_X11_242 rfl rfl (hL 2 (by decide)) sh_2 rfl rfl (Nat.le_of_ble_eq_true rfl) (Told_nameByte_ok hL d a1 a2 _ _ h239) rfl ?_
        refine q_istore_n (lv' := [(3, qi q238.1), (0, qr 0), (1, qi a1), (2, qi a2)]) dX11_letter_29 (by decide) rfl rfl ?_
        refine q_iload_n dX11_letter_30 rfl rfl ?_
        obtain ⟨c240, h⟩ := qk_some h
        refine q_if_ne (tgt := 38) dX11_letter_31 (by decide) rfl (qRb_R c240)  (fun g => ?_) (fun g => ?_)
        · rw [if_neg (show ¬ (q238.1 = 0) from g)] at h
          refine q_iload_n dX11_letter_38 rfl rfl ?_
          refine q_bipush dX11_letter_39 (by decide) rfl ?_
          refine q_isub dX11_letter_41 rfl ?_
          refine q_iconst dX11_letter_42 rfl rfl ?_
          refine q_iadd dX11_letter_43 rfl ?_
          cases h
          exact q_ireturn dX11_letter_44 rfl hQ
        · rw [if_pos (show q238.1 = 0 from g)] at h
          refine q_iconst dX11_letter_34 rfl rfl ?_
          refine q_goto (pc' := 44) dX11_letter_35 (by decide) ?_
          cases h
          exact q_ireturn dX11_letter_44 rfl hQ
      · rw [if_neg (show ¬ (a2 < 8) from g)] at h
        refine q_iconst dX11_letter_18 rfl rfl ?_
        cases h
        exact q_ireturn dX11_letter_19 rfl hQ
set_option maxRecDepth 20000 in
theorem C_isCraneNumber_ok {X : qX} (hL : ∀ c, c < 93 → c ∈ qLs X) (d : Nat) (a0 : Int) (S : qSto) (o : (Int × qSto)) (h : C_isCraneNumber a0 S = some o) (Q : Option qV → qSto → Prop) (hQ : Q (some (qi o.1)) o.2) : qC X d yX11_isCraneNumber cX11_isCraneNumber 1 (some .boolean) [qi a0] S Q := by
  refine q_entry (lv := [(0, qi a0)]) pn_X11 (Nat.le_of_ble_eq_true rfl) rfl ?_
  unfold C_isCraneNumber at h
  refine q_iload_n dX11_isCraneNumber_0 rfl rfl ?_
  refine q_iconst dX11_isCraneNumber_1 rfl rfl ?_
  obtain ⟨c241, h⟩ := qk_some h
  refine q_icmp_lt (tgt := 15) dX11_isCraneNumber_2 (by decide) rfl (qRb_R c241) ⟨by decide, by decide⟩ (fun g => ?_) (fun g => ?_)
  · rw [if_pos (show a0 < 1 from g)] at h
    refine q_iconst dX11_isCraneNumber_15 rfl rfl ?_
    cases h
    exact q_zreturn dX11_isCraneNumber_16 rfl (by decide) hQ
  · rw [if_neg (show ¬ (a0 < 1) from g)] at h
    refine q_iload_n dX11_isCraneNumber_5 rfl rfl ?_
    refine q_bipush dX11_isCraneNumber_6 (by decide) rfl ?_
    obtain ⟨c242, h⟩ := qk_some h
    refine q_icmp_gt (tgt := 15) dX11_isCraneNumber_8 (by decide) rfl (qRb_R c242) ⟨by decide, by decide⟩ (fun g => ?_) (fun g => ?_)
    · rw [if_pos (show 8 < a0 from g)] at h
      refine q_iconst dX11_isCraneNumber_15 rfl rfl ?_
      cases h
      exact q_zreturn dX11_isCraneNumber_16 rfl (by decide) hQ
    · rw [if_neg (show ¬ (8 < a0) from g)] at h
      refine q_iconst dX11_isCraneNumber_11 rfl rfl ?_
      refine q_goto (pc' := 16) dX11_isCraneNumber_12 (by decide) ?_
      cases h
      exact q_zreturn dX11_isCraneNumber_16 rfl (by decide) hQ
set_option maxRecDepth 20000 in
theorem Told_movesWith_ok {X : qX} (hL : ∀ c, c < 93 → c ∈ qLs X) (d : Nat) (a1 : Int) (S : qSto) (o : (Int × qSto)) (h : Told_movesWith a1 S = some o) (Q : Option qV → qSto → Prop) (hQ : Q (some (qi o.1)) o.2) : qC X (d + 1) yX8_movesWith cX8_movesWith 2 (some .int) [qr 2, qi a1] S Q := by
  refine q_entry (lv := [(0, qr 2), (1, qi a1)]) pn_X8 (Nat.le_of_ble_eq_true rfl) rfl ?_
  unfold Told_movesWith at h
  refine q_iload_n dX8_movesWith_0 rfl rfl ?_
  refine q_iload_n dX8_movesWith_1 rfl rfl ?_
  refine q_aload_n dX8_movesWith_2 rfl rfl ?_
  refine q_getA dX8_movesWith_3 fl_X8_9 (hL 2 (by decide)) sh_2 (by decide) rfl rfl ?_
  refine q_iconst dX8_movesWith_6 rfl rfl ?_
  refine q_iaload dX8_movesWith_7 (hL 15 (by decide)) sh_15 (by decide) (by decide) rfl ?_
  refine q_imul dX8_movesWith_8 rfl ?_
  refine q_bipush dX8_movesWith_9 (by decide) rfl ?_
  refine q_aload_n dX8_movesWith_11 rfl rfl ?_
  refine q_getA dX8_movesWith_12 fl_X8_9 (hL 2 (by decide)) sh_2 (by decide) rfl rfl ?_
  refine q_iconst dX8_movesWith_15 rfl rfl ?_
  refine q_iaload dX8_movesWith_16 (hL 15 (by decide)) sh_15 (by decide) (by decide) rfl ?_
  refine q_iload_n dX8_movesWith_17 rfl rfl ?_
  refine q_iconst dX8_movesWith_18 rfl rfl ?_
  refine q_isub dX8_movesWith_19 rfl ?_
  refine q_imul dX8_movesWith_20 rfl ?_
  refine q_isub dX8_movesWith_21 rfl ?_
  refine q_imul dX8_movesWith_22 rfl ?_
  refine q_bipush dX8_movesWith_23 (by decide) rfl ?_
  obtain ⟨c246, h⟩ := qk_some h
  refine q_idiv dX8_movesWith_25 (qRb_R c246) ⟨by decide, by decide⟩ (by decide) rfl ?_
  obtain ⟨q247, h248, h⟩ := Option.bind_eq_some_iff.mp h
  refine q_callSi (as := [qi a1, qi (Int.tdiv ((a1 * (S 15 4)) * (100 - ((S 15 5) * (a1 - 1)))) 100)]) dX8_movesWith_26 ml_X8_90 rfl rfl (Nat.le_of_ble_eq_true rfl) (Jm_max_ok hL d a1 (Int.tdiv ((a1 * (S 15 4)) * (100 - ((S 15 5) * (a1 - 1)))) 100) _ _ h248) rfl ?_
  cases h
  exact q_ireturn dX8_movesWith_29 rfl hQ
set_option maxRecDepth 20000 in
theorem C_moves_ok {X : qX} (hL : ∀ c, c < 93 → c ∈ qLs X) (d : Nat) (a1 : Int) (S : qSto) (o : (Int × qSto)) (h : C_moves a1 S = some o) (Q : Option qV → qSto → Prop) (hQ : Q (some (qi o.1)) o.2) : qC X (d + 2) yX11_moves cX11_moves 2 (some .int) [qr 0, qi a1] S Q := by
  refine q_entry (lv := [(0, qr 0), (1, qi a1)]) pn_X11 (Nat.le_of_ble_eq_true rfl) rfl ?_
  unfold C_moves at h
  refine q_iload_n dX11_moves_0 rfl rfl ?_
  obtain ⟨q243, h244, h⟩ := Option.bind_eq_some_iff.mp h
  refine q_callSi (as := [qi a1]) dX11_moves_1 ml_X11_245 rfl rfl (Nat.le_of_ble_eq_true rfl) (C_isCraneNumber_ok hL (d + 1) a1 _ _ h244) rfl ?_
  obtain ⟨c245, h⟩ := qk_some h
  refine q_if_eq (tgt := 18) dX11_moves_4 (by decide) rfl (qRb_R c245)  (fun g => ?_) (fun g => ?_)
  · rw [if_pos (show q243.1 = 0 from g)] at h
    refine q_iconst dX11_moves_18 rfl rfl ?_
    cases h
    exact q_ireturn dX11_moves_19 rfl hQ
  · rw [if_neg (show ¬ (q243.1 = 0) from g)] at h
    refine q_aload_n dX11_moves_7 rfl rfl ?_
    refine q_getA dX11_moves_8 fl_X11_16 (hL 0 (by decide)) sh_0 (by decide) rfl rfl ?_
    refine q_iload_n dX11_moves_11 rfl rfl ?_
    obtain ⟨q249, h250, h⟩ := Option.bind_eq_some_iff.mp h
    refine q_callVi (as := [qi a1]) (c := 2) dX11_moves_12 ml_X11_248 rfl rfl (hL 2 (by decide)) sh_2 rfl rfl (Nat.le_of_ble_eq_true rfl) (Told_movesWith_ok hL d a1 _ _ h250) rfl ?_
    refine q_goto (pc' := 19) dX11_moves_15 (by decide) ?_
    cases h
    exact q_ireturn dX11_moves_19 rfl hQ
set_option maxRecDepth 20000 in
theorem C_isWater_ok {X : qX} (hL : ∀ c, c < 93 → c ∈ qLs X) (d : Nat) (a0 : Int) (S : qSto) (o : (Int × qSto)) (h : C_isWater a0 S = some o) (Q : Option qV → qSto → Prop) (hQ : Q (some (qi o.1)) o.2) : qC X d yX11_isWater cX11_isWater 1 (some .boolean) [qi a0] S Q := by
  refine q_entry (lv := [(0, qi a0)]) pn_X11 (Nat.le_of_ble_eq_true rfl) rfl ?_
  unfold C_isWater at h
  refine q_iload_n dX11_isWater_0 rfl rfl ?_
  obtain ⟨c251, h⟩ := qk_some h
  refine q_if_lt (tgt := 15) dX11_isWater_1 (by decide) rfl (qRb_R c251)  (fun g => ?_) (fun g => ?_)
  · rw [if_pos (show a0 < 0 from g)] at h
    refine q_iconst dX11_isWater_15 rfl rfl ?_
    cases h
    exact q_zreturn dX11_isWater_16 rfl (by decide) hQ
  · rw [if_neg (show ¬ (a0 < 0) from g)] at h
    refine q_iload_n dX11_isWater_4 rfl rfl ?_
    refine q_sipush dX11_isWater_5 (by decide) rfl ?_
    obtain ⟨c252, h⟩ := qk_some h
    refine q_icmp_gt (tgt := 15) dX11_isWater_8 (by decide) rfl (qRb_R c252) ⟨by decide, by decide⟩ (fun g => ?_) (fun g => ?_)
    · rw [if_pos (show 300 < a0 from g)] at h
      refine q_iconst dX11_isWater_15 rfl rfl ?_
      cases h
      exact q_zreturn dX11_isWater_16 rfl (by decide) hQ
    · rw [if_neg (show ¬ (300 < a0) from g)] at h
      refine q_iconst dX11_isWater_11 rfl rfl ?_
      refine q_goto (pc' := 16) dX11_isWater_12 (by decide) ?_
      cases h
      exact q_zreturn dX11_isWater_16 rfl (by decide) hQ
set_option maxRecDepth 20000 in
theorem Waters_isOpen_ok {X : qX} (hL : ∀ c, c < 93 → c ∈ qLs X) (d : Nat) (a1 : Int) (a2 : Int) (S : qSto) (o : (Int × qSto)) (h : Waters_isOpen a1 a2 S = some o) (Q : Option qV → qSto → Prop) (hQ : Q (some (qi o.1)) o.2) : qC X d yX9_isOpen cX9_isOpen 3 (some .boolean) [qr 5, qi a1, qi a2] S Q := by
  refine q_entry (lv := [(0, qr 5), (1, qi a1), (2, qi a2)]) pn_X9 (Nat.le_of_ble_eq_true rfl) rfl ?_
  unfold Waters_isOpen at h
  refine q_aload_n dX9_isOpen_0 rfl rfl ?_
  refine q_getA dX9_isOpen_1 fl_X9_15 (hL 5 (by decide)) sh_5 (by decide) rfl rfl ?_
  refine q_getA dX9_isOpen_4 fl_X9_48 (hL 2 (by decide)) sh_2 (by decide) rfl rfl ?_
  refine q_iconst dX9_isOpen_7 rfl rfl ?_
  refine q_iaload dX9_isOpen_8 (hL 15 (by decide)) sh_15 (by decide) (by decide) rfl ?_
  refine q_aload_n dX9_isOpen_9 rfl rfl ?_
  refine q_getA dX9_isOpen_10 fl_X9_9 (hL 5 (by decide)) sh_5 (by decide) rfl rfl ?_
  refine q_iload_n dX9_isOpen_13 rfl rfl ?_
  obtain ⟨c259, h⟩ := qk_some h
  refine q_iaload dX9_isOpen_14 (hL 36 (by decide)) sh_36 (qIx_0 c259) (qIx_1 c259) rfl ?_
  refine q_iadd dX9_isOpen_15 rfl ?_
  refine q_iload_n dX9_isOpen_16 rfl rfl ?_
  refine q_aload_n dX9_isOpen_17 rfl rfl ?_
  refine q_getA dX9_isOpen_18 fl_X9_15 (hL 5 (by decide)) sh_5 (by decide) rfl rfl ?_
  refine q_getA dX9_isOpen_21 fl_X9_48 (hL 2 (by decide)) sh_2 (by decide) rfl rfl ?_
  refine q_iconst dX9_isOpen_24 rfl rfl ?_
  refine q_iaload dX9_isOpen_25 (hL 15 (by decide)) sh_15 (by decide) (by decide) rfl ?_
  refine q_iadd dX9_isOpen_26 rfl ?_
  obtain ⟨c260, h⟩ := qk_some h
  obtain ⟨c261, h⟩ := qk_some h
  refine q_icmp_lt (tgt := 34) dX9_isOpen_27 (by decide) rfl (qRb_R c260) (qRb_R c261) (fun g => ?_) (fun g => ?_)
  · rw [if_pos (show ((S 15 3) + (S 36 (Int.toNat a2))) < (a1 + (S 15 2)) from g)] at h
    refine q_iconst dX9_isOpen_34 rfl rfl ?_
    cases h
    exact q_zreturn dX9_isOpen_35 rfl (by decide) hQ
  · rw [if_neg (show ¬ (((S 15 3) + (S 36 (Int.toNat a2))) < (a1 + (S 15 2))) from g)] at h
    refine q_iconst dX9_isOpen_30 rfl rfl ?_
    refine q_goto (pc' := 35) dX9_isOpen_31 (by decide) ?_
    cases h
    exact q_zreturn dX9_isOpen_35 rfl (by decide) hQ
set_option maxRecDepth 20000 in
theorem C_open_ok {X : qX} (hL : ∀ c, c < 93 → c ∈ qLs X) (d : Nat) (a1 : Int) (a2 : Int) (S : qSto) (o : (Int × qSto)) (h : C_open a1 a2 S = some o) (Q : Option qV → qSto → Prop) (hQ : Q (some (qi o.1)) o.2) : qC X (d + 1) yX11_open cX11_open 3 (some .int) [qr 0, qi a1, qi a2] S Q := by
  refine q_entry (lv := [(0, qr 0), (1, qi a1), (2, qi a2)]) pn_X11 (Nat.le_of_ble_eq_true rfl) rfl ?_
  unfold C_open at h
  refine q_iload_n dX11_open_0 rfl rfl ?_
  obtain ⟨q253, h254, h⟩ := Option.bind_eq_some_iff.mp h
  refine q_callSi (as := [qi a1]) dX11_open_1 ml_X11_251 rfl rfl (Nat.le_of_ble_eq_true rfl) (C_isWater_ok hL d a1 _ _ h254) rfl ?_
  obtain ⟨c255, h⟩ := qk_some h
  refine q_if_eq (tgt := 14) dX11_open_4 (by decide) rfl (qRb_R c255)  (fun g => ?_) (fun g => ?_)
  · rw [if_pos (show q253.1 = 0 from g)] at h
    refine q_iconst dX11_open_14 rfl rfl ?_
    cases h
    exact q_ireturn dX11_open_15 rfl hQ
  · rw [if_neg (show ¬ (q253.1 = 0) from g)] at h
    refine q_iload_n dX11_open_7 rfl rfl ?_
    obtain ⟨q256, h257, h⟩ := Option.bind_eq_some_iff.mp h
    refine q_callSi (as := [qi a2]) dX11_open_8 ml_X11_194 rfl rfl (Nat.le_of_ble_eq_true rfl) (C_isSlot_ok hL d a2 _ _ h257) rfl ?_
    obtain ⟨c258, h⟩ := qk_some h
    refine q_if_ne (tgt := 16) dX11_open_11 (by decide) rfl (qRb_R c258)  (fun g => ?_) (fun g => ?_)
    · rw [if_neg (show ¬ (q256.1 = 0) from g)] at h
      refine q_aload_n dX11_open_16 rfl rfl ?_
      refine q_getA dX11_open_17 fl_X11_40 (hL 0 (by decide)) sh_0 (by decide) rfl rfl ?_
      refine q_iload_n dX11_open_20 rfl rfl ?_
      refine q_iload_n dX11_open_21 rfl rfl ?_
      obtain ⟨q262, h263, h⟩ := Option.bind_eq_some_iff.mp h
      refine q_callVi (as := [qi a1, qi a2]) (c := 5) dX11_open_22 ml_X11_254 rfl rfl (hL 5 (by decide)) sh_5 rfl rfl (Nat.le_of_ble_eq_true rfl) (Waters_isOpen_ok hL d a1 a2 _ _ h263) rfl ?_
      obtain ⟨c264, h⟩ := qk_some h
      refine q_if_eq (tgt := 32) dX11_open_25 (by decide) rfl (qRb_R c264)  (fun g => ?_) (fun g => ?_)
      · rw [if_pos (show q262.1 = 0 from g)] at h
        refine q_iconst dX11_open_32 rfl rfl ?_
        cases h
        exact q_ireturn dX11_open_33 rfl hQ
      · rw [if_neg (show ¬ (q262.1 = 0) from g)] at h
        refine q_iconst dX11_open_28 rfl rfl ?_
        refine q_goto (pc' := 33) dX11_open_29 (by decide) ?_
        cases h
        exact q_ireturn dX11_open_33 rfl hQ
    · rw [if_pos (show q256.1 = 0 from g)] at h
      refine q_iconst dX11_open_14 rfl rfl ?_
      cases h
      exact q_ireturn dX11_open_15 rfl hQ
set_option maxRecDepth 20000 in
theorem Waters_firstOpen_L2_ok {X : qX} (hL : ∀ c, c < 93 → c ∈ qLs X) (d : Nat) {Q : Option qV → qSto → Prop} : ∀ (n : Nat) (x1 : Int) (x3 : Int) (S : qSto) (o : (qSto ⊕ (Int × qSto))), Waters_firstOpen_L2 n x1 x3 S = some o → (∀ t, o = Sum.inl t → qW X (d + 1) yX9_firstOpen cX9_firstOpen 4 (some .int) 26 [] [] t Q) → (∀ w, o = Sum.inr w → Q (some (qi w.1)) w.2) → qW X (d + 1) yX9_firstOpen cX9_firstOpen 4 (some .int) 2 [(0, qr 5), (1, qi x1), (3, qi x3)] [] S Q := by
  intro n
  induction n with
  | zero =>
    intro x1 x3 S o h
    simp [Waters_firstOpen_L2] at h
  | succ n ih =>
    intro x1 x3 S o h hE hR
    rw [Waters_firstOpen_L2] at h
    refine q_iload_n dX9_firstOpen_2 rfl rfl ?_
    refine q_sipush dX9_firstOpen_3 (by decide) rfl ?_
    obtain ⟨c271, h⟩ := qk_some h
    refine q_icmp_ge (tgt := 26) dX9_firstOpen_6 (by decide) rfl (qRb_R c271) ⟨by decide, by decide⟩ (fun g => ?_) (fun g => ?_)
    · rw [if_pos (show 336 ≤ x3 from g)] at h
      cases h
      exact q_pick [] rfl (hE _ rfl)
    · rw [if_neg (show ¬ (336 ≤ x3) from g)] at h
      refine q_aload_n dX9_firstOpen_9 rfl rfl ?_
      refine q_iload_n dX9_firstOpen_10 rfl rfl ?_
      refine q_iload_n dX9_firstOpen_11 rfl rfl ?_
      obtain ⟨q272, h273, h⟩ := Option.bind_eq_some_iff.mp h
      refine q_callVi (as := [qi x1, qi x3]) (c := 5) dX9_firstOpen_12 ml_X9_51 rfl rfl (hL 5 (by decide)) sh_5 rfl rfl (Nat.le_of_ble_eq_true rfl) (Waters_isOpen_ok hL d x1 x3 _ _ h273) rfl ?_
      obtain ⟨c274, h⟩ := qk_some h
      refine q_if_eq (tgt := 20) dX9_firstOpen_15 (by decide) rfl (qRb_R c274)  (fun g => ?_) (fun g => ?_)
      · rw [if_pos (show q272.1 = 0 from g)] at h
        refine q_iinc (lv' := [(3, qi (x3 + 1)), (0, qr 5), (1, qi x1)]) dX9_firstOpen_20 (by decide) rfl rfl rfl ?_
        refine q_goto (pc' := 2) dX9_firstOpen_23 (by decide) ?_
        exact q_pick [1, 2, 0] rfl (ih x1 (x3 + 1) _ _ h hE hR)
      · rw [if_neg (show ¬ (q272.1 = 0) from g)] at h
        refine q_iload_n dX9_firstOpen_18 rfl rfl ?_
        cases h
        exact q_ireturn dX9_firstOpen_19 rfl (hR _ rfl)
set_option maxRecDepth 20000 in
theorem Waters_firstOpen_ok {X : qX} (hL : ∀ c, c < 93 → c ∈ qLs X) (d : Nat) (a1 : Int) (a2 : Int) (S : qSto) (o : (Int × qSto)) (h : Waters_firstOpen a1 a2 S = some o) (Q : Option qV → qSto → Prop) (hQ : Q (some (qi o.1)) o.2) : qC X (d + 1) yX9_firstOpen cX9_firstOpen 4 (some .int) [qr 5, qi a1, qi a2] S Q := by
  refine q_entry (lv := [(0, qr 5), (1, qi a1), (2, qi a2)]) pn_X9 (Nat.le_of_ble_eq_true rfl) rfl ?_
  unfold Waters_firstOpen at h
  refine q_iload_n dX9_firstOpen_0 rfl rfl ?_
  refine q_istore_n (lv' := [(3, qi a2), (0, qr 5), (1, qi a1), (2, qi a2)]) dX9_firstOpen_1 (by decide) rfl rfl ?_
  obtain ⟨q275, h276, h⟩ := Option.bind_eq_some_iff.mp h
  refine q_pick [1, 2, 0] rfl (Waters_firstOpen_L2_ok hL d qF a1 a2 _ _ h276 (fun t277 e3760 => ?_) (fun w e3760 => ?_))
  · subst e3760
    simp only [Sum.elim_inl] at h
    refine q_iconst dX9_firstOpen_26 rfl rfl ?_
    cases h
    exact q_ireturn dX9_firstOpen_27 rfl hQ
  · subst e3760
    simp only [Sum.elim_inr] at h
    cases h
    exact hQ
set_option maxRecDepth 20000 in
theorem C_next_ok {X : qX} (hL : ∀ c, c < 93 → c ∈ qLs X) (d : Nat) (a1 : Int) (a2 : Int) (S : qSto) (o : (Int × qSto)) (h : C_next a1 a2 S = some o) (Q : Option qV → qSto → Prop) (hQ : Q (some (qi o.1)) o.2) : qC X (d + 2) yX11_next cX11_next 4 (some .int) [qr 0, qi a1, qi a2] S Q := by
  refine q_entry (lv := [(0, qr 0), (1, qi a1), (2, qi a2)]) pn_X11 (Nat.le_of_ble_eq_true rfl) rfl ?_
  unfold C_next at h
  refine q_iload_n dX11_next_0 rfl rfl ?_
  obtain ⟨q265, h266, h⟩ := Option.bind_eq_some_iff.mp h
  refine q_callSi (as := [qi a1]) dX11_next_1 ml_X11_251 rfl rfl (Nat.le_of_ble_eq_true rfl) (C_isWater_ok hL (d + 1) a1 _ _ h266) rfl ?_
  obtain ⟨c267, h⟩ := qk_some h
  refine q_if_eq (tgt := 14) dX11_next_4 (by decide) rfl (qRb_R c267)  (fun g => ?_) (fun g => ?_)
  · rw [if_pos (show q265.1 = 0 from g)] at h
    refine q_iconst dX11_next_14 rfl rfl ?_
    cases h
    exact q_ireturn dX11_next_15 rfl hQ
  · rw [if_neg (show ¬ (q265.1 = 0) from g)] at h
    refine q_iload_n dX11_next_7 rfl rfl ?_
    obtain ⟨q268, h269, h⟩ := Option.bind_eq_some_iff.mp h
    refine q_callSi (as := [qi a2]) dX11_next_8 ml_X11_194 rfl rfl (Nat.le_of_ble_eq_true rfl) (C_isSlot_ok hL (d + 1) a2 _ _ h269) rfl ?_
    obtain ⟨c270, h⟩ := qk_some h
    refine q_if_ne (tgt := 16) dX11_next_11 (by decide) rfl (qRb_R c270)  (fun g => ?_) (fun g => ?_)
    · rw [if_neg (show ¬ (q268.1 = 0) from g)] at h
      refine q_aload_n dX11_next_16 rfl rfl ?_
      refine q_getA dX11_next_17 fl_X11_40 (hL 0 (by decide)) sh_0 (by decide) rfl rfl ?_
      refine q_iload_n dX11_next_20 rfl rfl ?_
      refine q_iload_n dX11_next_21 rfl rfl ?_
      obtain ⟨q278, h279, h⟩ := Option.bind_eq_some_iff.mp h
      refine q_callVi (as := [qi a1, qi a2]) (c := 5) dX11_next_22 ml_X11_257 rfl rfl (hL 5 (by decide)) sh_5 rfl rfl (Nat.le_of_ble_eq_true rfl) (Waters_firstOpen_ok hL d a1 a2 _ _ h279) rfl ?_
      refine q_istore_n (lv' := [(3, qi q278.1), (0, qr 0), (1, qi a1), (2, qi a2)]) dX11_next_25 (by decide) rfl rfl ?_
      refine q_iload_n dX11_next_26 rfl rfl ?_
      refine q_iconst dX11_next_27 rfl rfl ?_
      obtain ⟨c280, h⟩ := qk_some h
      refine q_icmp_ne (tgt := 36) dX11_next_28 (by decide) rfl (qRb_R c280) ⟨by decide, by decide⟩ (fun g => ?_) (fun g => ?_)
      · rw [if_neg (show ¬ (q278.1 = (-1)) from g)] at h
        refine q_iload_n dX11_next_36 rfl rfl ?_
        cases h
        exact q_ireturn dX11_next_37 rfl hQ
      · rw [if_pos (show q278.1 = (-1) from g)] at h
        refine q_bipush dX11_next_31 (by decide) rfl ?_
        refine q_goto (pc' := 37) dX11_next_33 (by decide) ?_
        cases h
        exact q_ireturn dX11_next_37 rfl hQ
    · rw [if_pos (show q268.1 = 0 from g)] at h
      refine q_iconst dX11_next_14 rfl rfl ?_
      cases h
      exact q_ireturn dX11_next_15 rfl hQ
