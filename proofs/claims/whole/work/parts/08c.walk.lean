set_option maxRecDepth 20000 in
theorem C_letter_ok {X : qX} (hL : ∀ c, c < 93 → c ∈ qLs X) (d : Nat) (a1 : Int) (a2 : Int) (S : qSto) (o : (Int × qSto)) (h : C_letter a1 a2 S = some o) (Q : Option qV → qSto → Prop) (hQ : Q (some (qi o.1)) o.2) : qC X (d + 1) yX11_letter cX11_letter 4 (some .int) [qr 0, qi a1, qi a2] S Q := by
  refine q_entry (lv := [(0, qr 0), (1, qi a1), (2, qi a2)]) pn_X11 (Nat.le_of_ble_eq_true rfl) rfl ?_
  unfold C_letter at h
  refine q_aload_n dX11_letter_0 rfl rfl ?_
  refine q_iload_n dX11_letter_1 rfl rfl ?_
  obtain ⟨q553, h554, h⟩ := Option.bind_eq_some_iff.mp h
  refine q_callVi (as := [qi a1]) (c := 0) dX11_letter_2 ml_X11_216 rfl rfl (hL 0 (by decide)) sh_0 rfl rfl (Nat.le_of_ble_eq_true rfl) (C_isShip_ok hL d a1 _ _ h554) rfl ?_
  obtain ⟨c555, h⟩ := qk_some h
  refine q_if_eq (tgt := 18) dX11_letter_5 (by decide) rfl (qRb_R c555)  (fun g => ?_) (fun g => ?_)
  · rw [if_pos (show q553.1 = 0 from g)] at h
    refine q_iconst dX11_letter_18 rfl rfl ?_
    cases h
    exact q_ireturn dX11_letter_19 rfl hQ
  · rw [if_neg (show ¬ (q553.1 = 0) from g)] at h
    refine q_iload_n dX11_letter_8 rfl rfl ?_
    obtain ⟨c556, h⟩ := qk_some h
    refine q_if_lt (tgt := 18) dX11_letter_9 (by decide) rfl (qRb_R c556)  (fun g => ?_) (fun g => ?_)
    · rw [if_pos (show a2 < 0 from g)] at h
      refine q_iconst dX11_letter_18 rfl rfl ?_
      cases h
      exact q_ireturn dX11_letter_19 rfl hQ
    · rw [if_neg (show ¬ (a2 < 0) from g)] at h
      refine q_iload_n dX11_letter_12 rfl rfl ?_
      refine q_bipush dX11_letter_13 (by decide) rfl ?_
      obtain ⟨c557, h⟩ := qk_some h
      refine q_icmp_lt (tgt := 20) dX11_letter_15 (by decide) rfl (qRb_R c557) ⟨by decide, by decide⟩ (fun g => ?_) (fun g => ?_)
      · rw [if_pos (show a2 < 8 from g)] at h
        refine q_aload_n dX11_letter_20 rfl rfl ?_
        refine q_getA dX11_letter_21 fl_X11_16 (hL 0 (by decide)) sh_0 (by decide) rfl rfl ?_
        refine q_iload_n dX11_letter_24 rfl rfl ?_
        refine q_iload_n dX11_letter_25 rfl rfl ?_
        obtain ⟨q560, h561, h⟩ := Option.bind_eq_some_iff.mp h
        refine q_callVi (as := [qi a1, qi a2]) (c := 2) dX11_letter_26 ml_X11_242 rfl rfl (hL 2 (by decide)) sh_2 rfl rfl (Nat.le_of_ble_eq_true rfl) (Told_nameByte_ok hL d a1 a2 _ _ h561) rfl ?_
        refine q_istore_n (lv' := [(3, qi q560.1), (0, qr 0), (1, qi a1), (2, qi a2)]) dX11_letter_29 (by decide) rfl rfl ?_
        refine q_iload_n dX11_letter_30 rfl rfl ?_
        obtain ⟨c562, h⟩ := qk_some h
        refine q_if_ne (tgt := 38) dX11_letter_31 (by decide) rfl (qRb_R c562)  (fun g => ?_) (fun g => ?_)
        · rw [if_neg (show ¬ (q560.1 = 0) from g)] at h
          refine q_iload_n dX11_letter_38 rfl rfl ?_
          refine q_bipush dX11_letter_39 (by decide) rfl ?_
          refine q_isub dX11_letter_41 rfl ?_
          refine q_iconst dX11_letter_42 rfl rfl ?_
          refine q_iadd dX11_letter_43 rfl ?_
          cases h
          exact q_ireturn dX11_letter_44 rfl hQ
        · rw [if_pos (show q560.1 = 0 from g)] at h
          refine q_iconst dX11_letter_34 rfl rfl ?_
          refine q_goto (pc' := 44) dX11_letter_35 (by decide) ?_
          cases h
          exact q_ireturn dX11_letter_44 rfl hQ
      · rw [if_neg (show ¬ (a2 < 8) from g)] at h
        refine q_iconst dX11_letter_18 rfl rfl ?_
        cases h
        exact q_ireturn dX11_letter_19 rfl hQ
set_option maxRecDepth 20000 in
theorem C_isCraneNumber_ok {X : qX} (hL : ∀ c, c < 93 → c ∈ qLs X) (d : Nat) (a0 : Int) (S : qSto) (o : (Int × qSto)) (h : C_isCraneNumber a0 S = some o) (Q : Option qV → qSto → Prop) (hQ : Q (some (qi o.1)) o.2) : qC X d yX11_isCraneNumber cX11_isCraneNumber 1 (some .boolean) [qi a0] S Q := by
  refine q_entry (lv := [(0, qi a0)]) pn_X11 (Nat.le_of_ble_eq_true rfl) rfl ?_
  unfold C_isCraneNumber at h
  refine q_iload_n dX11_isCraneNumber_0 rfl rfl ?_
  refine q_iconst dX11_isCraneNumber_1 rfl rfl ?_
  obtain ⟨c563, h⟩ := qk_some h
  refine q_icmp_lt (tgt := 15) dX11_isCraneNumber_2 (by decide) rfl (qRb_R c563) ⟨by decide, by decide⟩ (fun g => ?_) (fun g => ?_)
  · rw [if_pos (show a0 < 1 from g)] at h
    refine q_iconst dX11_isCraneNumber_15 rfl rfl ?_
    cases h
    exact q_zreturn dX11_isCraneNumber_16 rfl (by decide) hQ
  · rw [if_neg (show ¬ (a0 < 1) from g)] at h
    refine q_iload_n dX11_isCraneNumber_5 rfl rfl ?_
    refine q_bipush dX11_isCraneNumber_6 (by decide) rfl ?_
    obtain ⟨c564, h⟩ := qk_some h
    refine q_icmp_gt (tgt := 15) dX11_isCraneNumber_8 (by decide) rfl (qRb_R c564) ⟨by decide, by decide⟩ (fun g => ?_) (fun g => ?_)
    · rw [if_pos (show 8 < a0 from g)] at h
      refine q_iconst dX11_isCraneNumber_15 rfl rfl ?_
      cases h
      exact q_zreturn dX11_isCraneNumber_16 rfl (by decide) hQ
    · rw [if_neg (show ¬ (8 < a0) from g)] at h
      refine q_iconst dX11_isCraneNumber_11 rfl rfl ?_
      refine q_goto (pc' := 16) dX11_isCraneNumber_12 (by decide) ?_
      cases h
      exact q_zreturn dX11_isCraneNumber_16 rfl (by decide) hQ
set_option maxRecDepth 20000 in
theorem Told_movesWith_ok {X : qX} (hL : ∀ c, c < 93 → c ∈ qLs X) (d : Nat) (a1 : Int) (S : qSto) (o : (Int × qSto)) (h : Told_movesWith a1 S = some o) (Q : Option qV → qSto → Prop) (hQ : Q (some (qi o.1)) o.2) : qC X (d + 1) yX8_movesWith cX8_movesWith 2 (some .int) [qr 2, qi a1] S Q := by
  refine q_entry (lv := [(0, qr 2), (1, qi a1)]) pn_X8 (Nat.le_of_ble_eq_true rfl) rfl ?_
  unfold Told_movesWith at h
  refine q_iload_n dX8_movesWith_0 rfl rfl ?_
  refine q_iload_n dX8_movesWith_1 rfl rfl ?_
  refine q_aload_n dX8_movesWith_2 rfl rfl ?_
  refine q_getA dX8_movesWith_3 fl_X8_9 (hL 2 (by decide)) sh_2 (by decide) rfl rfl ?_
  refine q_iconst dX8_movesWith_6 rfl rfl ?_
  refine q_iaload dX8_movesWith_7 (hL 15 (by decide)) sh_15 (by decide) (by decide) rfl ?_
  refine q_imul dX8_movesWith_8 rfl ?_
  refine q_bipush dX8_movesWith_9 (by decide) rfl ?_
  refine q_aload_n dX8_movesWith_11 rfl rfl ?_
  refine q_getA dX8_movesWith_12 fl_X8_9 (hL 2 (by decide)) sh_2 (by decide) rfl rfl ?_
  refine q_iconst dX8_movesWith_15 rfl rfl ?_
  refine q_iaload dX8_movesWith_16 (hL 15 (by decide)) sh_15 (by decide) (by decide) rfl ?_
  refine q_iload_n dX8_movesWith_17 rfl rfl ?_
  refine q_iconst dX8_movesWith_18 rfl rfl ?_
  refine q_isub dX8_movesWith_19 rfl ?_
  refine q_imul dX8_movesWith_20 rfl ?_
  refine q_isub dX8_movesWith_21 rfl ?_
  refine q_imul dX8_movesWith_22 rfl ?_
  refine q_bipush dX8_movesWith_23 (by decide) rfl ?_
  obtain ⟨c568, h⟩ := qk_some h
  refine q_idiv dX8_movesWith_25 (qRb_R c568) ⟨by decide, by decide⟩ (by decide) rfl ?_
  obtain ⟨q569, h570, h⟩ := Option.bind_eq_some_iff.mp h
  refine q_callSi (as := [qi a1, qi (Int.tdiv ((a1 * (S 15 4)) * (100 - ((S 15 5) * (a1 - 1)))) 100)]) dX8_movesWith_26 ml_X8_90 rfl rfl (Nat.le_of_ble_eq_true rfl) (Jm_max_ok hL d a1 (Int.tdiv ((a1 * (S 15 4)) * (100 - ((S 15 5) * (a1 - 1)))) 100) _ _ h570) rfl ?_
  cases h
  exact q_ireturn dX8_movesWith_29 rfl hQ
set_option maxRecDepth 20000 in
theorem C_moves_ok {X : qX} (hL : ∀ c, c < 93 → c ∈ qLs X) (d : Nat) (a1 : Int) (S : qSto) (o : (Int × qSto)) (h : C_moves a1 S = some o) (Q : Option qV → qSto → Prop) (hQ : Q (some (qi o.1)) o.2) : qC X (d + 2) yX11_moves cX11_moves 2 (some .int) [qr 0, qi a1] S Q := by
  refine q_entry (lv := [(0, qr 0), (1, qi a1)]) pn_X11 (Nat.le_of_ble_eq_true rfl) rfl ?_
  unfold C_moves at h
  refine q_iload_n dX11_moves_0 rfl rfl ?_
  obtain ⟨q565, h566, h⟩ := Option.bind_eq_some_iff.mp h
  refine q_callSi (as := [qi a1]) dX11_moves_1 ml_X11_245 rfl rfl (Nat.le_of_ble_eq_true rfl) (C_isCraneNumber_ok hL (d + 1) a1 _ _ h566) rfl ?_
  obtain ⟨c567, h⟩ := qk_some h
  refine q_if_eq (tgt := 18) dX11_moves_4 (by decide) rfl (qRb_R c567)  (fun g => ?_) (fun g => ?_)
  · rw [if_pos (show q565.1 = 0 from g)] at h
    refine q_iconst dX11_moves_18 rfl rfl ?_
    cases h
    exact q_ireturn dX11_moves_19 rfl hQ
  · rw [if_neg (show ¬ (q565.1 = 0) from g)] at h
    refine q_aload_n dX11_moves_7 rfl rfl ?_
    refine q_getA dX11_moves_8 fl_X11_16 (hL 0 (by decide)) sh_0 (by decide) rfl rfl ?_
    refine q_iload_n dX11_moves_11 rfl rfl ?_
    obtain ⟨q571, h572, h⟩ := Option.bind_eq_some_iff.mp h
    refine q_callVi (as := [qi a1]) (c := 2) dX11_moves_12 ml_X11_248 rfl rfl (hL 2 (by decide)) sh_2 rfl rfl (Nat.le_of_ble_eq_true rfl) (Told_movesWith_ok hL d a1 _ _ h572) rfl ?_
    refine q_goto (pc' := 19) dX11_moves_15 (by decide) ?_
    cases h
    exact q_ireturn dX11_moves_19 rfl hQ
set_option maxRecDepth 20000 in
theorem C_isWater_ok {X : qX} (hL : ∀ c, c < 93 → c ∈ qLs X) (d : Nat) (a0 : Int) (S : qSto) (o : (Int × qSto)) (h : C_isWater a0 S = some o) (Q : Option qV → qSto → Prop) (hQ : Q (some (qi o.1)) o.2) : qC X d yX11_isWater cX11_isWater 1 (some .boolean) [qi a0] S Q := by
  refine q_entry (lv := [(0, qi a0)]) pn_X11 (Nat.le_of_ble_eq_true rfl) rfl ?_
  unfold C_isWater at h
  refine q_iload_n dX11_isWater_0 rfl rfl ?_
  obtain ⟨c573, h⟩ := qk_some h
  refine q_if_lt (tgt := 15) dX11_isWater_1 (by decide) rfl (qRb_R c573)  (fun g => ?_) (fun g => ?_)
  · rw [if_pos (show a0 < 0 from g)] at h
    refine q_iconst dX11_isWater_15 rfl rfl ?_
    cases h
    exact q_zreturn dX11_isWater_16 rfl (by decide) hQ
  · rw [if_neg (show ¬ (a0 < 0) from g)] at h
    refine q_iload_n dX11_isWater_4 rfl rfl ?_
    refine q_sipush dX11_isWater_5 (by decide) rfl ?_
    obtain ⟨c574, h⟩ := qk_some h
    refine q_icmp_gt (tgt := 15) dX11_isWater_8 (by decide) rfl (qRb_R c574) ⟨by decide, by decide⟩ (fun g => ?_) (fun g => ?_)
    · rw [if_pos (show 300 < a0 from g)] at h
      refine q_iconst dX11_isWater_15 rfl rfl ?_
      cases h
      exact q_zreturn dX11_isWater_16 rfl (by decide) hQ
    · rw [if_neg (show ¬ (300 < a0) from g)] at h
      refine q_iconst dX11_isWater_11 rfl rfl ?_
      refine q_goto (pc' := 16) dX11_isWater_12 (by decide) ?_
      cases h
      exact q_zreturn dX11_isWater_16 rfl (by decide) hQ
set_option maxRecDepth 20000 in
theorem Waters_isOpen_ok {X : qX} (hL : ∀ c, c < 93 → c ∈ qLs X) (d : Nat) (a1 : Int) (a2 : Int) (S : qSto) (o : (Int × qSto)) (h : Waters_isOpen a1 a2 S = some o) (Q : Option qV → qSto → Prop) (hQ : Q (some (qi o.1)) o.2) : qC X d yX9_isOpen cX9_isOpen 3 (some .boolean) [qr 5, qi a1, qi a2] S Q := by
  refine q_entry (lv := [(0, qr 5), (1, qi a1), (2, qi a2)]) pn_X9 (Nat.le_of_ble_eq_true rfl) rfl ?_
  unfold Waters_isOpen at h
  refine q_aload_n dX9_isOpen_0 rfl rfl ?_
  refine q_getA dX9_isOpen_1 fl_X9_15 (hL 5 (by decide)) sh_5 (by decide) rfl rfl ?_
  refine q_getA dX9_isOpen_4 fl_X9_48 (hL 2 (by decide)) sh_2 (by decide) rfl rfl ?_
  refine q_iconst dX9_isOpen_7 rfl rfl ?_
  refine q_iaload dX9_isOpen_8 (hL 15 (by decide)) sh_15 (by decide) (by decide) rfl ?_
  refine q_aload_n dX9_isOpen_9 rfl rfl ?_
  refine q_getA dX9_isOpen_10 fl_X9_9 (hL 5 (by decide)) sh_5 (by decide) rfl rfl ?_
  refine q_iload_n dX9_isOpen_13 rfl rfl ?_
  obtain ⟨c581, h⟩ := qk_some h
  refine q_iaload dX9_isOpen_14 (hL 36 (by decide)) sh_36 (qIx_0 c581) (qIx_1 c581) rfl ?_
  refine q_iadd dX9_isOpen_15 rfl ?_
  refine q_iload_n dX9_isOpen_16 rfl rfl ?_
  refine q_aload_n dX9_isOpen_17 rfl rfl ?_
  refine q_getA dX9_isOpen_18 fl_X9_15 (hL 5 (by decide)) sh_5 (by decide) rfl rfl ?_
  refine q_getA dX9_isOpen_21 fl_X9_48 (hL 2 (by decide)) sh_2 (by decide) rfl rfl ?_
  refine q_iconst dX9_isOpen_24 rfl rfl ?_
  refine q_iaload dX9_isOpen_25 (hL 15 (by decide)) sh_15 (by decide) (by decide) rfl ?_
  refine q_iadd dX9_isOpen_26 rfl ?_
  obtain ⟨c582, h⟩ := qk_some h
  obtain ⟨c583, h⟩ := qk_some h
  refine q_icmp_lt (tgt := 34) dX9_isOpen_27 (by decide) rfl (qRb_R c582) (qRb_R c583) (fun g => ?_) (fun g => ?_)
  · rw [if_pos (show ((S 15 3) + (S 36 (Int.toNat a2))) < (a1 + (S 15 2)) from g)] at h
    refine q_iconst dX9_isOpen_34 rfl rfl ?_
    cases h
    exact q_zreturn dX9_isOpen_35 rfl (by decide) hQ
  · rw [if_neg (show ¬ (((S 15 3) + (S 36 (Int.toNat a2))) < (a1 + (S 15 2))) from g)] at h
    refine q_iconst dX9_isOpen_30 rfl rfl ?_
    refine q_goto (pc' := 35) dX9_isOpen_31 (by decide) ?_
    cases h
    exact q_zreturn dX9_isOpen_35 rfl (by decide) hQ
set_option maxRecDepth 20000 in
theorem C_open_ok {X : qX} (hL : ∀ c, c < 93 → c ∈ qLs X) (d : Nat) (a1 : Int) (a2 : Int) (S : qSto) (o : (Int × qSto)) (h : C_open a1 a2 S = some o) (Q : Option qV → qSto → Prop) (hQ : Q (some (qi o.1)) o.2) : qC X (d + 1) yX11_open cX11_open 3 (some .int) [qr 0, qi a1, qi a2] S Q := by
  refine q_entry (lv := [(0, qr 0), (1, qi a1), (2, qi a2)]) pn_X11 (Nat.le_of_ble_eq_true rfl) rfl ?_
  unfold C_open at h
  refine q_iload_n dX11_open_0 rfl rfl ?_
  obtain ⟨q575, h576, h⟩ := Option.bind_eq_some_iff.mp h
  refine q_callSi (as := [qi a1]) dX11_open_1 ml_X11_251 rfl rfl (Nat.le_of_ble_eq_true rfl) (C_isWater_ok hL d a1 _ _ h576) rfl ?_
  obtain ⟨c577, h⟩ := qk_some h
  refine q_if_eq (tgt := 14) dX11_open_4 (by decide) rfl (qRb_R c577)  (fun g => ?_) (fun g => ?_)
  · rw [if_pos (show q575.1 = 0 from g)] at h
    refine q_iconst dX11_open_14 rfl rfl ?_
    cases h
    exact q_ireturn dX11_open_15 rfl hQ
  · rw [if_neg (show ¬ (q575.1 = 0) from g)] at h
    refine q_iload_n dX11_open_7 rfl rfl ?_
    obtain ⟨q578, h579, h⟩ := Option.bind_eq_some_iff.mp h
    refine q_callSi (as := [qi a2]) dX11_open_8 ml_X11_194 rfl rfl (Nat.le_of_ble_eq_true rfl) (C_isSlot_ok hL d a2 _ _ h579) rfl ?_
    obtain ⟨c580, h⟩ := qk_some h
    refine q_if_ne (tgt := 16) dX11_open_11 (by decide) rfl (qRb_R c580)  (fun g => ?_) (fun g => ?_)
    · rw [if_neg (show ¬ (q578.1 = 0) from g)] at h
      refine q_aload_n dX11_open_16 rfl rfl ?_
      refine q_getA dX11_open_17 fl_X11_40 (hL 0 (by decide)) sh_0 (by decide) rfl rfl ?_
      refine q_iload_n dX11_open_20 rfl rfl ?_
      refine q_iload_n dX11_open_21 rfl rfl ?_
      obtain ⟨q584, h585, h⟩ := Option.bind_eq_some_iff.mp h
      refine q_callVi (as := [qi a1, qi a2]) (c := 5) dX11_open_22 ml_X11_254 rfl rfl (hL 5 (by decide)) sh_5 rfl rfl (Nat.le_of_ble_eq_true rfl) (Waters_isOpen_ok hL d a1 a2 _ _ h585) rfl ?_
      obtain ⟨c586, h⟩ := qk_some h
      refine q_if_eq (tgt := 32) dX11_open_25 (by decide) rfl (qRb_R c586)  (fun g => ?_) (fun g => ?_)
      · rw [if_pos (show q584.1 = 0 from g)] at h
        refine q_iconst dX11_open_32 rfl rfl ?_
        cases h
        exact q_ireturn dX11_open_33 rfl hQ
      · rw [if_neg (show ¬ (q584.1 = 0) from g)] at h
        refine q_iconst dX11_open_28 rfl rfl ?_
        refine q_goto (pc' := 33) dX11_open_29 (by decide) ?_
        cases h
        exact q_ireturn dX11_open_33 rfl hQ
    · rw [if_pos (show q578.1 = 0 from g)] at h
      refine q_iconst dX11_open_14 rfl rfl ?_
      cases h
      exact q_ireturn dX11_open_15 rfl hQ
set_option maxRecDepth 20000 in
theorem Waters_firstOpen_L2_ok {X : qX} (hL : ∀ c, c < 93 → c ∈ qLs X) (d : Nat) {Q : Option qV → qSto → Prop} : ∀ (n : Nat) (x1 : Int) (x3 : Int) (S : qSto) (o : (qSto ⊕ (Int × qSto))), Waters_firstOpen_L2 n x1 x3 S = some o → (∀ t, o = Sum.inl t → qW X (d + 1) yX9_firstOpen cX9_firstOpen 4 (some .int) 26 [] [] t Q) → (∀ w, o = Sum.inr w → Q (some (qi w.1)) w.2) → qW X (d + 1) yX9_firstOpen cX9_firstOpen 4 (some .int) 2 [(0, qr 5), (1, qi x1), (3, qi x3)] [] S Q := by
  intro n
  induction n with
  | zero =>
    intro x1 x3 S o h
    simp [Waters_firstOpen_L2] at h
  | succ n ih =>
    intro x1 x3 S o h hE hR
    rw [Waters_firstOpen_L2] at h
    refine q_iload_n dX9_firstOpen_2 rfl rfl ?_
    refine q_sipush dX9_firstOpen_3 (by decide) rfl ?_
    obtain ⟨c593, h⟩ := qk_some h
    refine q_icmp_ge (tgt := 26) dX9_firstOpen_6 (by decide) rfl (qRb_R c593) ⟨by decide, by decide⟩ (fun g => ?_) (fun g => ?_)
    · rw [if_pos (show 336 ≤ x3 from g)] at h
      cases h
      exact q_pick [] rfl (hE _ rfl)
    · rw [if_neg (show ¬ (336 ≤ x3) from g)] at h
      refine q_aload_n dX9_firstOpen_9 rfl rfl ?_
      refine q_iload_n dX9_firstOpen_10 rfl rfl ?_
      refine q_iload_n dX9_firstOpen_11 rfl rfl ?_
      obtain ⟨q594, h595, h⟩ := Option.bind_eq_some_iff.mp h
      refine q_callVi (as := [qi x1, qi x3]) (c := 5) dX9_firstOpen_12 ml_X9_51 rfl rfl (hL 5 (by decide)) sh_5 rfl rfl (Nat.le_of_ble_eq_true rfl) (Waters_isOpen_ok hL d x1 x3 _ _ h595) rfl ?_
      obtain ⟨c596, h⟩ := qk_some h
      refine q_if_eq (tgt := 20) dX9_firstOpen_15 (by decide) rfl (qRb_R c596)  (fun g => ?_) (fun g => ?_)
      · rw [if_pos (show q594.1 = 0 from g)] at h
        refine q_iinc (lv' := [(3, qi (x3 + 1)), (0, qr 5), (1, qi x1)]) dX9_firstOpen_20 (by decide) rfl rfl rfl ?_
        refine q_goto (pc' := 2) dX9_firstOpen_23 (by decide) ?_
        exact q_pick [1, 2, 0] rfl (ih x1 (x3 + 1) _ _ h hE hR)
      · rw [if_neg (show ¬ (q594.1 = 0) from g)] at h
        refine q_iload_n dX9_firstOpen_18 rfl rfl ?_
        cases h
        exact q_ireturn dX9_firstOpen_19 rfl (hR _ rfl)
set_option maxRecDepth 20000 in
theorem Waters_firstOpen_ok {X : qX} (hL : ∀ c, c < 93 → c ∈ qLs X) (d : Nat) (a1 : Int) (a2 : Int) (S : qSto) (o : (Int × qSto)) (h : Waters_firstOpen a1 a2 S = some o) (Q : Option qV → qSto → Prop) (hQ : Q (some (qi o.1)) o.2) : qC X (d + 1) yX9_firstOpen cX9_firstOpen 4 (some .int) [qr 5, qi a1, qi a2] S Q := by
  refine q_entry (lv := [(0, qr 5), (1, qi a1), (2, qi a2)]) pn_X9 (Nat.le_of_ble_eq_true rfl) rfl ?_
  unfold Waters_firstOpen at h
  refine q_iload_n dX9_firstOpen_0 rfl rfl ?_
  refine q_istore_n (lv' := [(3, qi a2), (0, qr 5), (1, qi a1), (2, qi a2)]) dX9_firstOpen_1 (by decide) rfl rfl ?_
  obtain ⟨q597, h598, h⟩ := Option.bind_eq_some_iff.mp h
  refine q_pick [1, 2, 0] rfl (Waters_firstOpen_L2_ok hL d qF a1 a2 _ _ h598 (fun t599 e4100 => ?_) (fun w e4100 => ?_))
  · subst e4100
    simp only [Sum.elim_inl] at h
    refine q_iconst dX9_firstOpen_26 rfl rfl ?_
    cases h
    exact q_ireturn dX9_firstOpen_27 rfl hQ
  · subst e4100
    simp only [Sum.elim_inr] at h
    cases h
    exact hQ
set_option maxRecDepth 20000 in
theorem C_next_ok {X : qX} (hL : ∀ c, c < 93 → c ∈ qLs X) (d : Nat) (a1 : Int) (a2 : Int) (S : qSto) (o : (Int × qSto)) (h : C_next a1 a2 S = some o) (Q : Option qV → qSto → Prop) (hQ : Q (some (qi o.1)) o.2) : qC X (d + 2) yX11_next cX11_next 4 (some .int) [qr 0, qi a1, qi a2] S Q := by
  refine q_entry (lv := [(0, qr 0), (1, qi a1), (2, qi a2)]) pn_X11 (Nat.le_of_ble_eq_true rfl) rfl ?_
  unfold C_next at h
  refine q_iload_n dX11_next_0 rfl rfl ?_
  obtain ⟨q587, h588, h⟩ := Option.bind_eq_some_iff.mp h
  refine q_callSi (as := [qi a1]) dX11_next_1 ml_X11_251 rfl rfl (Nat.le_of_ble_eq_true rfl) (C_isWater_ok hL (d + 1) a1 _ _ h588) rfl ?_
  obtain ⟨c589, h⟩ := qk_some h
  refine q_if_eq (tgt := 14) dX11_next_4 (by decide) rfl (qRb_R c589)  (fun g => ?_) (fun g => ?_)
  · rw [if_pos (show q587.1 = 0 from g)] at h
    refine q_iconst dX11_next_14 rfl rfl ?_
    cases h
    exact q_ireturn dX11_next_15 rfl hQ
  · rw [if_neg (show ¬ (q587.1 = 0) from g)] at h
    refine q_iload_n dX11_next_7 rfl rfl ?_
    obtain ⟨q590, h591, h⟩ := Option.bind_eq_some_iff.mp h
    refine q_callSi (as := [qi a2]) dX11_next_8 ml_X11_194 rfl rfl (Nat.le_of_ble_eq_true rfl) (C_isSlot_ok hL (d + 1) a2 _ _ h591) rfl ?_
    obtain ⟨c592, h⟩ := qk_some h
    refine q_if_ne (tgt := 16) dX11_next_11 (by decide) rfl (qRb_R c592)  (fun g => ?_) (fun g => ?_)
    · rw [if_neg (show ¬ (q590.1 = 0) from g)] at h
      refine q_aload_n dX11_next_16 rfl rfl ?_
      refine q_getA dX11_next_17 fl_X11_40 (hL 0 (by decide)) sh_0 (by decide) rfl rfl ?_
      refine q_iload_n dX11_next_20 rfl rfl ?_
      refine q_iload_n dX11_next_21 rfl rfl ?_
      obtain ⟨q600, h601, h⟩ := Option.bind_eq_some_iff.mp h
      refine q_callVi (as := [qi a1, qi a2]) (c := 5) dX11_next_22 ml_X11_257 rfl rfl (hL 5 (by decide)) sh_5 rfl rfl (Nat.le_of_ble_eq_true rfl) (Waters_firstOpen_ok hL d a1 a2 _ _ h601) rfl ?_
      refine q_istore_n (lv' := [(3, qi q600.1), (0, qr 0), (1, qi a1), (2, qi a2)]) dX11_next_25 (by decide) rfl rfl ?_
      refine q_iload_n dX11_next_26 rfl rfl ?_
      refine q_iconst dX11_next_27 rfl rfl ?_
      obtain ⟨c602, h⟩ := qk_some h
      refine q_icmp_ne (tgt := 36) dX11_next_28 (by decide) rfl (qRb_R c602) ⟨by decide, by decide⟩ (fun g => ?_) (fun g => ?_)
      · rw [if_neg (show ¬ (q600.1 = (-1)) from g)] at h
        refine q_iload_n dX11_next_36 rfl rfl ?_
        cases h
        exact q_ireturn dX11_next_37 rfl hQ
      · rw [if_pos (show q600.1 = (-1) from g)] at h
        refine q_bipush dX11_next_31 (by decide) rfl ?_
        refine q_goto (pc' := 37) dX11_next_33 (by decide) ?_
        cases h
        exact q_ireturn dX11_next_37 rfl hQ
    · rw [if_pos (show q590.1 = 0 from g)] at h
      refine q_iconst dX11_next_14 rfl rfl ?_
      cases h
      exact q_ireturn dX11_next_15 rfl hQ
set_option maxRecDepth 20000 in
theorem C_shut_L30_ok {X : qX} (hL : ∀ c, c < 93 → c ∈ qLs X) (d : Nat) {Q : Option qV → qSto → Prop} : ∀ (n : Nat) (x1 : Int) (x2 : Int) (x3 : Int) (x4 : Int) (x5 : Int) (x6 : Int) (S : qSto) (o : (Int × Int × qSto)), C_shut_L30 n x1 x3 x4 x5 x6 S = some o → (qW X (d + 1) yX11_shut cX11_shut 7 (some .int) 85 [(2, qi x2), (3, qi o.1), (4, qi o.2.1)] [] o.2.2 Q) → qW X (d + 1) yX11_shut cX11_shut 7 (some .int) 30 [(0, qr 0), (1, qi x1), (2, qi x2), (3, qi x3), (4, qi x4), (5, qi x5), (6, qi x6)] [] S Q := by
  intro n
  induction n with
  | zero =>
    intro x1 x2 x3 x4 x5 x6 S o h
    simp [C_shut_L30] at h
  | succ n ih =>
    intro x1 x2 x3 x4 x5 x6 S o h hE
    rw [C_shut_L30] at h
    refine q_iload dX11_shut_30 rfl rfl ?_
    refine q_sipush dX11_shut_32 (by decide) rfl ?_
    obtain ⟨c608, h⟩ := qk_some h
    refine q_icmp_ge (tgt := 85) dX11_shut_35 (by decide) rfl (qRb_R c608) ⟨by decide, by decide⟩ (fun g => ?_) (fun g => ?_)
    · rw [if_pos (show 336 ≤ x6 from g)] at h
      cases h
      exact q_pick [2, 3, 4] rfl (hE)
    · rw [if_neg (show ¬ (336 ≤ x6) from g)] at h
      refine q_aload_n dX11_shut_38 rfl rfl ?_
      refine q_getA dX11_shut_39 fl_X11_40 (hL 0 (by decide)) sh_0 (by decide) rfl rfl ?_
      refine q_iload_n dX11_shut_42 rfl rfl ?_
      refine q_iload dX11_shut_43 rfl rfl ?_
      obtain ⟨q609, h610, h⟩ := Option.bind_eq_some_iff.mp h
      refine q_callVi (as := [qi x1, qi x6]) (c := 5) dX11_shut_45 ml_X11_254 rfl rfl (hL 5 (by decide)) sh_5 rfl rfl (Nat.le_of_ble_eq_true rfl) (Waters_isOpen_ok hL d x1 x6 _ _ h610) rfl ?_
      refine q_jn (G := fun (t612 : Int) => qW X (d + 1) yX11_shut cX11_shut 7 (some .int) 59 [(0, qr 0), (1, qi x1), (2, qi x2), (3, qi x3), (4, qi x4), (6, qi x6)] [qi t612] q609.2 Q) h (fun t612 h => ?_) (fun t612 h hk4101 => ?_)
      · try dsimp only at h
        refine q_istore (lv' := [(5, qi t612), (0, qr 0), (1, qi x1), (2, qi x2), (3, qi x3), (4, qi x4), (6, qi x6)]) dX11_shut_59 (by decide) rfl rfl ?_
        refine q_iload dX11_shut_61 rfl rfl ?_
        refine q_iload_n dX11_shut_63 rfl rfl ?_
        refine q_jn (G := fun (t615 : (Int × Int)) => qW X (d + 1) yX11_shut cX11_shut 7 (some .int) 79 [(0, qr 0), (1, qi x1), (2, qi x2), (3, qi t615.1), (4, qi t615.2), (5, qi t612), (6, qi x6)] [] q609.2 Q) h (fun t615 h => ?_) (fun t615 h hk4102 => ?_)
        · try dsimp only at h
          refine q_iinc (lv' := [(6, qi (x6 + 1)), (0, qr 0), (1, qi x1), (2, qi x2), (3, qi t615.1), (4, qi t615.2), (5, qi t612)]) dX11_shut_79 (by decide) rfl rfl rfl ?_
          refine q_goto (pc' := 30) dX11_shut_82 (by decide) ?_
          exact q_pick [1, 2, 3, 4, 5, 6, 0] rfl (ih x1 x2 t615.1 t615.2 t612 (x6 + 1) _ _ h hE)
        · skip
          obtain ⟨c613, h⟩ := qk_some h
          obtain ⟨c614, h⟩ := qk_some h
          refine q_icmp_le (tgt := 79) dX11_shut_64 (by decide) rfl (qRb_R c613) (qRb_R c614) (fun g => ?_) (fun g => ?_)
          · rw [if_pos (show t612 ≤ x3 from g)] at h
            cases h
            exact q_pick [1, 2, 3, 4, 5, 0, 6] rfl hk4102
          · rw [if_neg (show ¬ (t612 ≤ x3) from g)] at h
            refine q_iload dX11_shut_67 rfl rfl ?_
            refine q_istore_n (lv' := [(3, qi t612), (5, qi t612), (0, qr 0), (1, qi x1), (2, qi x2), (4, qi x4), (6, qi x6)]) dX11_shut_69 (by decide) rfl rfl ?_
            refine q_iload dX11_shut_70 rfl rfl ?_
            refine q_iload dX11_shut_72 rfl rfl ?_
            refine q_isub dX11_shut_74 rfl ?_
            refine q_iconst dX11_shut_75 rfl rfl ?_
            refine q_iadd dX11_shut_76 rfl ?_
            refine q_istore (lv' := [(4, qi ((x6 - t612) + 1)), (3, qi t612), (5, qi t612), (0, qr 0), (1, qi x1), (2, qi x2), (6, qi x6)]) dX11_shut_77 (by decide) rfl rfl ?_
            cases h
            exact q_pick [3, 4, 5, 1, 0, 2, 6] rfl hk4102
      · skip
        obtain ⟨c611, h⟩ := qk_some h
        refine q_if_eq (tgt := 55) dX11_shut_48 (by decide) rfl (qRb_R c611)  (fun g => ?_) (fun g => ?_)
        · rw [if_pos (show q609.1 = 0 from g)] at h
          refine q_iload dX11_shut_55 rfl rfl ?_
          refine q_iconst dX11_shut_57 rfl rfl ?_
          refine q_iadd dX11_shut_58 rfl ?_
          cases h
          exact q_pick [0, 1, 2, 3, 4, 6] rfl hk4101
        · rw [if_neg (show ¬ (q609.1 = 0) from g)] at h
          refine q_iconst dX11_shut_51 rfl rfl ?_
          refine q_goto (pc' := 59) dX11_shut_52 (by decide) ?_
          cases h
          exact q_pick [0, 1, 2, 3, 4, 6] rfl hk4101
set_option maxRecDepth 20000 in
theorem C_shut_ok {X : qX} (hL : ∀ c, c < 93 → c ∈ qLs X) (d : Nat) (a1 : Int) (a2 : Int) (S : qSto) (o : (Int × qSto)) (h : C_shut a1 a2 S = some o) (Q : Option qV → qSto → Prop) (hQ : Q (some (qi o.1)) o.2) : qC X (d + 1) yX11_shut cX11_shut 7 (some .int) [qr 0, qi a1, qi a2] S Q := by
  refine q_entry (lv := [(0, qr 0), (1, qi a1), (2, qi a2)]) pn_X11 (Nat.le_of_ble_eq_true rfl) rfl ?_
  unfold C_shut at h
  refine q_iload_n dX11_shut_0 rfl rfl ?_
  obtain ⟨q603, h604, h⟩ := Option.bind_eq_some_iff.mp h
  refine q_callSi (as := [qi a1]) dX11_shut_1 ml_X11_251 rfl rfl (Nat.le_of_ble_eq_true rfl) (C_isWater_ok hL d a1 _ _ h604) rfl ?_
  obtain ⟨c605, h⟩ := qk_some h
  refine q_if_eq (tgt := 16) dX11_shut_4 (by decide) rfl (qRb_R c605)  (fun g => ?_) (fun g => ?_)
  · rw [if_pos (show q603.1 = 0 from g)] at h
    refine q_iconst dX11_shut_16 rfl rfl ?_
    cases h
    exact q_ireturn dX11_shut_17 rfl hQ
  · rw [if_neg (show ¬ (q603.1 = 0) from g)] at h
    refine q_iload_n dX11_shut_7 rfl rfl ?_
    obtain ⟨c606, h⟩ := qk_some h
    refine q_if_lt (tgt := 16) dX11_shut_8 (by decide) rfl (qRb_R c606)  (fun g => ?_) (fun g => ?_)
    · rw [if_pos (show a2 < 0 from g)] at h
      refine q_iconst dX11_shut_16 rfl rfl ?_
      cases h
      exact q_ireturn dX11_shut_17 rfl hQ
    · rw [if_neg (show ¬ (a2 < 0) from g)] at h
      refine q_iload_n dX11_shut_11 rfl rfl ?_
      refine q_iconst dX11_shut_12 rfl rfl ?_
      obtain ⟨c607, h⟩ := qk_some h
      refine q_icmp_le (tgt := 18) dX11_shut_13 (by decide) rfl (qRb_R c607) ⟨by decide, by decide⟩ (fun g => ?_) (fun g => ?_)
      · rw [if_pos (show a2 ≤ 1 from g)] at h
        refine q_iconst dX11_shut_18 rfl rfl ?_
        refine q_istore_n (lv' := [(3, qi 0), (0, qr 0), (1, qi a1), (2, qi a2)]) dX11_shut_19 (by decide) rfl rfl ?_
        refine q_bipush dX11_shut_20 (by decide) rfl ?_
        refine q_istore (lv' := [(4, qi (-2)), (3, qi 0), (0, qr 0), (1, qi a1), (2, qi a2)]) dX11_shut_22 (by decide) rfl rfl ?_
        refine q_iconst dX11_shut_24 rfl rfl ?_
        refine q_istore (lv' := [(5, qi 0), (4, qi (-2)), (3, qi 0), (0, qr 0), (1, qi a1), (2, qi a2)]) dX11_shut_25 (by decide) rfl rfl ?_
        refine q_iconst dX11_shut_27 rfl rfl ?_
        refine q_istore (lv' := [(6, qi 0), (5, qi 0), (4, qi (-2)), (3, qi 0), (0, qr 0), (1, qi a1), (2, qi a2)]) dX11_shut_28 (by decide) rfl rfl ?_
        obtain ⟨q616, h617, h⟩ := Option.bind_eq_some_iff.mp h
        refine q_pick [4, 5, 6, 3, 2, 1, 0] rfl (C_shut_L30_ok hL d qF a1 a2 0 (-2) 0 0 _ _ h617 ?_)
        refine q_iload_n dX11_shut_85 rfl rfl ?_
        obtain ⟨c618, h⟩ := qk_some h
        refine q_if_ne (tgt := 93) dX11_shut_86 (by decide) rfl (qRb_R c618)  (fun g => ?_) (fun g => ?_)
        · rw [if_neg (show ¬ (a2 = 0) from g)] at h
          refine q_iload dX11_shut_93 rfl rfl ?_
          cases h
          exact q_ireturn dX11_shut_95 rfl hQ
        · rw [if_pos (show a2 = 0 from g)] at h
          refine q_iload_n dX11_shut_89 rfl rfl ?_
          refine q_goto (pc' := 95) dX11_shut_90 (by decide) ?_
          cases h
          exact q_ireturn dX11_shut_95 rfl hQ
      · rw [if_neg (show ¬ (a2 ≤ 1) from g)] at h
        refine q_iconst dX11_shut_16 rfl rfl ?_
        cases h
        exact q_ireturn dX11_shut_17 rfl hQ
set_option maxRecDepth 20000 in
theorem C_tide_L39_ok {X : qX} (hL : ∀ c, c < 93 → c ∈ qLs X) (d : Nat) {Q : Option qV → qSto → Prop} : ∀ (n : Nat) (x2 : Int) (x3 : Int) (x4 : Int) (x5 : Int) (x6 : Int) (S : qSto) (o : (Int × Int × qSto)), C_tide_L39 n x2 x4 x5 x6 S = some o → (qW X (d + 1) yX11_tide cX11_tide 7 (some .int) 105 [(0, qr 0), (3, qi x3), (4, qi o.1), (5, qi o.2.1)] [] o.2.2 Q) → qW X (d + 1) yX11_tide cX11_tide 7 (some .int) 39 [(0, qr 0), (2, qi x2), (3, qi x3), (4, qi x4), (5, qi x5), (6, qi x6)] [] S Q := by
  intro n
  induction n with
  | zero =>
    intro x2 x3 x4 x5 x6 S o h
    simp [C_tide_L39] at h
  | succ n ih =>
    intro x2 x3 x4 x5 x6 S o h hE
    rw [C_tide_L39] at h
    refine q_iload dX11_tide_39 rfl rfl ?_
    refine q_iload_n dX11_tide_41 rfl rfl ?_
    obtain ⟨c629, h⟩ := qk_some h
    obtain ⟨c630, h⟩ := qk_some h
    refine q_icmp_gt (tgt := 105) dX11_tide_42 (by decide) rfl (qRb_R c629) (qRb_R c630) (fun g => ?_) (fun g => ?_)
    · rw [if_pos (show x2 < x6 from g)] at h
      cases h
      exact q_pick [0, 2, 3, 4] rfl (hE)
    · rw [if_neg (show ¬ (x2 < x6) from g)] at h
      refine q_aload_n dX11_tide_45 rfl rfl ?_
      refine q_getA dX11_tide_46 fl_X11_40 (hL 0 (by decide)) sh_0 (by decide) rfl rfl ?_
      refine q_getA dX11_tide_49 fl_X11_197 (hL 5 (by decide)) sh_5 (by decide) rfl rfl ?_
      refine q_iload dX11_tide_52 rfl rfl ?_
      obtain ⟨c631, h⟩ := qk_some h
      refine q_iaload dX11_tide_54 (hL 36 (by decide)) sh_36 (qIx_0 c631) (qIx_1 c631) rfl ?_
      refine q_aload_n dX11_tide_55 rfl rfl ?_
      refine q_getA dX11_tide_56 fl_X11_40 (hL 0 (by decide)) sh_0 (by decide) rfl rfl ?_
      refine q_getA dX11_tide_59 fl_X11_197 (hL 5 (by decide)) sh_5 (by decide) rfl rfl ?_
      refine q_iload dX11_tide_62 rfl rfl ?_
      obtain ⟨c632, h⟩ := qk_some h
      refine q_iaload dX11_tide_64 (hL 36 (by decide)) sh_36 (qIx_0 c632) (qIx_1 c632) rfl ?_
      refine q_jn (G := fun (t635 : Int) => qW X (d + 1) yX11_tide cX11_tide 7 (some .int) 72 [(0, qr 0), (2, qi x2), (3, qi x3), (4, qi t635), (5, qi x5), (6, qi x6)] [] S Q) h (fun t635 h => ?_) (fun t635 h hk4103 => ?_)
      · try dsimp only at h
        refine q_aload_n dX11_tide_72 rfl rfl ?_
        refine q_getA dX11_tide_73 fl_X11_40 (hL 0 (by decide)) sh_0 (by decide) rfl rfl ?_
        refine q_getA dX11_tide_76 fl_X11_197 (hL 5 (by decide)) sh_5 (by decide) rfl rfl ?_
        refine q_iload dX11_tide_79 rfl rfl ?_
        obtain ⟨c636, h⟩ := qk_some h
        refine q_iaload dX11_tide_81 (hL 36 (by decide)) sh_36 (qIx_0 c636) (qIx_1 c636) rfl ?_
        refine q_aload_n dX11_tide_82 rfl rfl ?_
        refine q_getA dX11_tide_83 fl_X11_40 (hL 0 (by decide)) sh_0 (by decide) rfl rfl ?_
        refine q_getA dX11_tide_86 fl_X11_197 (hL 5 (by decide)) sh_5 (by decide) rfl rfl ?_
        refine q_iload dX11_tide_89 rfl rfl ?_
        obtain ⟨c637, h⟩ := qk_some h
        refine q_iaload dX11_tide_91 (hL 36 (by decide)) sh_36 (qIx_0 c637) (qIx_1 c637) rfl ?_
        refine q_jn (G := fun (t640 : Int) => qW X (d + 1) yX11_tide cX11_tide 7 (some .int) 99 [(0, qr 0), (2, qi x2), (3, qi x3), (4, qi t635), (5, qi t640), (6, qi x6)] [] S Q) h (fun t640 h => ?_) (fun t640 h hk4104 => ?_)
        · try dsimp only at h
          refine q_iinc (lv' := [(6, qi (x6 + 1)), (0, qr 0), (2, qi x2), (3, qi x3), (4, qi t635), (5, qi t640)]) dX11_tide_99 (by decide) rfl rfl rfl ?_
          refine q_goto (pc' := 39) dX11_tide_102 (by decide) ?_
          exact q_pick [1, 2, 3, 4, 5, 0] rfl (ih x2 x3 t635 t640 (x6 + 1) _ _ h hE)
        · skip
          obtain ⟨c638, h⟩ := qk_some h
          obtain ⟨c639, h⟩ := qk_some h
          refine q_icmp_ge (tgt := 99) dX11_tide_92 (by decide) rfl (qRb_R c638) (qRb_R c639) (fun g => ?_) (fun g => ?_)
          · rw [if_pos (show (S 36 (Int.toNat x5)) ≤ (S 36 (Int.toNat x6)) from g)] at h
            cases h
            exact q_pick [0, 1, 2, 3, 4, 5] rfl hk4104
          · rw [if_neg (show ¬ ((S 36 (Int.toNat x5)) ≤ (S 36 (Int.toNat x6))) from g)] at h
            refine q_iload dX11_tide_95 rfl rfl ?_
            refine q_istore (lv' := [(5, qi x6), (0, qr 0), (2, qi x2), (3, qi x3), (4, qi t635), (6, qi x6)]) dX11_tide_97 (by decide) rfl rfl ?_
            cases h
            exact q_pick [1, 2, 3, 4, 0, 5] rfl hk4104
      · skip
        obtain ⟨c633, h⟩ := qk_some h
        obtain ⟨c634, h⟩ := qk_some h
        refine q_icmp_le (tgt := 72) dX11_tide_65 (by decide) rfl (qRb_R c633) (qRb_R c634) (fun g => ?_) (fun g => ?_)
        · rw [if_pos (show (S 36 (Int.toNat x6)) ≤ (S 36 (Int.toNat x4)) from g)] at h
          cases h
          exact q_pick [0, 1, 2, 3, 4, 5] rfl hk4103
        · rw [if_neg (show ¬ ((S 36 (Int.toNat x6)) ≤ (S 36 (Int.toNat x4))) from g)] at h
          refine q_iload dX11_tide_68 rfl rfl ?_
          refine q_istore (lv' := [(4, qi x6), (0, qr 0), (2, qi x2), (3, qi x3), (5, qi x5), (6, qi x6)]) dX11_tide_70 (by decide) rfl rfl ?_
          cases h
          exact q_pick [1, 2, 3, 0, 4, 5] rfl hk4103
set_option maxRecDepth 20000 in
theorem C_tide_ok {X : qX} (hL : ∀ c, c < 93 → c ∈ qLs X) (d : Nat) (a1 : Int) (a2 : Int) (a3 : Int) (S : qSto) (o : (Int × qSto)) (h : C_tide a1 a2 a3 S = some o) (Q : Option qV → qSto → Prop) (hQ : Q (some (qi o.1)) o.2) : qC X (d + 1) yX11_tide cX11_tide 7 (some .int) [qr 0, qi a1, qi a2, qi a3] S Q := by
  refine q_entry (lv := [(0, qr 0), (1, qi a1), (2, qi a2), (3, qi a3)]) pn_X11 (Nat.le_of_ble_eq_true rfl) rfl ?_
  unfold C_tide at h
  refine q_iload_n dX11_tide_0 rfl rfl ?_
  obtain ⟨q619, h620, h⟩ := Option.bind_eq_some_iff.mp h
  refine q_callSi (as := [qi a1]) dX11_tide_1 ml_X11_194 rfl rfl (Nat.le_of_ble_eq_true rfl) (C_isSlot_ok hL d a1 _ _ h620) rfl ?_
  obtain ⟨c621, h⟩ := qk_some h
  refine q_if_eq (tgt := 28) dX11_tide_4 (by decide) rfl (qRb_R c621)  (fun g => ?_) (fun g => ?_)
  · rw [if_pos (show q619.1 = 0 from g)] at h
    refine q_iconst dX11_tide_28 rfl rfl ?_
    cases h
    exact q_ireturn dX11_tide_29 rfl hQ
  · rw [if_neg (show ¬ (q619.1 = 0) from g)] at h
    refine q_iload_n dX11_tide_7 rfl rfl ?_
    obtain ⟨q622, h623, h⟩ := Option.bind_eq_some_iff.mp h
    refine q_callSi (as := [qi a2]) dX11_tide_8 ml_X11_194 rfl rfl (Nat.le_of_ble_eq_true rfl) (C_isSlot_ok hL d a2 _ _ h623) rfl ?_
    obtain ⟨c624, h⟩ := qk_some h
    refine q_if_eq (tgt := 28) dX11_tide_11 (by decide) rfl (qRb_R c624)  (fun g => ?_) (fun g => ?_)
    · rw [if_pos (show q622.1 = 0 from g)] at h
      refine q_iconst dX11_tide_28 rfl rfl ?_
      cases h
      exact q_ireturn dX11_tide_29 rfl hQ
    · rw [if_neg (show ¬ (q622.1 = 0) from g)] at h
      refine q_iload_n dX11_tide_14 rfl rfl ?_
      refine q_iload_n dX11_tide_15 rfl rfl ?_
      obtain ⟨c625, h⟩ := qk_some h
      obtain ⟨c626, h⟩ := qk_some h
      refine q_icmp_lt (tgt := 28) dX11_tide_16 (by decide) rfl (qRb_R c625) (qRb_R c626) (fun g => ?_) (fun g => ?_)
      · rw [if_pos (show a2 < a1 from g)] at h
        refine q_iconst dX11_tide_28 rfl rfl ?_
        cases h
        exact q_ireturn dX11_tide_29 rfl hQ
      · rw [if_neg (show ¬ (a2 < a1) from g)] at h
        refine q_iload_n dX11_tide_19 rfl rfl ?_
        obtain ⟨c627, h⟩ := qk_some h
        refine q_if_lt (tgt := 28) dX11_tide_20 (by decide) rfl (qRb_R c627)  (fun g => ?_) (fun g => ?_)
        · rw [if_pos (show a3 < 0 from g)] at h
          refine q_iconst dX11_tide_28 rfl rfl ?_
          cases h
          exact q_ireturn dX11_tide_29 rfl hQ
        · rw [if_neg (show ¬ (a3 < 0) from g)] at h
          refine q_iload_n dX11_tide_23 rfl rfl ?_
          refine q_iconst dX11_tide_24 rfl rfl ?_
          obtain ⟨c628, h⟩ := qk_some h
          refine q_icmp_le (tgt := 30) dX11_tide_25 (by decide) rfl (qRb_R c628) ⟨by decide, by decide⟩ (fun g => ?_) (fun g => ?_)
          · rw [if_pos (show a3 ≤ 3 from g)] at h
            refine q_iload_n dX11_tide_30 rfl rfl ?_
            refine q_istore (lv' := [(4, qi a1), (0, qr 0), (1, qi a1), (2, qi a2), (3, qi a3)]) dX11_tide_31 (by decide) rfl rfl ?_
            refine q_iload_n dX11_tide_33 rfl rfl ?_
            refine q_istore (lv' := [(5, qi a1), (4, qi a1), (0, qr 0), (1, qi a1), (2, qi a2), (3, qi a3)]) dX11_tide_34 (by decide) rfl rfl ?_
            refine q_iload_n dX11_tide_36 rfl rfl ?_
            refine q_istore (lv' := [(6, qi a1), (5, qi a1), (4, qi a1), (0, qr 0), (1, qi a1), (2, qi a2), (3, qi a3)]) dX11_tide_37 (by decide) rfl rfl ?_
            obtain ⟨q641, h642, h⟩ := Option.bind_eq_some_iff.mp h
            refine q_pick [3, 5, 6, 2, 1, 0] rfl (C_tide_L39_ok hL d qF a2 a3 a1 a1 a1 _ _ h642 ?_)
            refine q_iload_n dX11_tide_105 rfl rfl ?_
            refine q_iconst dX11_tide_106 rfl rfl ?_
            refine q_jn (G := fun (t644 : Int) => qW X (d + 1) yX11_tide cX11_tide 7 (some .int) 117 [(0, qr 0), (3, qi a3)] [qi t644] q641.2.2 Q) h (fun t644 h => ?_) (fun t644 h hk4105 => ?_)
            · try dsimp only at h
              refine q_istore (lv' := [(6, qi t644), (0, qr 0), (3, qi a3)]) dX11_tide_117 (by decide) rfl rfl ?_
              refine q_iload_n dX11_tide_119 rfl rfl ?_
              refine q_iconst dX11_tide_120 rfl rfl ?_
              obtain ⟨c645, h⟩ := qk_some h
              refine q_irem dX11_tide_121 (qRb_R c645) ⟨by decide, by decide⟩ (by decide) rfl ?_
              obtain ⟨c646, h⟩ := qk_some h
              refine q_if_ne (tgt := 138) dX11_tide_122 (by decide) rfl (qRb_R c646)  (fun g => ?_) (fun g => ?_)
              · rw [if_neg (show ¬ ((Int.tmod a3 2) = 0) from g)] at h
                refine q_iload dX11_tide_138 rfl rfl ?_
                cases h
                exact q_ireturn dX11_tide_140 rfl hQ
              · rw [if_pos (show (Int.tmod a3 2) = 0 from g)] at h
                refine q_aload_n dX11_tide_125 rfl rfl ?_
                refine q_getA dX11_tide_126 fl_X11_40 (hL 0 (by decide)) sh_0 (by decide) rfl rfl ?_
                refine q_getA dX11_tide_129 fl_X11_197 (hL 5 (by decide)) sh_5 (by decide) rfl rfl ?_
                refine q_iload dX11_tide_132 rfl rfl ?_
                obtain ⟨c647, h⟩ := qk_some h
                refine q_iaload dX11_tide_134 (hL 36 (by decide)) sh_36 (qIx_0 c647) (qIx_1 c647) rfl ?_
                refine q_goto (pc' := 140) dX11_tide_135 (by decide) ?_
                cases h
                exact q_ireturn dX11_tide_140 rfl hQ
            · skip
              obtain ⟨c643, h⟩ := qk_some h
              refine q_icmp_ge (tgt := 115) dX11_tide_107 (by decide) rfl (qRb_R c643) ⟨by decide, by decide⟩ (fun g => ?_) (fun g => ?_)
              · rw [if_pos (show 2 ≤ a3 from g)] at h
                refine q_iload dX11_tide_115 rfl rfl ?_
                cases h
                exact q_pick [0, 1] rfl hk4105
              · rw [if_neg (show ¬ (2 ≤ a3) from g)] at h
                refine q_iload dX11_tide_110 rfl rfl ?_
                refine q_goto (pc' := 117) dX11_tide_112 (by decide) ?_
                cases h
                exact q_pick [0, 1] rfl hk4105
          · rw [if_neg (show ¬ (a3 ≤ 3) from g)] at h
            refine q_iconst dX11_tide_28 rfl rfl ?_
            cases h
            exact q_ireturn dX11_tide_29 rfl hQ
set_option maxRecDepth 20000 in
theorem Stays_addBusy_L28_ok {X : qX} (hL : ∀ c, c < 93 → c ∈ qLs X) (d : Nat) {Q : Option qV → qSto → Prop} : ∀ (n : Nat) (x2 : Int) (x3 : Int) (x4 : Int) (S : qSto) (o : qSto), Stays_addBusy_L28 n x2 x3 x4 S = some o → (qW X (d + 1) yX7_addBusy cX7_addBusy 5 none 51 [] [] o Q) → qW X (d + 1) yX7_addBusy cX7_addBusy 5 none 28 [(0, qr 6), (2, qi x2), (3, qi x3), (4, qi x4)] [] S Q := by
  intro n
  induction n with
  | zero =>
    intro x2 x3 x4 S o h
    simp [Stays_addBusy_L28] at h
  | succ n ih =>
    intro x2 x3 x4 S o h hE
    rw [Stays_addBusy_L28] at h
    refine q_iload dX7_addBusy_28 rfl rfl ?_
    refine q_iload_n dX7_addBusy_30 rfl rfl ?_
    obtain ⟨c661, h⟩ := qk_some h
    obtain ⟨c662, h⟩ := qk_some h
    refine q_icmp_ge (tgt := 51) dX7_addBusy_31 (by decide) rfl (qRb_R c661) (qRb_R c662) (fun g => ?_) (fun g => ?_)
    · rw [if_pos (show x3 ≤ x4 from g)] at h
      cases h
      exact q_pick [] rfl (hE)
    · rw [if_neg (show ¬ (x3 ≤ x4) from g)] at h
      refine q_aload_n dX7_addBusy_34 rfl rfl ?_
      refine q_getA dX7_addBusy_35 fl_X7_30 (hL 6 (by decide)) sh_6 (by decide) rfl rfl ?_
      refine q_iload dX7_addBusy_38 rfl rfl ?_
      refine q_dup2 dX7_addBusy_40 rfl ?_
      obtain ⟨c663, h⟩ := qk_some h
      refine q_iaload dX7_addBusy_41 (hL 43 (by decide)) sh_43 (qIx_0 c663) (qIx_1 c663) rfl ?_
      refine q_iload_n dX7_addBusy_42 rfl rfl ?_
      refine q_iadd dX7_addBusy_43 rfl ?_
      obtain ⟨c664, h⟩ := qk_some h
      refine q_iastore dX7_addBusy_44 (hL 43 (by decide)) sh_43 (qIx_0 c664) (qIx_1 c664) rfl ?_
      refine q_iinc (lv' := [(4, qi (x4 + 1)), (0, qr 6), (2, qi x2), (3, qi x3)]) dX7_addBusy_45 (by decide) rfl rfl rfl ?_
      refine q_goto (pc' := 28) dX7_addBusy_48 (by decide) ?_
      exact q_pick [1, 2, 3, 0] rfl (ih x2 x3 (x4 + 1) _ _ h hE)
set_option maxRecDepth 20000 in
theorem Stays_addBusy_ok {X : qX} (hL : ∀ c, c < 93 → c ∈ qLs X) (d : Nat) (a1 : Int) (a2 : Int) (S : qSto) (o : qSto) (h : Stays_addBusy a1 a2 S = some o) (Q : Option qV → qSto → Prop) (hQ : Q none o) : qC X (d + 1) yX7_addBusy cX7_addBusy 5 none [qr 6, qi a1, qi a2] S Q := by
  refine q_entry (lv := [(0, qr 6), (1, qi a1), (2, qi a2)]) pn_X7 (Nat.le_of_ble_eq_true rfl) rfl ?_
  unfold Stays_addBusy at h
  refine q_sipush dX7_addBusy_0 (by decide) rfl ?_
  refine q_aload_n dX7_addBusy_3 rfl rfl ?_
  refine q_getA dX7_addBusy_4 fl_X7_18 (hL 6 (by decide)) sh_6 (by decide) rfl rfl ?_
  refine q_iload_n dX7_addBusy_7 rfl rfl ?_
  obtain ⟨c656, h⟩ := qk_some h
  refine q_iaload dX7_addBusy_8 (hL 39 (by decide)) sh_39 (qIx_0 c656) (qIx_1 c656) rfl ?_
  refine q_aload_n dX7_addBusy_9 rfl rfl ?_
  refine q_getA dX7_addBusy_10 fl_X7_24 (hL 6 (by decide)) sh_6 (by decide) rfl rfl ?_
  refine q_iload_n dX7_addBusy_13 rfl rfl ?_
  obtain ⟨c657, h⟩ := qk_some h
  refine q_iaload dX7_addBusy_14 (hL 41 (by decide)) sh_41 (qIx_0 c657) (qIx_1 c657) rfl ?_
  refine q_iadd dX7_addBusy_15 rfl ?_
  obtain ⟨q658, h659, h⟩ := Option.bind_eq_some_iff.mp h
  refine q_callSi (as := [qi 336, qi ((S 39 (Int.toNat a1)) + (S 41 (Int.toNat a1)))]) dX7_addBusy_16 ml_X7_74 rfl rfl (Nat.le_of_ble_eq_true rfl) (Jm_min_ok hL d 336 ((S 39 (Int.toNat a1)) + (S 41 (Int.toNat a1))) _ _ h659) rfl ?_
  refine q_istore_n (lv' := [(3, qi q658.1), (0, qr 6), (1, qi a1), (2, qi a2)]) dX7_addBusy_19 (by decide) rfl rfl ?_
  refine q_aload_n dX7_addBusy_20 rfl rfl ?_
  refine q_getA dX7_addBusy_21 fl_X7_18 (hL 6 (by decide)) sh_6 (by decide) rfl rfl ?_
  refine q_iload_n dX7_addBusy_24 rfl rfl ?_
  obtain ⟨c660, h⟩ := qk_some h
  refine q_iaload dX7_addBusy_25 (hL 39 (by decide)) sh_39 (qIx_0 c660) (qIx_1 c660) rfl ?_
  refine q_istore (lv' := [(4, qi (q658.2 39 (Int.toNat a1))), (3, qi q658.1), (0, qr 6), (1, qi a1), (2, qi a2)]) dX7_addBusy_26 (by decide) rfl rfl ?_
  obtain ⟨q665, h666, h⟩ := Option.bind_eq_some_iff.mp h
  refine q_pick [2, 4, 1, 0] rfl (Stays_addBusy_L28_ok hL d qF a2 q658.1 (q658.2 39 (Int.toNat a1)) _ _ h666 ?_)
  cases h
  exact q_return dX7_addBusy_51 rfl hQ
set_option maxRecDepth 20000 in
theorem Stays_lift_ok {X : qX} (hL : ∀ c, c < 93 → c ∈ qLs X) (d : Nat) (a1 : Int) (S : qSto) (o : qSto) (h : Stays_lift a1 S = some o) (Q : Option qV → qSto → Prop) (hQ : Q none o) : qC X (d + 2) yX7_lift cX7_lift 2 none [qr 6, qi a1] S Q := by
  refine q_entry (lv := [(0, qr 6), (1, qi a1)]) pn_X7 (Nat.le_of_ble_eq_true rfl) rfl ?_
  unfold Stays_lift at h
  refine q_aload_n dX7_lift_0 rfl rfl ?_
  refine q_iload_n dX7_lift_1 rfl rfl ?_
  refine q_aload_n dX7_lift_2 rfl rfl ?_
  refine q_getA dX7_lift_3 fl_X7_21 (hL 6 (by decide)) sh_6 (by decide) rfl rfl ?_
  refine q_iload_n dX7_lift_6 rfl rfl ?_
  obtain ⟨c655, h⟩ := qk_some h
  refine q_iaload dX7_lift_7 (hL 40 (by decide)) sh_40 (qIx_0 c655) (qIx_1 c655) rfl ?_
  refine q_ineg dX7_lift_8 rfl ?_
  obtain ⟨q667, h668, h⟩ := Option.bind_eq_some_iff.mp h
  refine q_callVv (as := [qi a1, qi (-(S 40 (Int.toNat a1)))]) (c := 6) dX7_lift_9 ml_X7_70 rfl rfl (hL 6 (by decide)) sh_6 rfl rfl (Nat.le_of_ble_eq_true rfl) (Stays_addBusy_ok hL d a1 (-(S 40 (Int.toNat a1))) _ _ h668) rfl ?_
  refine q_aload_n dX7_lift_12 rfl rfl ?_
  refine q_getA dX7_lift_13 fl_X7_21 (hL 6 (by decide)) sh_6 (by decide) rfl rfl ?_
  refine q_iload_n dX7_lift_16 rfl rfl ?_
  refine q_iconst dX7_lift_17 rfl rfl ?_
  obtain ⟨c669, h⟩ := qk_some h
  refine q_iastore dX7_lift_18 (hL 40 (by decide)) sh_40 (qIx_0 c669) (qIx_1 c669) rfl ?_
  cases h
  exact q_return dX7_lift_19 rfl hQ
set_option maxRecDepth 20000 in
theorem Stays_takeUp_ok {X : qX} (hL : ∀ c, c < 93 → c ∈ qLs X) (d : Nat) (a1 : Int) (S : qSto) (o : qSto) (h : Stays_takeUp a1 S = some o) (Q : Option qV → qSto → Prop) (hQ : Q none o) : qC X (d + 3) yX7_takeUp cX7_takeUp 2 none [qr 6, qi a1] S Q := by
  refine q_entry (lv := [(0, qr 6), (1, qi a1)]) pn_X7 (Nat.le_of_ble_eq_true rfl) rfl ?_
  unfold Stays_takeUp at h
  refine q_aload_n dX7_takeUp_0 rfl rfl ?_
  refine q_aload_n dX7_takeUp_1 rfl rfl ?_
  refine q_getA dX7_takeUp_2 fl_X7_9 (hL 6 (by decide)) sh_6 (by decide) rfl rfl ?_
  refine q_iload_n dX7_takeUp_5 rfl rfl ?_
  obtain ⟨c651, h⟩ := qk_some h
  refine q_iaload dX7_takeUp_6 (hL 37 (by decide)) sh_37 (qIx_0 c651) (qIx_1 c651) rfl ?_
  refine q_putI dX7_takeUp_7 fl_X7_79 (hL 6 (by decide)) sh_6 (by decide) pf_7_11 pt_7_11 rfl rfl ?_
  refine q_aload_n dX7_takeUp_10 rfl rfl ?_
  refine q_aload_n dX7_takeUp_11 rfl rfl ?_
  refine q_getA dX7_takeUp_12 fl_X7_18 (hL 6 (by decide)) sh_6 (by decide) rfl rfl ?_
  refine q_iload_n dX7_takeUp_15 rfl rfl ?_
  obtain ⟨c652, h⟩ := qk_some h
  refine q_iaload dX7_takeUp_16 (hL 39 (by decide)) sh_39 (qIx_0 c652) (qIx_1 c652) rfl ?_
  refine q_putI dX7_takeUp_17 fl_X7_82 (hL 6 (by decide)) sh_6 (by decide) pf_7_12 pt_7_12 rfl rfl ?_
  refine q_aload_n dX7_takeUp_20 rfl rfl ?_
  refine q_aload_n dX7_takeUp_21 rfl rfl ?_
  refine q_getA dX7_takeUp_22 fl_X7_21 (hL 6 (by decide)) sh_6 (by decide) rfl rfl ?_
  refine q_iload_n dX7_takeUp_25 rfl rfl ?_
  obtain ⟨c653, h⟩ := qk_some h
  refine q_iaload dX7_takeUp_26 (hL 40 (by decide)) sh_40 (qIx_0 c653) (qIx_1 c653) rfl ?_
  refine q_putI dX7_takeUp_27 fl_X7_85 (hL 6 (by decide)) sh_6 (by decide) pf_7_13 pt_7_13 rfl rfl ?_
  refine q_aload_n dX7_takeUp_30 rfl rfl ?_
  refine q_getI dX7_takeUp_31 fl_X7_85 (hL 6 (by decide)) sh_6 (by decide) rfl rfl ?_
  obtain ⟨c654, h⟩ := qk_some h
  refine q_if_le (tgt := 42) dX7_takeUp_34 (by decide) rfl (qRb_R c654)  (fun g => ?_) (fun g => ?_)
  · rw [if_pos (show ((qup (qup (qup S 6 11 (S 37 (Int.toNat a1))) 6 12 ((qup S 6 11 (S 37 (Int.toNat a1))) 39 (Int.toNat a1))) 6 13 ((qup (qup S 6 11 (S 37 (Int.toNat a1))) 6 12 ((qup S 6 11 (S 37 (Int.toNat a1))) 39 (Int.toNat a1))) 40 (Int.toNat a1))) 6 13) ≤ 0 from g)] at h
    cases h
    exact q_return dX7_takeUp_42 rfl hQ
  · rw [if_neg (show ¬ (((qup (qup (qup S 6 11 (S 37 (Int.toNat a1))) 6 12 ((qup S 6 11 (S 37 (Int.toNat a1))) 39 (Int.toNat a1))) 6 13 ((qup (qup S 6 11 (S 37 (Int.toNat a1))) 6 12 ((qup S 6 11 (S 37 (Int.toNat a1))) 39 (Int.toNat a1))) 40 (Int.toNat a1))) 6 13) ≤ 0) from g)] at h
    refine q_aload_n dX7_takeUp_37 rfl rfl ?_
    refine q_iload_n dX7_takeUp_38 rfl rfl ?_
    obtain ⟨q670, h671, h⟩ := Option.bind_eq_some_iff.mp h
    refine q_callVv (as := [qi a1]) (c := 6) dX7_takeUp_39 ml_X7_88 rfl rfl (hL 6 (by decide)) sh_6 rfl rfl (Nat.le_of_ble_eq_true rfl) (Stays_lift_ok hL d a1 _ _ h671) rfl ?_
    cases h
    exact q_return dX7_takeUp_42 rfl hQ
set_option maxRecDepth 20000 in
theorem Laws_fits_ok {X : qX} (hL : ∀ c, c < 93 → c ∈ qLs X) (d : Nat) (a1 : Int) (a2 : Int) (S : qSto) (o : (Int × qSto)) (h : Laws_fits a1 a2 S = some o) (Q : Option qV → qSto → Prop) (hQ : Q (some (qi o.1)) o.2) : qC X (d + 1) yX3_fits cX3_fits 3 (some .boolean) [qr 8, qi a1, qi a2] S Q := by
  refine q_entry (lv := [(0, qr 8), (1, qi a1), (2, qi a2)]) pn_X3 (Nat.le_of_ble_eq_true rfl) rfl ?_
  unfold Laws_fits at h
  refine q_iload_n dX3_fits_0 rfl rfl ?_
  obtain ⟨c674, h⟩ := qk_some h
  refine q_if_lt (tgt := 31) dX3_fits_1 (by decide) rfl (qRb_R c674)  (fun g => ?_) (fun g => ?_)
  · rw [if_pos (show a2 < 0 from g)] at h
    refine q_iconst dX3_fits_31 rfl rfl ?_
    cases h
    exact q_zreturn dX3_fits_32 rfl (by decide) hQ
  · rw [if_neg (show ¬ (a2 < 0) from g)] at h
    refine q_iload_n dX3_fits_4 rfl rfl ?_
    refine q_aload_n dX3_fits_5 rfl rfl ?_
    refine q_getA dX3_fits_6 fl_X3_9 (hL 8 (by decide)) sh_8 (by decide) rfl rfl ?_
    refine q_getA dX3_fits_9 fl_X3_72 (hL 2 (by decide)) sh_2 (by decide) rfl rfl ?_
    refine q_iconst dX3_fits_12 rfl rfl ?_
    refine q_iaload dX3_fits_13 (hL 15 (by decide)) sh_15 (by decide) (by decide) rfl ?_
    refine q_aload_n dX3_fits_14 rfl rfl ?_
    refine q_getA dX3_fits_15 fl_X3_9 (hL 8 (by decide)) sh_8 (by decide) rfl rfl ?_
    refine q_iload_n dX3_fits_18 rfl rfl ?_
    refine q_iconst dX3_fits_19 rfl rfl ?_
    obtain ⟨q675, h676, h⟩ := Option.bind_eq_some_iff.mp h
    refine q_callVi (as := [qi a1, qi 0]) (c := 2) dX3_fits_20 ml_X3_35 rfl rfl (hL 2 (by decide)) sh_2 rfl rfl (Nat.le_of_ble_eq_true rfl) (Told_contractOf_ok hL d a1 0 _ _ h676) rfl ?_
    refine q_isub dX3_fits_23 rfl ?_
    obtain ⟨c677, h⟩ := qk_some h
    obtain ⟨c678, h⟩ := qk_some h
    refine q_icmp_gt (tgt := 31) dX3_fits_24 (by decide) rfl (qRb_R c677) (qRb_R c678) (fun g => ?_) (fun g => ?_)
    · rw [if_pos (show ((S 15 0) - q675.1) < a2 from g)] at h
      refine q_iconst dX3_fits_31 rfl rfl ?_
      cases h
      exact q_zreturn dX3_fits_32 rfl (by decide) hQ
    · rw [if_neg (show ¬ (((S 15 0) - q675.1) < a2) from g)] at h
      refine q_iconst dX3_fits_27 rfl rfl ?_
      refine q_goto (pc' := 32) dX3_fits_28 (by decide) ?_
      cases h
      exact q_zreturn dX3_fits_32 rfl (by decide) hQ
set_option maxRecDepth 20000 in
theorem Told_workWith_ok {X : qX} (hL : ∀ c, c < 93 → c ∈ qLs X) (d : Nat) (a1 : Int) (a2 : Int) (S : qSto) (o : (Int × qSto)) (h : Told_workWith a1 a2 S = some o) (Q : Option qV → qSto → Prop) (hQ : Q (some (qi o.1)) o.2) : qC X (d + 2) yX8_workWith cX8_workWith 4 (some .int) [qr 2, qi a1, qi a2] S Q := by
  refine q_entry (lv := [(0, qr 2), (1, qi a1), (2, qi a2)]) pn_X8 (Nat.le_of_ble_eq_true rfl) rfl ?_
  unfold Told_workWith at h
  refine q_iconst dX8_workWith_0 rfl rfl ?_
  refine q_aload_n dX8_workWith_1 rfl rfl ?_
  refine q_iload_n dX8_workWith_2 rfl rfl ?_
  obtain ⟨q700, h701, h⟩ := Option.bind_eq_some_iff.mp h
  refine q_callVi (as := [qi a2]) (c := 2) dX8_workWith_3 ml_X8_93 rfl rfl (hL 2 (by decide)) sh_2 rfl rfl (Nat.le_of_ble_eq_true rfl) (Told_movesWith_ok hL d a2 _ _ h701) rfl ?_
  obtain ⟨q702, h703, h⟩ := Option.bind_eq_some_iff.mp h
  refine q_callSi (as := [qi 1, qi q700.1]) dX8_workWith_6 ml_X8_90 rfl rfl (Nat.le_of_ble_eq_true rfl) (Jm_max_ok hL (d + 1) 1 q700.1 _ _ h703) rfl ?_
  refine q_istore_n (lv' := [(3, qi q702.1), (0, qr 2), (1, qi a1), (2, qi a2)]) dX8_workWith_9 (by decide) rfl rfl ?_
  refine q_iconst dX8_workWith_10 rfl rfl ?_
  refine q_aload_n dX8_workWith_11 rfl rfl ?_
  refine q_iload_n dX8_workWith_12 rfl rfl ?_
  refine q_iconst dX8_workWith_13 rfl rfl ?_
  obtain ⟨q704, h705, h⟩ := Option.bind_eq_some_iff.mp h
  refine q_callVi (as := [qi a1, qi 3]) (c := 2) dX8_workWith_14 ml_X8_96 rfl rfl (hL 2 (by decide)) sh_2 rfl rfl (Nat.le_of_ble_eq_true rfl) (Told_contractOf_ok hL (d + 1) a1 3 _ _ h705) rfl ?_
  refine q_iload_n dX8_workWith_17 rfl rfl ?_
  refine q_iadd dX8_workWith_18 rfl ?_
  refine q_iconst dX8_workWith_19 rfl rfl ?_
  refine q_isub dX8_workWith_20 rfl ?_
  refine q_iload_n dX8_workWith_21 rfl rfl ?_
  obtain ⟨c706, h⟩ := qk_some h
  obtain ⟨c707, h⟩ := qk_some h
  obtain ⟨c708, h⟩ := qk_some h
  refine q_idiv dX8_workWith_22 (qRb_R c706) (qRb_R c707) (qNz_ne c708) rfl ?_
  obtain ⟨q709, h710, h⟩ := Option.bind_eq_some_iff.mp h
  refine q_callSi (as := [qi 1, qi (Int.tdiv ((q704.1 + q702.1) - 1) q702.1)]) dX8_workWith_23 ml_X8_90 rfl rfl (Nat.le_of_ble_eq_true rfl) (Jm_max_ok hL (d + 1) 1 (Int.tdiv ((q704.1 + q702.1) - 1) q702.1) _ _ h710) rfl ?_
  cases h
  exact q_ireturn dX8_workWith_26 rfl hQ
set_option maxRecDepth 20000 in
theorem Laws_ofTime_ok {X : qX} (hL : ∀ c, c < 93 → c ∈ qLs X) (d : Nat) (a1 : Int) (a2 : Int) (a3 : Int) (S : qSto) (o : (Int × qSto)) (h : Laws_ofTime a1 a2 a3 S = some o) (Q : Option qV → qSto → Prop) (hQ : Q (some (qi o.1)) o.2) : qC X (d + 3) yX3_ofTime cX3_ofTime 4 (some .int) [qr 8, qi a1, qi a2, qi a3] S Q := by
  refine q_entry (lv := [(0, qr 8), (1, qi a1), (2, qi a2), (3, qi a3)]) pn_X3 (Nat.le_of_ble_eq_true rfl) rfl ?_
  unfold Laws_ofTime at h
  refine q_iload_n dX3_ofTime_0 rfl rfl ?_
  refine q_aload_n dX3_ofTime_1 rfl rfl ?_
  refine q_getA dX3_ofTime_2 fl_X3_9 (hL 8 (by decide)) sh_8 (by decide) rfl rfl ?_
  refine q_iload_n dX3_ofTime_5 rfl rfl ?_
  refine q_iconst dX3_ofTime_6 rfl rfl ?_
  obtain ⟨q682, h683, h⟩ := Option.bind_eq_some_iff.mp h
  refine q_callVi (as := [qi a1, qi 4]) (c := 2) dX3_ofTime_7 ml_X3_35 rfl rfl (hL 2 (by decide)) sh_2 rfl rfl (Nat.le_of_ble_eq_true rfl) (Told_contractOf_ok hL (d + 2) a1 4 _ _ h683) rfl ?_
  obtain ⟨c684, h⟩ := qk_some h
  obtain ⟨c685, h⟩ := qk_some h
  refine q_icmp_ge (tgt := 15) dX3_ofTime_10 (by decide) rfl (qRb_R c684) (qRb_R c685) (fun g => ?_) (fun g => ?_)
  · rw [if_pos (show q682.1 ≤ a2 from g)] at h
    refine q_iload_n dX3_ofTime_15 rfl rfl ?_
    refine q_aload_n dX3_ofTime_16 rfl rfl ?_
    refine q_getA dX3_ofTime_17 fl_X3_9 (hL 8 (by decide)) sh_8 (by decide) rfl rfl ?_
    refine q_iload_n dX3_ofTime_20 rfl rfl ?_
    refine q_bipush dX3_ofTime_21 (by decide) rfl ?_
    obtain ⟨q686, h687, h⟩ := Option.bind_eq_some_iff.mp h
    refine q_callVi (as := [qi a1, qi 7]) (c := 2) dX3_ofTime_23 ml_X3_35 rfl rfl (hL 2 (by decide)) sh_2 rfl rfl (Nat.le_of_ble_eq_true rfl) (Told_contractOf_ok hL (d + 2) a1 7 _ _ h687) rfl ?_
    obtain ⟨c688, h⟩ := qk_some h
    obtain ⟨c689, h⟩ := qk_some h
    refine q_icmp_lt (tgt := 43) dX3_ofTime_26 (by decide) rfl (qRb_R c688) (qRb_R c689) (fun g => ?_) (fun g => ?_)
    · rw [if_pos (show a3 < q686.1 from g)] at h
      refine q_iconst dX3_ofTime_43 rfl rfl ?_
      cases h
      exact q_ireturn dX3_ofTime_44 rfl hQ
    · rw [if_neg (show ¬ (a3 < q686.1) from g)] at h
      refine q_iload_n dX3_ofTime_29 rfl rfl ?_
      refine q_aload_n dX3_ofTime_30 rfl rfl ?_
      refine q_getA dX3_ofTime_31 fl_X3_9 (hL 8 (by decide)) sh_8 (by decide) rfl rfl ?_
      refine q_iload_n dX3_ofTime_34 rfl rfl ?_
      refine q_bipush dX3_ofTime_35 (by decide) rfl ?_
      obtain ⟨q690, h691, h⟩ := Option.bind_eq_some_iff.mp h
      refine q_callVi (as := [qi a1, qi 8]) (c := 2) dX3_ofTime_37 ml_X3_35 rfl rfl (hL 2 (by decide)) sh_2 rfl rfl (Nat.le_of_ble_eq_true rfl) (Told_contractOf_ok hL (d + 2) a1 8 _ _ h691) rfl ?_
      obtain ⟨c692, h⟩ := qk_some h
      obtain ⟨c693, h⟩ := qk_some h
      refine q_icmp_le (tgt := 45) dX3_ofTime_40 (by decide) rfl (qRb_R c692) (qRb_R c693) (fun g => ?_) (fun g => ?_)
      · rw [if_pos (show a3 ≤ q690.1 from g)] at h
        refine q_iload_n dX3_ofTime_45 rfl rfl ?_
        refine q_sipush dX3_ofTime_46 (by decide) rfl ?_
        obtain ⟨c694, h⟩ := qk_some h
        refine q_icmp_ge (tgt := 72) dX3_ofTime_49 (by decide) rfl (qRb_R c694) ⟨by decide, by decide⟩ (fun g => ?_) (fun g => ?_)
        · rw [if_pos (show 336 ≤ a2 from g)] at h
          refine q_iconst dX3_ofTime_72 rfl rfl ?_
          cases h
          exact q_ireturn dX3_ofTime_73 rfl hQ
        · rw [if_neg (show ¬ (336 ≤ a2) from g)] at h
          refine q_aload_n dX3_ofTime_52 rfl rfl ?_
          refine q_getA dX3_ofTime_53 fl_X3_15 (hL 8 (by decide)) sh_8 (by decide) rfl rfl ?_
          refine q_aload_n dX3_ofTime_56 rfl rfl ?_
          refine q_getA dX3_ofTime_57 fl_X3_9 (hL 8 (by decide)) sh_8 (by decide) rfl rfl ?_
          refine q_iload_n dX3_ofTime_60 rfl rfl ?_
          refine q_iconst dX3_ofTime_61 rfl rfl ?_
          obtain ⟨q695, h696, h⟩ := Option.bind_eq_some_iff.mp h
          refine q_callVi (as := [qi a1, qi 1]) (c := 2) dX3_ofTime_62 ml_X3_35 rfl rfl (hL 2 (by decide)) sh_2 rfl rfl (Nat.le_of_ble_eq_true rfl) (Told_contractOf_ok hL (d + 2) a1 1 _ _ h696) rfl ?_
          refine q_iload_n dX3_ofTime_65 rfl rfl ?_
          obtain ⟨q697, h698, h⟩ := Option.bind_eq_some_iff.mp h
          refine q_callVi (as := [qi q695.1, qi a2]) (c := 5) dX3_ofTime_66 ml_X3_76 rfl rfl (hL 5 (by decide)) sh_5 rfl rfl (Nat.le_of_ble_eq_true rfl) (Waters_isOpen_ok hL (d + 2) q695.1 a2 _ _ h698) rfl ?_
          obtain ⟨c699, h⟩ := qk_some h
          refine q_if_ne (tgt := 74) dX3_ofTime_69 (by decide) rfl (qRb_R c699)  (fun g => ?_) (fun g => ?_)
          · rw [if_neg (show ¬ (q697.1 = 0) from g)] at h
            refine q_aload_n dX3_ofTime_74 rfl rfl ?_
            refine q_aload_n dX3_ofTime_75 rfl rfl ?_
            refine q_getA dX3_ofTime_76 fl_X3_9 (hL 8 (by decide)) sh_8 (by decide) rfl rfl ?_
            refine q_iload_n dX3_ofTime_79 rfl rfl ?_
            refine q_iload_n dX3_ofTime_80 rfl rfl ?_
            obtain ⟨q711, h712, h⟩ := Option.bind_eq_some_iff.mp h
            refine q_callVi (as := [qi a1, qi a3]) (c := 2) dX3_ofTime_81 ml_X3_79 rfl rfl (hL 2 (by decide)) sh_2 rfl rfl (Nat.le_of_ble_eq_true rfl) (Told_workWith_ok hL d a1 a3 _ _ h712) rfl ?_
            refine q_putI dX3_ofTime_84 fl_X3_63 (hL 8 (by decide)) sh_8 (by decide) pf_3_4 pt_3_4 rfl rfl ?_
            refine q_aload_n dX3_ofTime_87 rfl rfl ?_
            refine q_aload_n dX3_ofTime_88 rfl rfl ?_
            refine q_getA dX3_ofTime_89 fl_X3_15 (hL 8 (by decide)) sh_8 (by decide) rfl rfl ?_
            refine q_aload_n dX3_ofTime_92 rfl rfl ?_
            refine q_getA dX3_ofTime_93 fl_X3_9 (hL 8 (by decide)) sh_8 (by decide) rfl rfl ?_
            refine q_iload_n dX3_ofTime_96 rfl rfl ?_
            refine q_iconst dX3_ofTime_97 rfl rfl ?_
            obtain ⟨q713, h714, h⟩ := Option.bind_eq_some_iff.mp h
            refine q_callVi (as := [qi a1, qi 2]) (c := 2) dX3_ofTime_98 ml_X3_35 rfl rfl (hL 2 (by decide)) sh_2 rfl rfl (Nat.le_of_ble_eq_true rfl) (Told_contractOf_ok hL (d + 2) a1 2 _ _ h714) rfl ?_
            refine q_iload_n dX3_ofTime_101 rfl rfl ?_
            refine q_aload_n dX3_ofTime_102 rfl rfl ?_
            refine q_getI dX3_ofTime_103 fl_X3_63 (hL 8 (by decide)) sh_8 (by decide) rfl rfl ?_
            refine q_iadd dX3_ofTime_106 rfl ?_
            obtain ⟨q715, h716, h⟩ := Option.bind_eq_some_iff.mp h
            refine q_callVi (as := [qi q713.1, qi (a2 + (q713.2 8 4))]) (c := 5) dX3_ofTime_107 ml_X3_82 rfl rfl (hL 5 (by decide)) sh_5 rfl rfl (Nat.le_of_ble_eq_true rfl) (Waters_firstOpen_ok hL (d + 1) q713.1 (a2 + (q713.2 8 4)) _ _ h716) rfl ?_
            refine q_putI dX3_ofTime_110 fl_X3_44 (hL 8 (by decide)) sh_8 (by decide) pf_3_5 pt_3_5 rfl rfl ?_
            refine q_aload_n dX3_ofTime_113 rfl rfl ?_
            refine q_getI dX3_ofTime_114 fl_X3_44 (hL 8 (by decide)) sh_8 (by decide) rfl rfl ?_
            refine q_iconst dX3_ofTime_117 rfl rfl ?_
            obtain ⟨c717, h⟩ := qk_some h
            refine q_icmp_ne (tgt := 125) dX3_ofTime_118 (by decide) rfl (qRb_R c717) ⟨by decide, by decide⟩ (fun g => ?_) (fun g => ?_)
            · rw [if_neg (show ¬ (((qup q715.2 8 5 q715.1) 8 5) = (-1)) from g)] at h
              refine q_iconst dX3_ofTime_125 rfl rfl ?_
              cases h
              exact q_ireturn dX3_ofTime_126 rfl hQ
            · rw [if_pos (show ((qup q715.2 8 5 q715.1) 8 5) = (-1) from g)] at h
              refine q_iconst dX3_ofTime_121 rfl rfl ?_
              refine q_goto (pc' := 126) dX3_ofTime_122 (by decide) ?_
              cases h
              exact q_ireturn dX3_ofTime_126 rfl hQ
          · rw [if_pos (show q697.1 = 0 from g)] at h
            refine q_iconst dX3_ofTime_72 rfl rfl ?_
            cases h
            exact q_ireturn dX3_ofTime_73 rfl hQ
      · rw [if_neg (show ¬ (a3 ≤ q690.1) from g)] at h
        refine q_iconst dX3_ofTime_43 rfl rfl ?_
        cases h
        exact q_ireturn dX3_ofTime_44 rfl hQ
  · rw [if_neg (show ¬ (q682.1 ≤ a2) from g)] at h
    refine q_iconst dX3_ofTime_13 rfl rfl ?_
    cases h
    exact q_ireturn dX3_ofTime_14 rfl hQ
set_option maxRecDepth 20000 in
theorem Waters_lowest_L10_ok {X : qX} (hL : ∀ c, c < 93 → c ∈ qLs X) (d : Nat) {Q : Option qV → qSto → Prop} : ∀ (n : Nat) (x2 : Int) (x3 : Int) (x4 : Int) (S : qSto) (o : (Int × qSto)), Waters_lowest_L10 n x2 x3 x4 S = some o → (qW X (d + 1) yX9_lowest cX9_lowest 5 (some .int) 34 [(3, qi o.1)] [] o.2 Q) → qW X (d + 1) yX9_lowest cX9_lowest 5 (some .int) 10 [(0, qr 5), (2, qi x2), (3, qi x3), (4, qi x4)] [] S Q := by
  intro n
  induction n with
  | zero =>
    intro x2 x3 x4 S o h
    simp [Waters_lowest_L10] at h
  | succ n ih =>
    intro x2 x3 x4 S o h hE
    rw [Waters_lowest_L10] at h
    refine q_iload dX9_lowest_10 rfl rfl ?_
    refine q_iload_n dX9_lowest_12 rfl rfl ?_
    obtain ⟨c726, h⟩ := qk_some h
    obtain ⟨c727, h⟩ := qk_some h
    refine q_icmp_ge (tgt := 34) dX9_lowest_13 (by decide) rfl (qRb_R c726) (qRb_R c727) (fun g => ?_) (fun g => ?_)
    · rw [if_pos (show x2 ≤ x4 from g)] at h
      cases h
      exact q_pick [2] rfl (hE)
    · rw [if_neg (show ¬ (x2 ≤ x4) from g)] at h
      refine q_iload_n dX9_lowest_16 rfl rfl ?_
      refine q_aload_n dX9_lowest_17 rfl rfl ?_
      refine q_getA dX9_lowest_18 fl_X9_9 (hL 5 (by decide)) sh_5 (by decide) rfl rfl ?_
      refine q_iload dX9_lowest_21 rfl rfl ?_
      obtain ⟨c728, h⟩ := qk_some h
      refine q_iaload dX9_lowest_23 (hL 36 (by decide)) sh_36 (qIx_0 c728) (qIx_1 c728) rfl ?_
      obtain ⟨q729, h730, h⟩ := Option.bind_eq_some_iff.mp h
      refine q_callSi (as := [qi x3, qi (S 36 (Int.toNat x4))]) dX9_lowest_24 ml_X9_55 rfl rfl (Nat.le_of_ble_eq_true rfl) (Jm_min_ok hL d x3 (S 36 (Int.toNat x4)) _ _ h730) rfl ?_
      refine q_istore_n (lv' := [(3, qi q729.1), (0, qr 5), (2, qi x2), (4, qi x4)]) dX9_lowest_27 (by decide) rfl rfl ?_
      refine q_iinc (lv' := [(4, qi (x4 + 1)), (3, qi q729.1), (0, qr 5), (2, qi x2)]) dX9_lowest_28 (by decide) rfl rfl rfl ?_
      refine q_goto (pc' := 10) dX9_lowest_31 (by decide) ?_
      exact q_pick [2, 3, 1, 0] rfl (ih x2 q729.1 (x4 + 1) _ _ h hE)
set_option maxRecDepth 20000 in
theorem Waters_lowest_ok {X : qX} (hL : ∀ c, c < 93 → c ∈ qLs X) (d : Nat) (a1 : Int) (a2 : Int) (S : qSto) (o : (Int × qSto)) (h : Waters_lowest a1 a2 S = some o) (Q : Option qV → qSto → Prop) (hQ : Q (some (qi o.1)) o.2) : qC X (d + 1) yX9_lowest cX9_lowest 5 (some .int) [qr 5, qi a1, qi a2] S Q := by
  refine q_entry (lv := [(0, qr 5), (1, qi a1), (2, qi a2)]) pn_X9 (Nat.le_of_ble_eq_true rfl) rfl ?_
  unfold Waters_lowest at h
  refine q_aload_n dX9_lowest_0 rfl rfl ?_
  refine q_getA dX9_lowest_1 fl_X9_9 (hL 5 (by decide)) sh_5 (by decide) rfl rfl ?_
  refine q_iload_n dX9_lowest_4 rfl rfl ?_
  obtain ⟨c725, h⟩ := qk_some h
  refine q_iaload dX9_lowest_5 (hL 36 (by decide)) sh_36 (qIx_0 c725) (qIx_1 c725) rfl ?_
  refine q_istore_n (lv' := [(3, qi (S 36 (Int.toNat a1))), (0, qr 5), (1, qi a1), (2, qi a2)]) dX9_lowest_6 (by decide) rfl rfl ?_
  refine q_iload_n dX9_lowest_7 rfl rfl ?_
  refine q_istore (lv' := [(4, qi a1), (3, qi (S 36 (Int.toNat a1))), (0, qr 5), (1, qi a1), (2, qi a2)]) dX9_lowest_8 (by decide) rfl rfl ?_
  obtain ⟨q731, h732, h⟩ := Option.bind_eq_some_iff.mp h
  refine q_pick [2, 4, 1, 0] rfl (Waters_lowest_L10_ok hL d qF a2 (S 36 (Int.toNat a1)) a1 _ _ h732 ?_)
  refine q_iload_n dX9_lowest_34 rfl rfl ?_
  cases h
  exact q_ireturn dX9_lowest_35 rfl hQ
set_option maxRecDepth 20000 in
theorem Told_waterNeededBy_ok {X : qX} (hL : ∀ c, c < 93 → c ∈ qLs X) (d : Nat) (a1 : Int) (S : qSto) (o : (Int × qSto)) (h : Told_waterNeededBy a1 S = some o) (Q : Option qV → qSto → Prop) (hQ : Q (some (qi o.1)) o.2) : qC X (d + 1) yX8_waterNeededBy cX8_waterNeededBy 2 (some .int) [qr 2, qi a1] S Q := by
  refine q_entry (lv := [(0, qr 2), (1, qi a1)]) pn_X8 (Nat.le_of_ble_eq_true rfl) rfl ?_
  unfold Told_waterNeededBy at h
  refine q_aload_n dX8_waterNeededBy_0 rfl rfl ?_
  refine q_getA dX8_waterNeededBy_1 fl_X8_9 (hL 2 (by decide)) sh_2 (by decide) rfl rfl ?_
  refine q_iconst dX8_waterNeededBy_4 rfl rfl ?_
  refine q_iaload dX8_waterNeededBy_5 (hL 15 (by decide)) sh_15 (by decide) (by decide) rfl ?_
  refine q_aload_n dX8_waterNeededBy_6 rfl rfl ?_
  refine q_iload_n dX8_waterNeededBy_7 rfl rfl ?_
  refine q_iconst dX8_waterNeededBy_8 rfl rfl ?_
  obtain ⟨q735, h736, h⟩ := Option.bind_eq_some_iff.mp h
  refine q_callVi (as := [qi a1, qi 1]) (c := 2) dX8_waterNeededBy_9 ml_X8_96 rfl rfl (hL 2 (by decide)) sh_2 rfl rfl (Nat.le_of_ble_eq_true rfl) (Told_contractOf_ok hL d a1 1 _ _ h736) rfl ?_
  refine q_aload_n dX8_waterNeededBy_12 rfl rfl ?_
  refine q_iload_n dX8_waterNeededBy_13 rfl rfl ?_
  refine q_iconst dX8_waterNeededBy_14 rfl rfl ?_
  obtain ⟨q737, h738, h⟩ := Option.bind_eq_some_iff.mp h
  refine q_callVi (as := [qi a1, qi 2]) (c := 2) dX8_waterNeededBy_15 ml_X8_96 rfl rfl (hL 2 (by decide)) sh_2 rfl rfl (Nat.le_of_ble_eq_true rfl) (Told_contractOf_ok hL d a1 2 _ _ h738) rfl ?_
  obtain ⟨q739, h740, h⟩ := Option.bind_eq_some_iff.mp h
  refine q_callSi (as := [qi q735.1, qi q737.1]) dX8_waterNeededBy_18 ml_X8_90 rfl rfl (Nat.le_of_ble_eq_true rfl) (Jm_max_ok hL d q735.1 q737.1 _ _ h740) rfl ?_
  refine q_iadd dX8_waterNeededBy_21 rfl ?_
  cases h
  exact q_ireturn dX8_waterNeededBy_22 rfl hQ
set_option maxRecDepth 20000 in
theorem Laws_crowds_ok {X : qX} (hL : ∀ c, c < 93 → c ∈ qLs X) (d : Nat) (a1 : Int) (a2 : Int) (a3 : Int) (a4 : Int) (S : qSto) (o : (Int × qSto)) (h : Laws_crowds a1 a2 a3 a4 S = some o) (Q : Option qV → qSto → Prop) (hQ : Q (some (qi o.1)) o.2) : qC X (d + 1) yX3_crowds cX3_crowds 7 (some .boolean) [qr 8, qi a1, qi a2, qi a3, qi a4] S Q := by
  refine q_entry (lv := [(0, qr 8), (1, qi a1), (2, qi a2), (3, qi a3), (4, qi a4)]) pn_X3 (Nat.le_of_ble_eq_true rfl) rfl ?_
  unfold Laws_crowds at h
  refine q_iload_n dX3_crowds_0 rfl rfl ?_
  refine q_iload_n dX3_crowds_1 rfl rfl ?_
  obtain ⟨c747, h⟩ := qk_some h
  obtain ⟨c748, h⟩ := qk_some h
  refine q_icmp_eq (tgt := 46) dX3_crowds_2 (by decide) rfl (qRb_R c747) (qRb_R c748) (fun g => ?_) (fun g => ?_)
  · rw [if_pos (show a1 = a2 from g)] at h
    refine q_iconst dX3_crowds_46 rfl rfl ?_
    cases h
    exact q_zreturn dX3_crowds_47 rfl (by decide) hQ
  · rw [if_neg (show ¬ (a1 = a2) from g)] at h
    refine q_aload_n dX3_crowds_5 rfl rfl ?_
    refine q_getA dX3_crowds_6 fl_X3_19 (hL 8 (by decide)) sh_8 (by decide) rfl rfl ?_
    refine q_iload_n dX3_crowds_9 rfl rfl ?_
    obtain ⟨q749, h750, h⟩ := Option.bind_eq_some_iff.mp h
    refine q_callVi (as := [qi a1]) (c := 6) dX3_crowds_10 ml_X3_85 rfl rfl (hL 6 (by decide)) sh_6 rfl rfl (Nat.le_of_ble_eq_true rfl) (Stays_has_ok hL d a1 _ _ h750) rfl ?_
    obtain ⟨c751, h⟩ := qk_some h
    refine q_if_eq (tgt := 46) dX3_crowds_13 (by decide) rfl (qRb_R c751)  (fun g => ?_) (fun g => ?_)
    · rw [if_pos (show q749.1 = 0 from g)] at h
      refine q_iconst dX3_crowds_46 rfl rfl ?_
      cases h
      exact q_zreturn dX3_crowds_47 rfl (by decide) hQ
    · rw [if_neg (show ¬ (q749.1 = 0) from g)] at h
      refine q_aload_n dX3_crowds_16 rfl rfl ?_
      refine q_getA dX3_crowds_17 fl_X3_19 (hL 8 (by decide)) sh_8 (by decide) rfl rfl ?_
      refine q_getA dX3_crowds_20 fl_X3_91 (hL 6 (by decide)) sh_6 (by decide) rfl rfl ?_
      refine q_iload_n dX3_crowds_23 rfl rfl ?_
      obtain ⟨c752, h⟩ := qk_some h
      refine q_iaload dX3_crowds_24 (hL 39 (by decide)) sh_39 (qIx_0 c752) (qIx_1 c752) rfl ?_
      refine q_aload_n dX3_crowds_25 rfl rfl ?_
      refine q_getI dX3_crowds_26 fl_X3_44 (hL 8 (by decide)) sh_8 (by decide) rfl rfl ?_
      obtain ⟨c753, h⟩ := qk_some h
      obtain ⟨c754, h⟩ := qk_some h
      refine q_icmp_ge (tgt := 46) dX3_crowds_29 (by decide) rfl (qRb_R c753) (qRb_R c754) (fun g => ?_) (fun g => ?_)
      · rw [if_pos (show (q749.2 8 5) ≤ (q749.2 39 (Int.toNat a1)) from g)] at h
        refine q_iconst dX3_crowds_46 rfl rfl ?_
        cases h
        exact q_zreturn dX3_crowds_47 rfl (by decide) hQ
      · rw [if_neg (show ¬ ((q749.2 8 5) ≤ (q749.2 39 (Int.toNat a1))) from g)] at h
        refine q_iload dX3_crowds_32 rfl rfl ?_
        refine q_aload_n dX3_crowds_34 rfl rfl ?_
        refine q_getA dX3_crowds_35 fl_X3_19 (hL 8 (by decide)) sh_8 (by decide) rfl rfl ?_
        refine q_getA dX3_crowds_38 fl_X3_94 (hL 6 (by decide)) sh_6 (by decide) rfl rfl ?_
        refine q_iload_n dX3_crowds_41 rfl rfl ?_
        obtain ⟨c755, h⟩ := qk_some h
        refine q_iaload dX3_crowds_42 (hL 42 (by decide)) sh_42 (qIx_0 c755) (qIx_1 c755) rfl ?_
        obtain ⟨c756, h⟩ := qk_some h
        obtain ⟨c757, h⟩ := qk_some h
        refine q_icmp_lt (tgt := 48) dX3_crowds_43 (by decide) rfl (qRb_R c756) (qRb_R c757) (fun g => ?_) (fun g => ?_)
        · rw [if_pos (show a4 < (q749.2 42 (Int.toNat a1)) from g)] at h
          refine q_aload_n dX3_crowds_48 rfl rfl ?_
          refine q_getA dX3_crowds_49 fl_X3_9 (hL 8 (by decide)) sh_8 (by decide) rfl rfl ?_
          refine q_getA dX3_crowds_52 fl_X3_72 (hL 2 (by decide)) sh_2 (by decide) rfl rfl ?_
          refine q_iconst dX3_crowds_55 rfl rfl ?_
          refine q_iaload dX3_crowds_56 (hL 15 (by decide)) sh_15 (by decide) (by decide) rfl ?_
          refine q_istore (lv' := [(5, qi (q749.2 15 1)), (0, qr 8), (1, qi a1), (2, qi a2), (3, qi a3), (4, qi a4)]) dX3_crowds_57 (by decide) rfl rfl ?_
          refine q_iload_n dX3_crowds_59 rfl rfl ?_
          refine q_aload_n dX3_crowds_60 rfl rfl ?_
          refine q_getA dX3_crowds_61 fl_X3_9 (hL 8 (by decide)) sh_8 (by decide) rfl rfl ?_
          refine q_iload_n dX3_crowds_64 rfl rfl ?_
          refine q_iconst dX3_crowds_65 rfl rfl ?_
          obtain ⟨q758, h759, h⟩ := Option.bind_eq_some_iff.mp h
          refine q_callVi (as := [qi a2, qi 0]) (c := 2) dX3_crowds_66 ml_X3_35 rfl rfl (hL 2 (by decide)) sh_2 rfl rfl (Nat.le_of_ble_eq_true rfl) (Told_contractOf_ok hL d a2 0 _ _ h759) rfl ?_
          refine q_iadd dX3_crowds_69 rfl ?_
          refine q_iconst dX3_crowds_70 rfl rfl ?_
          refine q_isub dX3_crowds_71 rfl ?_
          refine q_istore (lv' := [(6, qi ((a3 + q758.1) - 1)), (5, qi (q749.2 15 1)), (0, qr 8), (1, qi a1), (2, qi a2), (3, qi a3), (4, qi a4)]) dX3_crowds_72 (by decide) rfl rfl ?_
          refine q_iload_n dX3_crowds_74 rfl rfl ?_
          refine q_aload_n dX3_crowds_75 rfl rfl ?_
          refine q_getA dX3_crowds_76 fl_X3_19 (hL 8 (by decide)) sh_8 (by decide) rfl rfl ?_
          refine q_getA dX3_crowds_79 fl_X3_96 (hL 6 (by decide)) sh_6 (by decide) rfl rfl ?_
          refine q_iload_n dX3_crowds_82 rfl rfl ?_
          obtain ⟨c760, h⟩ := qk_some h
          refine q_iaload dX3_crowds_83 (hL 38 (by decide)) sh_38 (qIx_0 c760) (qIx_1 c760) rfl ?_
          refine q_iload dX3_crowds_84 rfl rfl ?_
          refine q_iadd dX3_crowds_86 rfl ?_
          obtain ⟨c761, h⟩ := qk_some h
          obtain ⟨c762, h⟩ := qk_some h
          refine q_icmp_gt (tgt := 111) dX3_crowds_87 (by decide) rfl (qRb_R c761) (qRb_R c762) (fun g => ?_) (fun g => ?_)
          · rw [if_pos (show ((q758.2 38 (Int.toNat a1)) + (q749.2 15 1)) < a3 from g)] at h
            refine q_iconst dX3_crowds_111 rfl rfl ?_
            cases h
            exact q_zreturn dX3_crowds_112 rfl (by decide) hQ
          · rw [if_neg (show ¬ (((q758.2 38 (Int.toNat a1)) + (q749.2 15 1)) < a3) from g)] at h
            refine q_aload_n dX3_crowds_90 rfl rfl ?_
            refine q_getA dX3_crowds_91 fl_X3_19 (hL 8 (by decide)) sh_8 (by decide) rfl rfl ?_
            refine q_getA dX3_crowds_94 fl_X3_99 (hL 6 (by decide)) sh_6 (by decide) rfl rfl ?_
            refine q_iload_n dX3_crowds_97 rfl rfl ?_
            obtain ⟨c763, h⟩ := qk_some h
            refine q_iaload dX3_crowds_98 (hL 37 (by decide)) sh_37 (qIx_0 c763) (qIx_1 c763) rfl ?_
            refine q_iload dX3_crowds_99 rfl rfl ?_
            refine q_iload dX3_crowds_101 rfl rfl ?_
            refine q_iadd dX3_crowds_103 rfl ?_
            obtain ⟨c764, h⟩ := qk_some h
            obtain ⟨c765, h⟩ := qk_some h
            refine q_icmp_gt (tgt := 111) dX3_crowds_104 (by decide) rfl (qRb_R c764) (qRb_R c765) (fun g => ?_) (fun g => ?_)
            · rw [if_pos (show (((a3 + q758.1) - 1) + (q749.2 15 1)) < (q758.2 37 (Int.toNat a1)) from g)] at h
              refine q_iconst dX3_crowds_111 rfl rfl ?_
              cases h
              exact q_zreturn dX3_crowds_112 rfl (by decide) hQ
            · rw [if_neg (show ¬ ((((a3 + q758.1) - 1) + (q749.2 15 1)) < (q758.2 37 (Int.toNat a1))) from g)] at h
              refine q_iconst dX3_crowds_107 rfl rfl ?_
              refine q_goto (pc' := 112) dX3_crowds_108 (by decide) ?_
              cases h
              exact q_zreturn dX3_crowds_112 rfl (by decide) hQ
        · rw [if_neg (show ¬ (a4 < (q749.2 42 (Int.toNat a1))) from g)] at h
          refine q_iconst dX3_crowds_46 rfl rfl ?_
          cases h
          exact q_zreturn dX3_crowds_47 rfl (by decide) hQ
set_option maxRecDepth 20000 in
theorem Laws_pastObstacle_L3_ok {X : qX} (hL : ∀ c, c < 93 → c ∈ qLs X) (d : Nat) {Q : Option qV → qSto → Prop} : ∀ (n : Nat) (x1 : Int) (x2 : Int) (x3 : Int) (x4 : Int) (S : qSto) (o : (qSto ⊕ (Int × qSto))), Laws_pastObstacle_L3 n x1 x2 x3 x4 S = some o → (∀ t, o = Sum.inl t → qW X (d + 2) yX3_pastObstacle cX3_pastObstacle 5 (some .int) 56 [(2, qi x2)] [] t Q) → (∀ w, o = Sum.inr w → Q (some (qi w.1)) w.2) → qW X (d + 2) yX3_pastObstacle cX3_pastObstacle 5 (some .int) 3 [(0, qr 8), (1, qi x1), (2, qi x2), (3, qi x3), (4, qi x4)] [] S Q := by
  intro n
  induction n with
  | zero =>
    intro x1 x2 x3 x4 S o h
    simp [Laws_pastObstacle_L3] at h
  | succ n ih =>
    intro x1 x2 x3 x4 S o h hE hR
    rw [Laws_pastObstacle_L3] at h
    refine q_iload dX3_pastObstacle_3 rfl rfl ?_
    refine q_aload_n dX3_pastObstacle_5 rfl rfl ?_
    refine q_getA dX3_pastObstacle_6 fl_X3_9 (hL 8 (by decide)) sh_8 (by decide) rfl rfl ?_
    refine q_getI dX3_pastObstacle_9 fl_X3_102 (hL 2 (by decide)) sh_2 (by decide) rfl rfl ?_
    obtain ⟨c745, h⟩ := qk_some h
    obtain ⟨c746, h⟩ := qk_some h
    refine q_icmp_ge (tgt := 56) dX3_pastObstacle_12 (by decide) rfl (qRb_R c745) (qRb_R c746) (fun g => ?_) (fun g => ?_)
    · rw [if_pos (show (S 2 12) ≤ x4 from g)] at h
      cases h
      exact q_pick [2] rfl (hE _ rfl)
    · rw [if_neg (show ¬ ((S 2 12) ≤ x4) from g)] at h
      refine q_aload_n dX3_pastObstacle_15 rfl rfl ?_
      refine q_iload dX3_pastObstacle_16 rfl rfl ?_
      refine q_iload_n dX3_pastObstacle_18 rfl rfl ?_
      refine q_iload_n dX3_pastObstacle_19 rfl rfl ?_
      refine q_iload_n dX3_pastObstacle_20 rfl rfl ?_
      obtain ⟨q766, h767, h⟩ := Option.bind_eq_some_iff.mp h
      refine q_callVi (as := [qi x4, qi x1, qi x2, qi x3]) (c := 8) dX3_pastObstacle_21 ml_X3_105 rfl rfl (hL 8 (by decide)) sh_8 rfl rfl (Nat.le_of_ble_eq_true rfl) (Laws_crowds_ok hL d x4 x1 x2 x3 _ _ h767) rfl ?_
      obtain ⟨c768, h⟩ := qk_some h
      refine q_if_eq (tgt := 50) dX3_pastObstacle_24 (by decide) rfl (qRb_R c768)  (fun g => ?_) (fun g => ?_)
      · rw [if_pos (show q766.1 = 0 from g)] at h
        refine q_iinc (lv' := [(4, qi (x4 + 1)), (0, qr 8), (1, qi x1), (2, qi x2), (3, qi x3)]) dX3_pastObstacle_50 (by decide) rfl rfl rfl ?_
        refine q_goto (pc' := 3) dX3_pastObstacle_53 (by decide) ?_
        exact q_pick [1, 2, 3, 4, 0] rfl (ih x1 x2 x3 (x4 + 1) _ _ h hE hR)
      · rw [if_neg (show ¬ (q766.1 = 0) from g)] at h
        refine q_aload_n dX3_pastObstacle_27 rfl rfl ?_
        refine q_getA dX3_pastObstacle_28 fl_X3_19 (hL 8 (by decide)) sh_8 (by decide) rfl rfl ?_
        refine q_getA dX3_pastObstacle_31 fl_X3_96 (hL 6 (by decide)) sh_6 (by decide) rfl rfl ?_
        refine q_iload dX3_pastObstacle_34 rfl rfl ?_
        obtain ⟨c769, h⟩ := qk_some h
        refine q_iaload dX3_pastObstacle_36 (hL 38 (by decide)) sh_38 (qIx_0 c769) (qIx_1 c769) rfl ?_
        refine q_aload_n dX3_pastObstacle_37 rfl rfl ?_
        refine q_getA dX3_pastObstacle_38 fl_X3_9 (hL 8 (by decide)) sh_8 (by decide) rfl rfl ?_
        refine q_getA dX3_pastObstacle_41 fl_X3_72 (hL 2 (by decide)) sh_2 (by decide) rfl rfl ?_
        refine q_iconst dX3_pastObstacle_44 rfl rfl ?_
        refine q_iaload dX3_pastObstacle_45 (hL 15 (by decide)) sh_15 (by decide) (by decide) rfl ?_
        refine q_iadd dX3_pastObstacle_46 rfl ?_
        refine q_iconst dX3_pastObstacle_47 rfl rfl ?_
        refine q_iadd dX3_pastObstacle_48 rfl ?_
        cases h
        exact q_ireturn dX3_pastObstacle_49 rfl (hR _ rfl)
set_option maxRecDepth 20000 in
theorem Laws_pastObstacle_ok {X : qX} (hL : ∀ c, c < 93 → c ∈ qLs X) (d : Nat) (a1 : Int) (a2 : Int) (a3 : Int) (S : qSto) (o : (Int × qSto)) (h : Laws_pastObstacle a1 a2 a3 S = some o) (Q : Option qV → qSto → Prop) (hQ : Q (some (qi o.1)) o.2) : qC X (d + 2) yX3_pastObstacle cX3_pastObstacle 5 (some .int) [qr 8, qi a1, qi a2, qi a3] S Q := by
  refine q_entry (lv := [(0, qr 8), (1, qi a1), (2, qi a2), (3, qi a3)]) pn_X3 (Nat.le_of_ble_eq_true rfl) rfl ?_
  unfold Laws_pastObstacle at h
  refine q_iconst dX3_pastObstacle_0 rfl rfl ?_
  refine q_istore (lv' := [(4, qi 0), (0, qr 8), (1, qi a1), (2, qi a2), (3, qi a3)]) dX3_pastObstacle_1 (by decide) rfl rfl ?_
  obtain ⟨q770, h771, h⟩ := Option.bind_eq_some_iff.mp h
  refine q_pick [1, 2, 3, 4, 0] rfl (Laws_pastObstacle_L3_ok hL d qF a1 a2 a3 0 _ _ h771 (fun t772 e4106 => ?_) (fun w e4106 => ?_))
  · subst e4106
    simp only [Sum.elim_inl] at h
    refine q_iload_n dX3_pastObstacle_56 rfl rfl ?_
    cases h
    exact q_ireturn dX3_pastObstacle_57 rfl hQ
  · subst e4106
    simp only [Sum.elim_inr] at h
    cases h
    exact hQ
set_option maxRecDepth 20000 in
theorem Laws_firstShort_L16_ok {X : qX} (hL : ∀ c, c < 93 → c ∈ qLs X) (d : Nat) {Q : Option qV → qSto → Prop} : ∀ (n : Nat) (x2 : Int) (x3 : Int) (x4 : Int) (S : qSto) (o : (qSto ⊕ (Int × qSto))), Laws_firstShort_L16 n x2 x3 x4 S = some o → (∀ t, o = Sum.inl t → qW X (d + 1) yX3_firstShort cX3_firstShort 5 (some .int) 58 [] [] t Q) → (∀ w, o = Sum.inr w → Q (some (qi w.1)) w.2) → qW X (d + 1) yX3_firstShort cX3_firstShort 5 (some .int) 16 [(0, qr 8), (2, qi x2), (3, qi x3), (4, qi x4)] [] S Q := by
  intro n
  induction n with
  | zero =>
    intro x2 x3 x4 S o h
    simp [Laws_firstShort_L16] at h
  | succ n ih =>
    intro x2 x3 x4 S o h hE hR
    rw [Laws_firstShort_L16] at h
    refine q_iload dX3_firstShort_16 rfl rfl ?_
    refine q_iload_n dX3_firstShort_18 rfl rfl ?_
    obtain ⟨c779, h⟩ := qk_some h
    obtain ⟨c780, h⟩ := qk_some h
    refine q_icmp_ge (tgt := 58) dX3_firstShort_19 (by decide) rfl (qRb_R c779) (qRb_R c780) (fun g => ?_) (fun g => ?_)
    · rw [if_pos (show x3 ≤ x4 from g)] at h
      cases h
      exact q_pick [] rfl (hE _ rfl)
    · rw [if_neg (show ¬ (x3 ≤ x4) from g)] at h
      refine q_aload_n dX3_firstShort_22 rfl rfl ?_
      refine q_getA dX3_firstShort_23 fl_X3_19 (hL 8 (by decide)) sh_8 (by decide) rfl rfl ?_
      refine q_getA dX3_firstShort_26 fl_X3_114 (hL 6 (by decide)) sh_6 (by decide) rfl rfl ?_
      refine q_iload dX3_firstShort_29 rfl rfl ?_
      obtain ⟨c781, h⟩ := qk_some h
      refine q_iaload dX3_firstShort_31 (hL 43 (by decide)) sh_43 (qIx_0 c781) (qIx_1 c781) rfl ?_
      refine q_iload_n dX3_firstShort_32 rfl rfl ?_
      refine q_iadd dX3_firstShort_33 rfl ?_
      refine q_aload_n dX3_firstShort_34 rfl rfl ?_
      refine q_getA dX3_firstShort_35 fl_X3_9 (hL 8 (by decide)) sh_8 (by decide) rfl rfl ?_
      refine q_iload dX3_firstShort_38 rfl rfl ?_
      refine q_bipush dX3_firstShort_40 (by decide) rfl ?_
      obtain ⟨c782, h⟩ := qk_some h
      refine q_idiv dX3_firstShort_42 (qRb_R c782) ⟨by decide, by decide⟩ (by decide) rfl ?_
      obtain ⟨q783, h784, h⟩ := Option.bind_eq_some_iff.mp h
      refine q_callVi (as := [qi (Int.tdiv x4 16)]) (c := 2) dX3_firstShort_43 ml_X3_117 rfl rfl (hL 2 (by decide)) sh_2 rfl rfl (Nat.le_of_ble_eq_true rfl) (Told_gangsIn_ok hL d (Int.tdiv x4 16) _ _ h784) rfl ?_
      obtain ⟨c785, h⟩ := qk_some h
      obtain ⟨c786, h⟩ := qk_some h
      refine q_icmp_le (tgt := 52) dX3_firstShort_46 (by decide) rfl (qRb_R c785) (qRb_R c786) (fun g => ?_) (fun g => ?_)
      · rw [if_pos (show ((S 43 (Int.toNat x4)) + x2) ≤ q783.1 from g)] at h
        refine q_iinc (lv' := [(4, qi (x4 + 1)), (0, qr 8), (2, qi x2), (3, qi x3)]) dX3_firstShort_52 (by decide) rfl rfl rfl ?_
        refine q_goto (pc' := 16) dX3_firstShort_55 (by decide) ?_
        exact q_pick [1, 2, 3, 0] rfl (ih x2 x3 (x4 + 1) _ _ h hE hR)
      · rw [if_neg (show ¬ (((S 43 (Int.toNat x4)) + x2) ≤ q783.1) from g)] at h
        refine q_iload dX3_firstShort_49 rfl rfl ?_
        cases h
        exact q_ireturn dX3_firstShort_51 rfl (hR _ rfl)
set_option maxRecDepth 20000 in
theorem Laws_firstShort_ok {X : qX} (hL : ∀ c, c < 93 → c ∈ qLs X) (d : Nat) (a1 : Int) (a2 : Int) (S : qSto) (o : (Int × qSto)) (h : Laws_firstShort a1 a2 S = some o) (Q : Option qV → qSto → Prop) (hQ : Q (some (qi o.1)) o.2) : qC X (d + 1) yX3_firstShort cX3_firstShort 5 (some .int) [qr 8, qi a1, qi a2] S Q := by
  refine q_entry (lv := [(0, qr 8), (1, qi a1), (2, qi a2)]) pn_X3 (Nat.le_of_ble_eq_true rfl) rfl ?_
  unfold Laws_firstShort at h
  refine q_sipush dX3_firstShort_0 (by decide) rfl ?_
  refine q_iload_n dX3_firstShort_3 rfl rfl ?_
  refine q_aload_n dX3_firstShort_4 rfl rfl ?_
  refine q_getI dX3_firstShort_5 fl_X3_63 (hL 8 (by decide)) sh_8 (by decide) rfl rfl ?_
  refine q_iadd dX3_firstShort_8 rfl ?_
  obtain ⟨q777, h778, h⟩ := Option.bind_eq_some_iff.mp h
  refine q_callSi (as := [qi 336, qi (a1 + (S 8 4))]) dX3_firstShort_9 ml_X3_109 rfl rfl (Nat.le_of_ble_eq_true rfl) (Jm_min_ok hL d 336 (a1 + (S 8 4)) _ _ h778) rfl ?_
  refine q_istore_n (lv' := [(3, qi q777.1), (0, qr 8), (1, qi a1), (2, qi a2)]) dX3_firstShort_12 (by decide) rfl rfl ?_
  refine q_iload_n dX3_firstShort_13 rfl rfl ?_
  refine q_istore (lv' := [(4, qi a1), (3, qi q777.1), (0, qr 8), (1, qi a1), (2, qi a2)]) dX3_firstShort_14 (by decide) rfl rfl ?_
  obtain ⟨q787, h788, h⟩ := Option.bind_eq_some_iff.mp h
  refine q_pick [2, 4, 1, 0] rfl (Laws_firstShort_L16_ok hL d qF a2 q777.1 a1 _ _ h788 (fun t789 e4107 => ?_) (fun w e4107 => ?_))
  · subst e4107
    simp only [Sum.elim_inl] at h
    refine q_iconst dX3_firstShort_58 rfl rfl ?_
    cases h
    exact q_ireturn dX3_firstShort_59 rfl hQ
  · subst e4107
    simp only [Sum.elim_inr] at h
    cases h
    exact hQ
set_option maxRecDepth 20000 in
theorem Stays_propose_ok {X : qX} (hL : ∀ c, c < 93 → c ∈ qLs X) (d : Nat) (a1 : Int) (a2 : Int) (a3 : Int) (a4 : Int) (a5 : Int) (S : qSto) (o : qSto) (h : Stays_propose a1 a2 a3 a4 a5 S = some o) (Q : Option qV → qSto → Prop) (hQ : Q none o) : qC X (d + 1) yX7_propose cX7_propose 6 none [qr 6, qi a1, qi a2, qi a3, qi a4, qi a5] S Q := by
  refine q_entry (lv := [(0, qr 6), (1, qi a1), (2, qi a2), (3, qi a3), (4, qi a4), (5, qi a5)]) pn_X7 (Nat.le_of_ble_eq_true rfl) rfl ?_
  unfold Stays_propose at h
  refine q_aload_n dX7_propose_0 rfl rfl ?_
  refine q_getA dX7_propose_1 fl_X7_9 (hL 6 (by decide)) sh_6 (by decide) rfl rfl ?_
  refine q_iload_n dX7_propose_4 rfl rfl ?_
  refine q_iload_n dX7_propose_5 rfl rfl ?_
  obtain ⟨c793, h⟩ := qk_some h
  refine q_iastore dX7_propose_6 (hL 37 (by decide)) sh_37 (qIx_0 c793) (qIx_1 c793) rfl ?_
  refine q_aload_n dX7_propose_7 rfl rfl ?_
  refine q_getA dX7_propose_8 fl_X7_15 (hL 6 (by decide)) sh_6 (by decide) rfl rfl ?_
  refine q_iload_n dX7_propose_11 rfl rfl ?_
  refine q_iload_n dX7_propose_12 rfl rfl ?_
  refine q_aload_n dX7_propose_13 rfl rfl ?_
  refine q_getA dX7_propose_14 fl_X7_36 (hL 6 (by decide)) sh_6 (by decide) rfl rfl ?_
  refine q_iload_n dX7_propose_17 rfl rfl ?_
  refine q_iconst dX7_propose_18 rfl rfl ?_
  obtain ⟨q794, h795, h⟩ := Option.bind_eq_some_iff.mp h
  refine q_callVi (as := [qi a1, qi 0]) (c := 2) dX7_propose_19 ml_X7_54 rfl rfl (hL 2 (by decide)) sh_2 rfl rfl (Nat.le_of_ble_eq_true rfl) (Told_contractOf_ok hL d a1 0 _ _ h795) rfl ?_
  refine q_iadd dX7_propose_22 rfl ?_
  refine q_iconst dX7_propose_23 rfl rfl ?_
  refine q_isub dX7_propose_24 rfl ?_
  obtain ⟨c796, h⟩ := qk_some h
  refine q_iastore dX7_propose_25 (hL 38 (by decide)) sh_38 (qIx_0 c796) (qIx_1 c796) rfl ?_
  refine q_aload_n dX7_propose_26 rfl rfl ?_
  refine q_getA dX7_propose_27 fl_X7_18 (hL 6 (by decide)) sh_6 (by decide) rfl rfl ?_
  refine q_iload_n dX7_propose_30 rfl rfl ?_
  refine q_iload_n dX7_propose_31 rfl rfl ?_
  obtain ⟨c797, h⟩ := qk_some h
  refine q_iastore dX7_propose_32 (hL 39 (by decide)) sh_39 (qIx_0 c797) (qIx_1 c797) rfl ?_
  refine q_aload_n dX7_propose_33 rfl rfl ?_
  refine q_getA dX7_propose_34 fl_X7_21 (hL 6 (by decide)) sh_6 (by decide) rfl rfl ?_
  refine q_iload_n dX7_propose_37 rfl rfl ?_
  refine q_iload dX7_propose_38 rfl rfl ?_
  obtain ⟨c798, h⟩ := qk_some h
  refine q_iastore dX7_propose_40 (hL 40 (by decide)) sh_40 (qIx_0 c798) (qIx_1 c798) rfl ?_
  refine q_aload_n dX7_propose_41 rfl rfl ?_
  refine q_getA dX7_propose_42 fl_X7_24 (hL 6 (by decide)) sh_6 (by decide) rfl rfl ?_
  refine q_iload_n dX7_propose_45 rfl rfl ?_
  refine q_iload dX7_propose_46 rfl rfl ?_
  obtain ⟨c799, h⟩ := qk_some h
  refine q_iastore dX7_propose_48 (hL 41 (by decide)) sh_41 (qIx_0 c799) (qIx_1 c799) rfl ?_
  cases h
  exact q_return dX7_propose_49 rfl hQ
set_option maxRecDepth 20000 in
theorem Stays_lineUp_L31_ok {X : qX} (hL : ∀ c, c < 93 → c ∈ qLs X) (d : Nat) {Q : Option qV → qSto → Prop} : ∀ (n : Nat) (x1 : Int) (x2 : Int) (S : qSto) (o : (Int × qSto)), Stays_lineUp_L31 n x1 x2 S = some o → (qW X (d + 1) yX7_lineUp cX7_lineUp 3 none 77 [(0, qr 6), (1, qi x1), (2, qi o.1)] [] o.2 Q) → qW X (d + 1) yX7_lineUp cX7_lineUp 3 none 31 [(0, qr 6), (1, qi x1), (2, qi x2)] [] S Q := by
  intro n
  induction n with
  | zero =>
    intro x1 x2 S o h
    simp [Stays_lineUp_L31] at h
  | succ n ih =>
    intro x1 x2 S o h hE
    rw [Stays_lineUp_L31] at h
    refine q_iload_n dX7_lineUp_31 rfl rfl ?_
    obtain ⟨c807, h⟩ := qk_some h
    refine q_if_le (tgt := 77) dX7_lineUp_32 (by decide) rfl (qRb_R c807)  (fun g => ?_) (fun g => ?_)
    · rw [if_pos (show x2 ≤ 0 from g)] at h
      cases h
      exact q_pick [0, 1, 2] rfl (hE)
    · rw [if_neg (show ¬ (x2 ≤ 0) from g)] at h
      refine q_aload_n dX7_lineUp_35 rfl rfl ?_
      refine q_getA dX7_lineUp_36 fl_X7_9 (hL 6 (by decide)) sh_6 (by decide) rfl rfl ?_
      refine q_aload_n dX7_lineUp_39 rfl rfl ?_
      refine q_getA dX7_lineUp_40 fl_X7_33 (hL 6 (by decide)) sh_6 (by decide) rfl rfl ?_
      refine q_iload_n dX7_lineUp_43 rfl rfl ?_
      refine q_iconst dX7_lineUp_44 rfl rfl ?_
      refine q_isub dX7_lineUp_45 rfl ?_
      obtain ⟨c808, h⟩ := qk_some h
      refine q_iaload dX7_lineUp_46 (hL 44 (by decide)) sh_44 (qIx_0 c808) (qIx_1 c808) rfl ?_
      obtain ⟨c809, h⟩ := qk_some h
      refine q_iaload dX7_lineUp_47 (hL 37 (by decide)) sh_37 (qIx_0 c809) (qIx_1 c809) rfl ?_
      refine q_aload_n dX7_lineUp_48 rfl rfl ?_
      refine q_getA dX7_lineUp_49 fl_X7_9 (hL 6 (by decide)) sh_6 (by decide) rfl rfl ?_
      refine q_iload_n dX7_lineUp_52 rfl rfl ?_
      obtain ⟨c810, h⟩ := qk_some h
      refine q_iaload dX7_lineUp_53 (hL 37 (by decide)) sh_37 (qIx_0 c810) (qIx_1 c810) rfl ?_
      obtain ⟨c811, h⟩ := qk_some h
      obtain ⟨c812, h⟩ := qk_some h
      refine q_icmp_le (tgt := 77) dX7_lineUp_54 (by decide) rfl (qRb_R c811) (qRb_R c812) (fun g => ?_) (fun g => ?_)
      · rw [if_pos (show (S 37 (Int.toNat (S 44 (Int.toNat (x2 - 1))))) ≤ (S 37 (Int.toNat x1)) from g)] at h
        cases h
        exact q_pick [0, 1, 2] rfl (hE)
      · rw [if_neg (show ¬ ((S 37 (Int.toNat (S 44 (Int.toNat (x2 - 1))))) ≤ (S 37 (Int.toNat x1))) from g)] at h
        refine q_aload_n dX7_lineUp_57 rfl rfl ?_
        refine q_getA dX7_lineUp_58 fl_X7_33 (hL 6 (by decide)) sh_6 (by decide) rfl rfl ?_
        refine q_iload_n dX7_lineUp_61 rfl rfl ?_
        refine q_aload_n dX7_lineUp_62 rfl rfl ?_
        refine q_getA dX7_lineUp_63 fl_X7_33 (hL 6 (by decide)) sh_6 (by decide) rfl rfl ?_
        refine q_iload_n dX7_lineUp_66 rfl rfl ?_
        refine q_iconst dX7_lineUp_67 rfl rfl ?_
        refine q_isub dX7_lineUp_68 rfl ?_
        obtain ⟨c813, h⟩ := qk_some h
        refine q_iaload dX7_lineUp_69 (hL 44 (by decide)) sh_44 (qIx_0 c813) (qIx_1 c813) rfl ?_
        obtain ⟨c814, h⟩ := qk_some h
        refine q_iastore dX7_lineUp_70 (hL 44 (by decide)) sh_44 (qIx_0 c814) (qIx_1 c814) rfl ?_
        refine q_iinc (lv' := [(2, qi (x2 + (-1))), (0, qr 6), (1, qi x1)]) dX7_lineUp_71 (by decide) rfl rfl rfl ?_
        refine q_goto (pc' := 31) dX7_lineUp_74 (by decide) ?_
        exact q_pick [1, 2, 0] rfl (ih x1 (x2 + (-1)) _ _ h hE)
set_option maxRecDepth 20000 in
theorem Stays_lineUp_L7_ok {X : qX} (hL : ∀ c, c < 93 → c ∈ qLs X) (d : Nat) {Q : Option qV → qSto → Prop} : ∀ (n : Nat) (x1 : Int) (S : qSto) (o : qSto), Stays_lineUp_L7 n x1 S = some o → (qW X (d + 1) yX7_lineUp cX7_lineUp 3 none 100 [] [] o Q) → qW X (d + 1) yX7_lineUp cX7_lineUp 3 none 7 [(0, qr 6), (1, qi x1)] [] S Q := by
  intro n
  induction n with
  | zero =>
    intro x1 S o h
    simp [Stays_lineUp_L7] at h
  | succ n ih =>
    intro x1 S o h hE
    rw [Stays_lineUp_L7] at h
    refine q_iload_n dX7_lineUp_7 rfl rfl ?_
    refine q_aload_n dX7_lineUp_8 rfl rfl ?_
    refine q_getA dX7_lineUp_9 fl_X7_36 (hL 6 (by decide)) sh_6 (by decide) rfl rfl ?_
    refine q_getI dX7_lineUp_12 fl_X7_44 (hL 2 (by decide)) sh_2 (by decide) rfl rfl ?_
    obtain ⟨c802, h⟩ := qk_some h
    obtain ⟨c803, h⟩ := qk_some h
    refine q_icmp_ge (tgt := 100) dX7_lineUp_15 (by decide) rfl (qRb_R c802) (qRb_R c803) (fun g => ?_) (fun g => ?_)
    · rw [if_pos (show (S 2 12) ≤ x1 from g)] at h
      cases h
      exact q_pick [] rfl (hE)
    · rw [if_neg (show ¬ ((S 2 12) ≤ x1) from g)] at h
      refine q_aload_n dX7_lineUp_18 rfl rfl ?_
      refine q_iload_n dX7_lineUp_19 rfl rfl ?_
      obtain ⟨q804, h805, h⟩ := Option.bind_eq_some_iff.mp h
      refine q_callVi (as := [qi x1]) (c := 6) dX7_lineUp_20 ml_X7_50 rfl rfl (hL 6 (by decide)) sh_6 rfl rfl (Nat.le_of_ble_eq_true rfl) (Stays_has_ok hL d x1 _ _ h805) rfl ?_
      refine q_jn (G := fun (t818 : qSto) => qW X (d + 1) yX7_lineUp cX7_lineUp 3 none 94 [(0, qr 6), (1, qi x1)] [] t818 Q) h (fun t818 h => ?_) (fun t818 h hk4108 => ?_)
      · try dsimp only at h
        refine q_iinc (lv' := [(1, qi (x1 + 1)), (0, qr 6)]) dX7_lineUp_94 (by decide) rfl rfl rfl ?_
        refine q_goto (pc' := 7) dX7_lineUp_97 (by decide) ?_
        exact q_pick [1, 0] rfl (ih (x1 + 1) _ _ h hE)
      · skip
        obtain ⟨c806, h⟩ := qk_some h
        refine q_if_eq (tgt := 94) dX7_lineUp_23 (by decide) rfl (qRb_R c806)  (fun g => ?_) (fun g => ?_)
        · rw [if_pos (show q804.1 = 0 from g)] at h
          cases h
          exact q_pick [0, 1] rfl hk4108
        · rw [if_neg (show ¬ (q804.1 = 0) from g)] at h
          refine q_aload_n dX7_lineUp_26 rfl rfl ?_
          refine q_getI dX7_lineUp_27 fl_X7_105 (hL 6 (by decide)) sh_6 (by decide) rfl rfl ?_
          refine q_istore_n (lv' := [(2, qi (q804.2 6 10)), (0, qr 6), (1, qi x1)]) dX7_lineUp_30 (by decide) rfl rfl ?_
          obtain ⟨q815, h816, h⟩ := Option.bind_eq_some_iff.mp h
          refine q_pick [1, 2, 0] rfl (Stays_lineUp_L31_ok hL d qF x1 (q804.2 6 10) _ _ h816 ?_)
          refine q_aload_n dX7_lineUp_77 rfl rfl ?_
          refine q_getA dX7_lineUp_78 fl_X7_33 (hL 6 (by decide)) sh_6 (by decide) rfl rfl ?_
          refine q_iload_n dX7_lineUp_81 rfl rfl ?_
          refine q_iload_n dX7_lineUp_82 rfl rfl ?_
          obtain ⟨c817, h⟩ := qk_some h
          refine q_iastore dX7_lineUp_83 (hL 44 (by decide)) sh_44 (qIx_0 c817) (qIx_1 c817) rfl ?_
          refine q_aload_n dX7_lineUp_84 rfl rfl ?_
          refine q_dupA dX7_lineUp_85 rfl ?_
          refine q_getI dX7_lineUp_86 fl_X7_105 (hL 6 (by decide)) sh_6 (by decide) rfl rfl ?_
          refine q_iconst dX7_lineUp_89 rfl rfl ?_
          refine q_iadd dX7_lineUp_90 rfl ?_
          refine q_putI dX7_lineUp_91 fl_X7_105 (hL 6 (by decide)) sh_6 (by decide) pf_7_10 pt_7_10 rfl rfl ?_
          cases h
          exact q_pick [0, 1] rfl hk4108
set_option maxRecDepth 20000 in
theorem Stays_lineUp_ok {X : qX} (hL : ∀ c, c < 93 → c ∈ qLs X) (d : Nat) (S : qSto) (o : qSto) (h : Stays_lineUp S = some o) (Q : Option qV → qSto → Prop) (hQ : Q none o) : qC X (d + 1) yX7_lineUp cX7_lineUp 3 none [qr 6] S Q := by
  refine q_entry (lv := [(0, qr 6)]) pn_X7 (Nat.le_of_ble_eq_true rfl) rfl ?_
  unfold Stays_lineUp at h
  refine q_aload_n dX7_lineUp_0 rfl rfl ?_
  refine q_iconst dX7_lineUp_1 rfl rfl ?_
  refine q_putI dX7_lineUp_2 fl_X7_105 (hL 6 (by decide)) sh_6 (by decide) pf_7_10 pt_7_10 rfl rfl ?_
  refine q_iconst dX7_lineUp_5 rfl rfl ?_
  refine q_istore_n (lv' := [(1, qi 0), (0, qr 6)]) dX7_lineUp_6 (by decide) rfl rfl ?_
  obtain ⟨q819, h820, h⟩ := Option.bind_eq_some_iff.mp h
  refine q_pick [1, 0] rfl (Stays_lineUp_L7_ok hL d qF 0 _ _ h820 ?_)
  cases h
  exact q_return dX7_lineUp_100 rfl hQ
set_option maxRecDepth 20000 in
theorem Ja_fill_45_L5_ok {X : qX} (hL : ∀ c, c < 93 → c ∈ qLs X) (d : Nat) {Q : Option qV → qSto → Prop} : ∀ (n : Nat) (x1 : Int) (x2 : Int) (S : qSto) (o : qSto), Ja_fill_45_L5 n x1 x2 S = some o → (qW X d yJ7_fill_53178 cJ7_fill_53178 4 none 20 [] [] o Q) → qW X d yJ7_fill_53178 cJ7_fill_53178 4 none 5 [(0, qr 45), (1, qi x1), (2, qi x2), (3, qi 8)] [] S Q := by
  intro n
  induction n with
  | zero =>
    intro x1 x2 S o h
    simp [Ja_fill_45_L5] at h
  | succ n ih =>
    intro x1 x2 S o h hE
    rw [Ja_fill_45_L5] at h
    refine q_iload_n dJ7_fill_53178_5 rfl rfl ?_
    refine q_iload_n dJ7_fill_53178_6 rfl rfl ?_
    obtain ⟨c832, h⟩ := qk_some h
    refine q_icmp_ge (tgt := 20) dJ7_fill_53178_7 (by decide) rfl (qRb_R c832) ⟨by decide, by decide⟩ (fun g => ?_) (fun g => ?_)
    · rw [if_pos (show 8 ≤ x2 from g)] at h
      cases h
      exact q_pick [] rfl (hE)
    · rw [if_neg (show ¬ (8 ≤ x2) from g)] at h
      refine q_aload_n dJ7_fill_53178_10 rfl rfl ?_
      refine q_iload_n dJ7_fill_53178_11 rfl rfl ?_
      refine q_iload_n dJ7_fill_53178_12 rfl rfl ?_
      obtain ⟨c833, h⟩ := qk_some h
      refine q_iastore dJ7_fill_53178_13 (hL 45 (by decide)) sh_45 (qIx_0 c833) (qIx_1 c833) rfl ?_
      refine q_iinc (lv' := [(2, qi (x2 + 1)), (0, qr 45), (1, qi x1), (3, qi 8)]) dJ7_fill_53178_14 (by decide) rfl rfl rfl ?_
      refine q_goto (pc' := 5) dJ7_fill_53178_17 (by decide) ?_
      exact q_pick [1, 2, 0, 3] rfl (ih x1 (x2 + 1) _ _ h hE)
set_option maxRecDepth 20000 in
theorem Ja_fill_45_ok {X : qX} (hL : ∀ c, c < 93 → c ∈ qLs X) (d : Nat) (a1 : Int) (S : qSto) (o : qSto) (h : Ja_fill_45 a1 S = some o) (Q : Option qV → qSto → Prop) (hQ : Q none o) : qC X d yJ7_fill_53178 cJ7_fill_53178 4 none [qr 45, qi a1] S Q := by
  refine q_entry (lv := [(0, qr 45), (1, qi a1)]) pn_J7 (Nat.le_of_ble_eq_true rfl) rfl ?_
  unfold Ja_fill_45 at h
  refine q_iconst dJ7_fill_53178_0 rfl rfl ?_
  refine q_istore_n (lv' := [(2, qi 0), (0, qr 45), (1, qi a1)]) dJ7_fill_53178_1 (by decide) rfl rfl ?_
  refine q_aload_n dJ7_fill_53178_2 rfl rfl ?_
  refine q_alen (k0 := 0) dJ7_fill_53178_3 (hL 45 (by decide)) sh_45 (by decide) rfl ?_
  refine q_istore_n (lv' := [(3, qi 8), (2, qi 0), (0, qr 45), (1, qi a1)]) dJ7_fill_53178_4 (by decide) rfl rfl ?_
  obtain ⟨q834, h835, h⟩ := Option.bind_eq_some_iff.mp h
  refine q_pick [2, 3, 1, 0] rfl (Ja_fill_45_L5_ok hL d qF a1 0 _ _ h835 ?_)
  cases h
  exact q_return dJ7_fill_53178_20 rfl hQ
set_option maxRecDepth 20000 in
theorem Dealer_reaches_ok {X : qX} (hL : ∀ c, c < 93 → c ∈ qLs X) (d : Nat) (a1 : Int) (a2 : Int) (a3 : Int) (S : qSto) (o : (Int × qSto)) (h : Dealer_reaches a1 a2 a3 S = some o) (Q : Option qV → qSto → Prop) (hQ : Q (some (qi o.1)) o.2) : qC X d yX0_reaches cX0_reaches 4 (some .boolean) [qr 7, qi a1, qi a2, qi a3] S Q := by
  refine q_entry (lv := [(0, qr 7), (1, qi a1), (2, qi a2), (3, qi a3)]) pn_X0 (Nat.le_of_ble_eq_true rfl) rfl ?_
  unfold Dealer_reaches at h
  refine q_aload_n dX0_reaches_0 rfl rfl ?_
  refine q_getA dX0_reaches_1 fl_X0_15 (hL 7 (by decide)) sh_7 (by decide) rfl rfl ?_
  refine q_getA dX0_reaches_4 fl_X0_61 (hL 2 (by decide)) sh_2 (by decide) rfl rfl ?_
  refine q_iload_n dX0_reaches_7 rfl rfl ?_
  obtain ⟨c856, h⟩ := qk_some h
  refine q_iaload dX0_reaches_8 (hL 18 (by decide)) sh_18 (qIx_0 c856) (qIx_1 c856) rfl ?_
  refine q_iload_n dX0_reaches_9 rfl rfl ?_
  obtain ⟨c857, h⟩ := qk_some h
  obtain ⟨c858, h⟩ := qk_some h
  refine q_icmp_gt (tgt := 30) dX0_reaches_10 (by decide) rfl (qRb_R c857) (qRb_R c858) (fun g => ?_) (fun g => ?_)
  · rw [if_pos (show a3 < (S 18 (Int.toNat a1)) from g)] at h
    refine q_iconst dX0_reaches_30 rfl rfl ?_
    cases h
    exact q_zreturn dX0_reaches_31 rfl (by decide) hQ
  · rw [if_neg (show ¬ (a3 < (S 18 (Int.toNat a1))) from g)] at h
    refine q_aload_n dX0_reaches_13 rfl rfl ?_
    refine q_getA dX0_reaches_14 fl_X0_15 (hL 7 (by decide)) sh_7 (by decide) rfl rfl ?_
    refine q_getA dX0_reaches_17 fl_X0_64 (hL 2 (by decide)) sh_2 (by decide) rfl rfl ?_
    refine q_iload_n dX0_reaches_20 rfl rfl ?_
    obtain ⟨c859, h⟩ := qk_some h
    refine q_iaload dX0_reaches_21 (hL 19 (by decide)) sh_19 (qIx_0 c859) (qIx_1 c859) rfl ?_
    refine q_iload_n dX0_reaches_22 rfl rfl ?_
    obtain ⟨c860, h⟩ := qk_some h
    obtain ⟨c861, h⟩ := qk_some h
    refine q_icmp_lt (tgt := 30) dX0_reaches_23 (by decide) rfl (qRb_R c860) (qRb_R c861) (fun g => ?_) (fun g => ?_)
    · rw [if_pos (show (S 19 (Int.toNat a1)) < a2 from g)] at h
      refine q_iconst dX0_reaches_30 rfl rfl ?_
      cases h
      exact q_zreturn dX0_reaches_31 rfl (by decide) hQ
    · rw [if_neg (show ¬ ((S 19 (Int.toNat a1)) < a2) from g)] at h
      refine q_iconst dX0_reaches_26 rfl rfl ?_
      refine q_goto (pc' := 31) dX0_reaches_27 (by decide) ?_
      cases h
      exact q_zreturn dX0_reaches_31 rfl (by decide) hQ
set_option maxRecDepth 20000 in
theorem Dealer_deal_L91_ok {X : qX} (hL : ∀ c, c < 93 → c ∈ qLs X) (d : Nat) {Q : Option qV → qSto → Prop} : ∀ (n : Nat) (x1 : Int) (x2 : Int) (x3 : Int) (x4 : Int) (x5 : Int) (x6 : Int) (S : qSto) (o : (Int × Int × qSto)), Dealer_deal_L91 n x2 x3 x5 x6 S = some o → (qW X (d + 1) yX0_deal cX0_deal 7 (some .boolean) 157 [(0, qr 7), (1, qi x1), (2, qi x2), (3, qi o.1), (4, qi x4), (6, qi o.2.1)] [] o.2.2 Q) → qW X (d + 1) yX0_deal cX0_deal 7 (some .boolean) 91 [(0, qr 7), (1, qi x1), (2, qi x2), (3, qi x3), (4, qi x4), (5, qi x5), (6, qi x6)] [] S Q := by
  intro n
  induction n with
  | zero =>
    intro x1 x2 x3 x4 x5 x6 S o h
    simp [Dealer_deal_L91] at h
  | succ n ih =>
    intro x1 x2 x3 x4 x5 x6 S o h hE
    rw [Dealer_deal_L91] at h
    refine q_iload dX0_deal_91 rfl rfl ?_
    obtain ⟨c849, h⟩ := qk_some h
    refine q_if_le (tgt := 157) dX0_deal_93 (by decide) rfl (qRb_R c849)  (fun g => ?_) (fun g => ?_)
    · rw [if_pos (show x6 ≤ 0 from g)] at h
      cases h
      exact q_pick [0, 1, 2, 3, 4, 6] rfl (hE)
    · rw [if_neg (show ¬ (x6 ≤ 0) from g)] at h
      refine q_iload_n dX0_deal_96 rfl rfl ?_
      refine q_aload_n dX0_deal_97 rfl rfl ?_
      refine q_getA dX0_deal_98 fl_X0_15 (hL 7 (by decide)) sh_7 (by decide) rfl rfl ?_
      refine q_getI dX0_deal_101 fl_X0_47 (hL 2 (by decide)) sh_2 (by decide) rfl rfl ?_
      obtain ⟨c850, h⟩ := qk_some h
      obtain ⟨c851, h⟩ := qk_some h
      refine q_icmp_ge (tgt := 157) dX0_deal_104 (by decide) rfl (qRb_R c850) (qRb_R c851) (fun g => ?_) (fun g => ?_)
      · rw [if_pos (show (S 2 5) ≤ x3 from g)] at h
        cases h
        exact q_pick [0, 1, 2, 3, 4, 6] rfl (hE)
      · rw [if_neg (show ¬ ((S 2 5) ≤ x3) from g)] at h
        refine q_iload_n dX0_deal_107 rfl rfl ?_
        refine q_iload_n dX0_deal_108 rfl rfl ?_
        refine q_jn (G := fun (t866 : (Int × qSto)) => qW X (d + 1) yX0_deal cX0_deal 7 (some .boolean) 151 [(0, qr 7), (1, qi x1), (2, qi x2), (3, qi x3), (4, qi x4), (5, qi x5), (6, qi t866.1)] [] t866.2 Q) h (fun t866 h => ?_) (fun t866 h hk4109 => ?_)
        · try dsimp only at h
          refine q_iinc (lv' := [(3, qi (x3 + 1)), (0, qr 7), (1, qi x1), (2, qi x2), (4, qi x4), (5, qi x5), (6, qi t866.1)]) dX0_deal_151 (by decide) rfl rfl rfl ?_
          refine q_goto (pc' := 91) dX0_deal_154 (by decide) ?_
          exact q_pick [1, 2, 3, 0, 4, 5, 6] rfl (ih x1 x2 (x3 + 1) x4 x5 t866.1 _ _ h hE)
        · skip
          obtain ⟨c852, h⟩ := qk_some h
          obtain ⟨c853, h⟩ := qk_some h
          refine q_icmp_eq (tgt := 151) dX0_deal_109 (by decide) rfl (qRb_R c852) (qRb_R c853) (fun g => ?_) (fun g => ?_)
          · rw [if_pos (show x3 = x2 from g)] at h
            cases h
            exact q_pick [0, 1, 2, 3, 4, 5, 6] rfl hk4109
          · rw [if_neg (show ¬ (x3 = x2) from g)] at h
            refine q_aload_n dX0_deal_112 rfl rfl ?_
            refine q_iload_n dX0_deal_113 rfl rfl ?_
            refine q_aload_n dX0_deal_114 rfl rfl ?_
            refine q_getA dX0_deal_115 fl_X0_19 (hL 7 (by decide)) sh_7 (by decide) rfl rfl ?_
            refine q_getA dX0_deal_118 fl_X0_51 (hL 6 (by decide)) sh_6 (by decide) rfl rfl ?_
            refine q_iload dX0_deal_121 rfl rfl ?_
            obtain ⟨c854, h⟩ := qk_some h
            refine q_iaload dX0_deal_123 (hL 37 (by decide)) sh_37 (qIx_0 c854) (qIx_1 c854) rfl ?_
            refine q_aload_n dX0_deal_124 rfl rfl ?_
            refine q_getA dX0_deal_125 fl_X0_19 (hL 7 (by decide)) sh_7 (by decide) rfl rfl ?_
            refine q_getA dX0_deal_128 fl_X0_54 (hL 6 (by decide)) sh_6 (by decide) rfl rfl ?_
            refine q_iload dX0_deal_131 rfl rfl ?_
            obtain ⟨c855, h⟩ := qk_some h
            refine q_iaload dX0_deal_133 (hL 38 (by decide)) sh_38 (qIx_0 c855) (qIx_1 c855) rfl ?_
            obtain ⟨q862, h863, h⟩ := Option.bind_eq_some_iff.mp h
            refine q_callVi (as := [qi x3, qi (S 37 (Int.toNat x5)), qi (S 38 (Int.toNat x5))]) (c := 7) dX0_deal_134 ml_X0_57 rfl rfl (hL 7 (by decide)) sh_7 rfl rfl (Nat.le_of_ble_eq_true rfl) (Dealer_reaches_ok hL d x3 (S 37 (Int.toNat x5)) (S 38 (Int.toNat x5)) _ _ h863) rfl ?_
            obtain ⟨c864, h⟩ := qk_some h
            refine q_if_eq (tgt := 151) dX0_deal_137 (by decide) rfl (qRb_R c864)  (fun g => ?_) (fun g => ?_)
            · rw [if_pos (show q862.1 = 0 from g)] at h
              cases h
              exact q_pick [0, 1, 2, 3, 4, 5, 6] rfl hk4109
            · rw [if_neg (show ¬ (q862.1 = 0) from g)] at h
              refine q_aload_n dX0_deal_140 rfl rfl ?_
              refine q_getA dX0_deal_141 fl_X0_9 (hL 7 (by decide)) sh_7 (by decide) rfl rfl ?_
              refine q_iload_n dX0_deal_144 rfl rfl ?_
              refine q_iload dX0_deal_145 rfl rfl ?_
              obtain ⟨c865, h⟩ := qk_some h
              refine q_iastore dX0_deal_147 (hL 45 (by decide)) sh_45 (qIx_0 c865) (qIx_1 c865) rfl ?_
              refine q_iinc (lv' := [(6, qi (x6 + (-1))), (0, qr 7), (1, qi x1), (2, qi x2), (3, qi x3), (4, qi x4), (5, qi x5)]) dX0_deal_148 (by decide) rfl rfl rfl ?_
              cases h
              exact q_pick [1, 2, 3, 4, 5, 6, 0] rfl hk4109
set_option maxRecDepth 20000 in
theorem Dealer_deal_L13_ok {X : qX} (hL : ∀ c, c < 93 → c ∈ qLs X) (d : Nat) {Q : Option qV → qSto → Prop} : ∀ (n : Nat) (x1 : Int) (x2 : Int) (x3 : Int) (x4 : Int) (S : qSto) (o : (qSto ⊕ (Int × qSto))), Dealer_deal_L13 n x1 x2 x3 x4 S = some o → (∀ t, o = Sum.inl t → qW X (d + 1) yX0_deal cX0_deal 7 (some .boolean) 170 [] [] t Q) → (∀ w, o = Sum.inr w → Q (some (qi w.1)) w.2) → qW X (d + 1) yX0_deal cX0_deal 7 (some .boolean) 13 [(0, qr 7), (1, qi x1), (2, qi x2), (3, qi x3), (4, qi x4)] [] S Q := by
  intro n
  induction n with
  | zero =>
    intro x1 x2 x3 x4 S o h
    simp [Dealer_deal_L13] at h
  | succ n ih =>
    intro x1 x2 x3 x4 S o h hE hR
    rw [Dealer_deal_L13] at h
    refine q_iload dX0_deal_13 rfl rfl ?_
    refine q_aload_n dX0_deal_15 rfl rfl ?_
    refine q_getA dX0_deal_16 fl_X0_19 (hL 7 (by decide)) sh_7 (by decide) rfl rfl ?_
    refine q_getI dX0_deal_19 fl_X0_29 (hL 6 (by decide)) sh_6 (by decide) rfl rfl ?_
    obtain ⟨c838, h⟩ := qk_some h
    obtain ⟨c839, h⟩ := qk_some h
    refine q_icmp_ge (tgt := 170) dX0_deal_22 (by decide) rfl (qRb_R c838) (qRb_R c839) (fun g => ?_) (fun g => ?_)
    · rw [if_pos (show (S 6 10) ≤ x4 from g)] at h
      cases h
      exact q_pick [] rfl (hE _ rfl)
    · rw [if_neg (show ¬ ((S 6 10) ≤ x4) from g)] at h
      refine q_aload_n dX0_deal_25 rfl rfl ?_
      refine q_getA dX0_deal_26 fl_X0_19 (hL 7 (by decide)) sh_7 (by decide) rfl rfl ?_
      refine q_getA dX0_deal_29 fl_X0_35 (hL 6 (by decide)) sh_6 (by decide) rfl rfl ?_
      refine q_iload dX0_deal_32 rfl rfl ?_
      obtain ⟨c840, h⟩ := qk_some h
      refine q_iaload dX0_deal_34 (hL 44 (by decide)) sh_44 (qIx_0 c840) (qIx_1 c840) rfl ?_
      refine q_istore (lv' := [(5, qi (S 44 (Int.toNat x4))), (0, qr 7), (1, qi x1), (2, qi x2), (3, qi x3), (4, qi x4)]) dX0_deal_35 (by decide) rfl rfl ?_
      refine q_iload_n dX0_deal_37 rfl rfl ?_
      refine q_aload_n dX0_deal_38 rfl rfl ?_
      refine q_getA dX0_deal_39 fl_X0_19 (hL 7 (by decide)) sh_7 (by decide) rfl rfl ?_
      refine q_getA dX0_deal_42 fl_X0_38 (hL 6 (by decide)) sh_6 (by decide) rfl rfl ?_
      refine q_iload dX0_deal_45 rfl rfl ?_
      obtain ⟨c841, h⟩ := qk_some h
      refine q_iaload dX0_deal_47 (hL 39 (by decide)) sh_39 (qIx_0 c841) (qIx_1 c841) rfl ?_
      obtain ⟨c842, h⟩ := qk_some h
      obtain ⟨c843, h⟩ := qk_some h
      refine q_icmp_lt (tgt := 164) dX0_deal_48 (by decide) rfl (qRb_R c842) (qRb_R c843) (fun g => ?_) (fun g => ?_)
      · rw [if_pos (show x1 < (S 39 (Int.toNat (S 44 (Int.toNat x4)))) from g)] at h
        refine q_iinc (lv' := [(4, qi (x4 + 1)), (5, qi (S 44 (Int.toNat x4))), (0, qr 7), (1, qi x1), (2, qi x2), (3, qi x3)]) dX0_deal_164 (by decide) rfl rfl rfl ?_
        refine q_goto (pc' := 13) dX0_deal_167 (by decide) ?_
        exact q_pick [2, 3, 4, 5, 0] rfl (ih x1 x2 x3 (x4 + 1) _ _ h hE hR)
      · rw [if_neg (show ¬ (x1 < (S 39 (Int.toNat (S 44 (Int.toNat x4))))) from g)] at h
        refine q_iload_n dX0_deal_51 rfl rfl ?_
        refine q_aload_n dX0_deal_52 rfl rfl ?_
        refine q_getA dX0_deal_53 fl_X0_19 (hL 7 (by decide)) sh_7 (by decide) rfl rfl ?_
        refine q_getA dX0_deal_56 fl_X0_38 (hL 6 (by decide)) sh_6 (by decide) rfl rfl ?_
        refine q_iload dX0_deal_59 rfl rfl ?_
        obtain ⟨c844, h⟩ := qk_some h
        refine q_iaload dX0_deal_61 (hL 39 (by decide)) sh_39 (qIx_0 c844) (qIx_1 c844) rfl ?_
        refine q_aload_n dX0_deal_62 rfl rfl ?_
        refine q_getA dX0_deal_63 fl_X0_19 (hL 7 (by decide)) sh_7 (by decide) rfl rfl ?_
        refine q_getA dX0_deal_66 fl_X0_41 (hL 6 (by decide)) sh_6 (by decide) rfl rfl ?_
        refine q_iload dX0_deal_69 rfl rfl ?_
        obtain ⟨c845, h⟩ := qk_some h
        refine q_iaload dX0_deal_71 (hL 41 (by decide)) sh_41 (qIx_0 c845) (qIx_1 c845) rfl ?_
        refine q_iadd dX0_deal_72 rfl ?_
        obtain ⟨c846, h⟩ := qk_some h
        obtain ⟨c847, h⟩ := qk_some h
        refine q_icmp_lt (tgt := 79) dX0_deal_73 (by decide) rfl (qRb_R c846) (qRb_R c847) (fun g => ?_) (fun g => ?_)
        · rw [if_pos (show x1 < ((S 39 (Int.toNat (S 44 (Int.toNat x4)))) + (S 41 (Int.toNat (S 44 (Int.toNat x4))))) from g)] at h
          refine q_aload_n dX0_deal_79 rfl rfl ?_
          refine q_getA dX0_deal_80 fl_X0_19 (hL 7 (by decide)) sh_7 (by decide) rfl rfl ?_
          refine q_getA dX0_deal_83 fl_X0_44 (hL 6 (by decide)) sh_6 (by decide) rfl rfl ?_
          refine q_iload dX0_deal_86 rfl rfl ?_
          obtain ⟨c848, h⟩ := qk_some h
          refine q_iaload dX0_deal_88 (hL 40 (by decide)) sh_40 (qIx_0 c848) (qIx_1 c848) rfl ?_
          refine q_istore (lv' := [(6, qi (S 40 (Int.toNat (S 44 (Int.toNat x4))))), (5, qi (S 44 (Int.toNat x4))), (0, qr 7), (1, qi x1), (2, qi x2), (3, qi x3), (4, qi x4)]) dX0_deal_89 (by decide) rfl rfl ?_
          obtain ⟨q867, h868, h⟩ := Option.bind_eq_some_iff.mp h
          refine q_pick [2, 3, 4, 5, 6, 1, 0] rfl (Dealer_deal_L91_ok hL d qF x1 x2 x3 x4 (S 44 (Int.toNat x4)) (S 40 (Int.toNat (S 44 (Int.toNat x4)))) _ _ h868 ?_)
          refine q_iload dX0_deal_157 rfl rfl ?_
          obtain ⟨c869, h⟩ := qk_some h
          refine q_if_le (tgt := 164) dX0_deal_159 (by decide) rfl (qRb_R c869)  (fun g => ?_) (fun g => ?_)
          · rw [if_pos (show q867.2.1 ≤ 0 from g)] at h
            refine q_iinc (lv' := [(4, qi (x4 + 1)), (0, qr 7), (1, qi x1), (2, qi x2), (3, qi q867.1), (6, qi q867.2.1)]) dX0_deal_164 (by decide) rfl rfl rfl ?_
            refine q_goto (pc' := 13) dX0_deal_167 (by decide) ?_
            exact q_pick [1, 2, 3, 4, 0] rfl (ih x1 x2 q867.1 (x4 + 1) _ _ h hE hR)
          · rw [if_neg (show ¬ (q867.2.1 ≤ 0) from g)] at h
            refine q_iconst dX0_deal_162 rfl rfl ?_
            cases h
            exact q_zreturn dX0_deal_163 rfl (by decide) (hR _ rfl)
        · rw [if_neg (show ¬ (x1 < ((S 39 (Int.toNat (S 44 (Int.toNat x4)))) + (S 41 (Int.toNat (S 44 (Int.toNat x4)))))) from g)] at h
          refine q_goto (pc' := 164) dX0_deal_76 (by decide) ?_
          refine q_iinc (lv' := [(4, qi (x4 + 1)), (5, qi (S 44 (Int.toNat x4))), (0, qr 7), (1, qi x1), (2, qi x2), (3, qi x3)]) dX0_deal_164 (by decide) rfl rfl rfl ?_
          refine q_goto (pc' := 13) dX0_deal_167 (by decide) ?_
          exact q_pick [2, 3, 4, 5, 0] rfl (ih x1 x2 x3 (x4 + 1) _ _ h hE hR)
set_option maxRecDepth 20000 in
theorem Dealer_deal_ok {X : qX} (hL : ∀ c, c < 93 → c ∈ qLs X) (d : Nat) (a1 : Int) (a2 : Int) (S : qSto) (o : (Int × qSto)) (h : Dealer_deal a1 a2 S = some o) (Q : Option qV → qSto → Prop) (hQ : Q (some (qi o.1)) o.2) : qC X (d + 1) yX0_deal cX0_deal 7 (some .boolean) [qr 7, qi a1, qi a2] S Q := by
  refine q_entry (lv := [(0, qr 7), (1, qi a1), (2, qi a2)]) pn_X0 (Nat.le_of_ble_eq_true rfl) rfl ?_
  unfold Dealer_deal at h
  refine q_aload_n dX0_deal_0 rfl rfl ?_
  refine q_getA dX0_deal_1 fl_X0_9 (hL 7 (by decide)) sh_7 (by decide) rfl rfl ?_
  refine q_iconst dX0_deal_4 rfl rfl ?_
  obtain ⟨q836, h837, h⟩ := Option.bind_eq_some_iff.mp h
  refine q_callSv (as := [qr 45, qi (-1)]) dX0_deal_5 ml_X0_23 rfl rfl (Nat.le_of_ble_eq_true rfl) (Ja_fill_45_ok hL d (-1) _ _ h837) rfl ?_
  refine q_iconst dX0_deal_8 rfl rfl ?_
  refine q_istore_n (lv' := [(3, qi 0), (0, qr 7), (1, qi a1), (2, qi a2)]) dX0_deal_9 (by decide) rfl rfl ?_
  refine q_iconst dX0_deal_10 rfl rfl ?_
  refine q_istore (lv' := [(4, qi 0), (3, qi 0), (0, qr 7), (1, qi a1), (2, qi a2)]) dX0_deal_11 (by decide) rfl rfl ?_
  obtain ⟨q870, h871, h⟩ := Option.bind_eq_some_iff.mp h
  refine q_pick [2, 3, 4, 1, 0] rfl (Dealer_deal_L13_ok hL d qF a1 a2 0 0 _ _ h871 (fun t872 e4110 => ?_) (fun w e4110 => ?_))
  · subst e4110
    simp only [Sum.elim_inl] at h
    refine q_iconst dX0_deal_170 rfl rfl ?_
    cases h
    exact q_zreturn dX0_deal_171 rfl (by decide) hQ
  · subst e4110
    simp only [Sum.elim_inr] at h
    cases h
    exact hQ
set_option maxRecDepth 20000 in
theorem Stays_withdraw_ok {X : qX} (hL : ∀ c, c < 93 → c ∈ qLs X) (d : Nat) (a1 : Int) (S : qSto) (o : qSto) (h : Stays_withdraw a1 S = some o) (Q : Option qV → qSto → Prop) (hQ : Q none o) : qC X d yX7_withdraw cX7_withdraw 2 none [qr 6, qi a1] S Q := by
  refine q_entry (lv := [(0, qr 6), (1, qi a1)]) pn_X7 (Nat.le_of_ble_eq_true rfl) rfl ?_
  unfold Stays_withdraw at h
  refine q_aload_n dX7_withdraw_0 rfl rfl ?_
  refine q_getA dX7_withdraw_1 fl_X7_21 (hL 6 (by decide)) sh_6 (by decide) rfl rfl ?_
  refine q_iload_n dX7_withdraw_4 rfl rfl ?_
  refine q_iconst dX7_withdraw_5 rfl rfl ?_
  obtain ⟨c879, h⟩ := qk_some h
  refine q_iastore dX7_withdraw_6 (hL 40 (by decide)) sh_40 (qIx_0 c879) (qIx_1 c879) rfl ?_
  cases h
  exact q_return dX7_withdraw_7 rfl hQ
set_option maxRecDepth 20000 in
theorem Dealer_suffices_L27_ok {X : qX} (hL : ∀ c, c < 93 → c ∈ qLs X) (d : Nat) {Q : Option qV → qSto → Prop} : ∀ (n : Nat) (x1 : Int) (x3 : Int) (x5 : Int) (x6 : Int) (x7 : Int) (S : qSto) (o : (Int × qSto)), Dealer_suffices_L27 n x3 x5 x6 x7 S = some o → (qW X (d + 2) yX0_suffices cX0_suffices 9 (some .boolean) 102 [(0, qr 7), (1, qi x1), (6, qi o.1)] [] o.2 Q) → qW X (d + 2) yX0_suffices cX0_suffices 9 (some .boolean) 27 [(0, qr 7), (1, qi x1), (3, qi x3), (5, qi x5), (6, qi x6), (7, qi x7)] [] S Q := by
  intro n
  induction n with
  | zero =>
    intro x1 x3 x5 x6 x7 S o h
    simp [Dealer_suffices_L27] at h
  | succ n ih =>
    intro x1 x3 x5 x6 x7 S o h hE
    rw [Dealer_suffices_L27] at h
    refine q_iload dX0_suffices_27 rfl rfl ?_
    refine q_aload_n dX0_suffices_29 rfl rfl ?_
    refine q_getA dX0_suffices_30 fl_X0_19 (hL 7 (by decide)) sh_7 (by decide) rfl rfl ?_
    refine q_getI dX0_suffices_33 fl_X0_29 (hL 6 (by decide)) sh_6 (by decide) rfl rfl ?_
    obtain ⟨c823, h⟩ := qk_some h
    obtain ⟨c824, h⟩ := qk_some h
    refine q_icmp_ge (tgt := 102) dX0_suffices_36 (by decide) rfl (qRb_R c823) (qRb_R c824) (fun g => ?_) (fun g => ?_)
    · rw [if_pos (show (S 6 10) ≤ x7 from g)] at h
      cases h
      exact q_pick [0, 1, 4] rfl (hE)
    · rw [if_neg (show ¬ ((S 6 10) ≤ x7) from g)] at h
      refine q_iload dX0_suffices_39 rfl rfl ?_
      obtain ⟨c825, h⟩ := qk_some h
      refine q_if_eq (tgt := 102) dX0_suffices_41 (by decide) rfl (qRb_R c825)  (fun g => ?_) (fun g => ?_)
      · rw [if_pos (show x6 = 0 from g)] at h
        cases h
        exact q_pick [0, 1, 4] rfl (hE)
      · rw [if_neg (show ¬ (x6 = 0) from g)] at h
        refine q_aload_n dX0_suffices_44 rfl rfl ?_
        refine q_getA dX0_suffices_45 fl_X0_19 (hL 7 (by decide)) sh_7 (by decide) rfl rfl ?_
        refine q_getA dX0_suffices_48 fl_X0_38 (hL 6 (by decide)) sh_6 (by decide) rfl rfl ?_
        refine q_aload_n dX0_suffices_51 rfl rfl ?_
        refine q_getA dX0_suffices_52 fl_X0_19 (hL 7 (by decide)) sh_7 (by decide) rfl rfl ?_
        refine q_getA dX0_suffices_55 fl_X0_35 (hL 6 (by decide)) sh_6 (by decide) rfl rfl ?_
        refine q_iload dX0_suffices_58 rfl rfl ?_
        obtain ⟨c826, h⟩ := qk_some h
        refine q_iaload dX0_suffices_60 (hL 44 (by decide)) sh_44 (qIx_0 c826) (qIx_1 c826) rfl ?_
        obtain ⟨c827, h⟩ := qk_some h
        refine q_iaload dX0_suffices_61 (hL 39 (by decide)) sh_39 (qIx_0 c827) (qIx_1 c827) rfl ?_
        refine q_istore (lv' := [(8, qi (S 39 (Int.toNat (S 44 (Int.toNat x7))))), (0, qr 7), (1, qi x1), (3, qi x3), (5, qi x5), (6, qi x6), (7, qi x7)]) dX0_suffices_62 (by decide) rfl rfl ?_
        refine q_iload dX0_suffices_64 rfl rfl ?_
        refine q_iload_n dX0_suffices_66 rfl rfl ?_
        refine q_jn (G := fun (t876 : (Int × qSto)) => qW X (d + 2) yX0_suffices cX0_suffices 9 (some .boolean) 94 [(0, qr 7), (1, qi x1), (3, qi x3), (5, qi x5), (7, qi x7)] [qi t876.1] t876.2 Q) h (fun t876 h => ?_) (fun t876 h hk4111 => ?_)
        · try dsimp only at h
          refine q_istore (lv' := [(6, qi t876.1), (0, qr 7), (1, qi x1), (3, qi x3), (5, qi x5), (7, qi x7)]) dX0_suffices_94 (by decide) rfl rfl ?_
          refine q_iinc (lv' := [(7, qi (x7 + 1)), (6, qi t876.1), (0, qr 7), (1, qi x1), (3, qi x3), (5, qi x5)]) dX0_suffices_96 (by decide) rfl rfl rfl ?_
          refine q_goto (pc' := 27) dX0_suffices_99 (by decide) ?_
          exact q_pick [2, 3, 4, 5, 1, 0] rfl (ih x1 x3 x5 t876.1 (x7 + 1) _ _ h hE)
        · skip
          obtain ⟨c828, h⟩ := qk_some h
          obtain ⟨c829, h⟩ := qk_some h
          refine q_icmp_lt (tgt := 89) dX0_suffices_67 (by decide) rfl (qRb_R c828) (qRb_R c829) (fun g => ?_) (fun g => ?_)
          · rw [if_pos (show (S 39 (Int.toNat (S 44 (Int.toNat x7)))) < x3 from g)] at h
            refine q_iconst dX0_suffices_89 rfl rfl ?_
            refine q_goto (pc' := 94) dX0_suffices_90 (by decide) ?_
            cases h
            exact q_pick [1, 2, 3, 4, 6] rfl hk4111
          · rw [if_neg (show ¬ ((S 39 (Int.toNat (S 44 (Int.toNat x7)))) < x3) from g)] at h
            refine q_iload dX0_suffices_70 rfl rfl ?_
            refine q_iload_n dX0_suffices_72 rfl rfl ?_
            refine q_iload dX0_suffices_73 rfl rfl ?_
            refine q_iadd dX0_suffices_75 rfl ?_
            obtain ⟨c830, h⟩ := qk_some h
            obtain ⟨c831, h⟩ := qk_some h
            refine q_icmp_ge (tgt := 89) dX0_suffices_76 (by decide) rfl (qRb_R c830) (qRb_R c831) (fun g => ?_) (fun g => ?_)
            · rw [if_pos (show (x3 + x5) ≤ (S 39 (Int.toNat (S 44 (Int.toNat x7)))) from g)] at h
              refine q_iconst dX0_suffices_89 rfl rfl ?_
              refine q_goto (pc' := 94) dX0_suffices_90 (by decide) ?_
              cases h
              exact q_pick [1, 2, 3, 4, 6] rfl hk4111
            · rw [if_neg (show ¬ ((x3 + x5) ≤ (S 39 (Int.toNat (S 44 (Int.toNat x7))))) from g)] at h
              refine q_aload_n dX0_suffices_79 rfl rfl ?_
              refine q_iload dX0_suffices_80 rfl rfl ?_
              refine q_iconst dX0_suffices_82 rfl rfl ?_
              obtain ⟨q873, h874, h⟩ := Option.bind_eq_some_iff.mp h
              refine q_callVi (as := [qi (S 39 (Int.toNat (S 44 (Int.toNat x7)))), qi (-1)]) (c := 7) dX0_suffices_83 ml_X0_74 rfl rfl (hL 7 (by decide)) sh_7 rfl rfl (Nat.le_of_ble_eq_true rfl) (Dealer_deal_ok hL d (S 39 (Int.toNat (S 44 (Int.toNat x7)))) (-1) _ _ h874) rfl ?_
              obtain ⟨c875, h⟩ := qk_some h
              refine q_if_eq (tgt := 93) dX0_suffices_86 (by decide) rfl (qRb_R c875)  (fun g => ?_) (fun g => ?_)
              · rw [if_pos (show q873.1 = 0 from g)] at h
                refine q_iconst dX0_suffices_93 rfl rfl ?_
                cases h
                exact q_pick [1, 2, 3, 4, 6] rfl hk4111
              · rw [if_neg (show ¬ (q873.1 = 0) from g)] at h
                refine q_iconst dX0_suffices_89 rfl rfl ?_
                refine q_goto (pc' := 94) dX0_suffices_90 (by decide) ?_
                cases h
                exact q_pick [1, 2, 3, 4, 6] rfl hk4111
set_option maxRecDepth 20000 in
theorem Dealer_suffices_ok {X : qX} (hL : ∀ c, c < 93 → c ∈ qLs X) (d : Nat) (a1 : Int) (a2 : Int) (a3 : Int) (a4 : Int) (a5 : Int) (S : qSto) (o : (Int × qSto)) (h : Dealer_suffices a1 a2 a3 a4 a5 S = some o) (Q : Option qV → qSto → Prop) (hQ : Q (some (qi o.1)) o.2) : qC X (d + 2) yX0_suffices cX0_suffices 9 (some .boolean) [qr 7, qi a1, qi a2, qi a3, qi a4, qi a5] S Q := by
  refine q_entry (lv := [(0, qr 7), (1, qi a1), (2, qi a2), (3, qi a3), (4, qi a4), (5, qi a5)]) pn_X0 (Nat.le_of_ble_eq_true rfl) rfl ?_
  unfold Dealer_suffices at h
  refine q_aload_n dX0_suffices_0 rfl rfl ?_
  refine q_getA dX0_suffices_1 fl_X0_19 (hL 7 (by decide)) sh_7 (by decide) rfl rfl ?_
  refine q_iload_n dX0_suffices_4 rfl rfl ?_
  refine q_iload_n dX0_suffices_5 rfl rfl ?_
  refine q_iload_n dX0_suffices_6 rfl rfl ?_
  refine q_iload dX0_suffices_7 rfl rfl ?_
  refine q_iload dX0_suffices_9 rfl rfl ?_
  obtain ⟨q800, h801, h⟩ := Option.bind_eq_some_iff.mp h
  refine q_callVv (as := [qi a1, qi a2, qi a3, qi a4, qi a5]) (c := 6) dX0_suffices_11 ml_X0_67 rfl rfl (hL 6 (by decide)) sh_6 rfl rfl (Nat.le_of_ble_eq_true rfl) (Stays_propose_ok hL d a1 a2 a3 a4 a5 _ _ h801) rfl ?_
  refine q_aload_n dX0_suffices_14 rfl rfl ?_
  refine q_getA dX0_suffices_15 fl_X0_19 (hL 7 (by decide)) sh_7 (by decide) rfl rfl ?_
  obtain ⟨q821, h822, h⟩ := Option.bind_eq_some_iff.mp h
  refine q_callVv (as := []) (c := 6) dX0_suffices_18 ml_X0_71 rfl rfl (hL 6 (by decide)) sh_6 rfl rfl (Nat.le_of_ble_eq_true rfl) (Stays_lineUp_ok hL d _ _ h822) rfl ?_
  refine q_iconst dX0_suffices_21 rfl rfl ?_
  refine q_istore (lv' := [(6, qi 1), (0, qr 7), (1, qi a1), (2, qi a2), (3, qi a3), (4, qi a4), (5, qi a5)]) dX0_suffices_22 (by decide) rfl rfl ?_
  refine q_iconst dX0_suffices_24 rfl rfl ?_
  refine q_istore (lv' := [(7, qi 0), (6, qi 1), (0, qr 7), (1, qi a1), (2, qi a2), (3, qi a3), (4, qi a4), (5, qi a5)]) dX0_suffices_25 (by decide) rfl rfl ?_
  obtain ⟨q877, h878, h⟩ := Option.bind_eq_some_iff.mp h
  refine q_pick [2, 3, 5, 7, 1, 0] rfl (Dealer_suffices_L27_ok hL d qF a1 a3 a5 1 0 _ _ h878 ?_)
  refine q_aload_n dX0_suffices_102 rfl rfl ?_
  refine q_getA dX0_suffices_103 fl_X0_19 (hL 7 (by decide)) sh_7 (by decide) rfl rfl ?_
  refine q_iload_n dX0_suffices_106 rfl rfl ?_
  obtain ⟨q880, h881, h⟩ := Option.bind_eq_some_iff.mp h
  refine q_callVv (as := [qi a1]) (c := 6) dX0_suffices_107 ml_X0_78 rfl rfl (hL 6 (by decide)) sh_6 rfl rfl (Nat.le_of_ble_eq_true rfl) (Stays_withdraw_ok hL (d + 1) a1 _ _ h881) rfl ?_
  refine q_iload dX0_suffices_110 rfl rfl ?_
  obtain ⟨c882, h⟩ := qk_some h
  cases h
  exact q_zreturn dX0_suffices_112 rfl (qZb_Z c882) hQ
set_option maxRecDepth 20000 in
theorem Laws_firstBroken_ok {X : qX} (hL : ∀ c, c < 93 → c ∈ qLs X) (d : Nat) (a1 : Int) (a2 : Int) (a3 : Int) (a4 : Int) (S : qSto) (o : (Int × qSto)) (h : Laws_firstBroken a1 a2 a3 a4 S = some o) (Q : Option qV → qSto → Prop) (hQ : Q (some (qi o.1)) o.2) : qC X (d + 4) yX3_firstBroken cX3_firstBroken 7 (some .int) [qr 8, qi a1, qi a2, qi a3, qi a4] S Q := by
  refine q_entry (lv := [(0, qr 8), (1, qi a1), (2, qi a2), (3, qi a3), (4, qi a4)]) pn_X3 (Nat.le_of_ble_eq_true rfl) rfl ?_
  unfold Laws_firstBroken at h
  refine q_aload_n dX3_firstBroken_0 rfl rfl ?_
  refine q_iload_n dX3_firstBroken_1 rfl rfl ?_
  refine q_iload_n dX3_firstBroken_2 rfl rfl ?_
  obtain ⟨q679, h680, h⟩ := Option.bind_eq_some_iff.mp h
  refine q_callVi (as := [qi a1, qi a2]) (c := 8) dX3_firstBroken_3 ml_X3_27 rfl rfl (hL 8 (by decide)) sh_8 rfl rfl (Nat.le_of_ble_eq_true rfl) (Laws_fits_ok hL (d + 2) a1 a2 _ _ h680) rfl ?_
  obtain ⟨c681, h⟩ := qk_some h
  refine q_if_ne (tgt := 11) dX3_firstBroken_6 (by decide) rfl (qRb_R c681)  (fun g => ?_) (fun g => ?_)
  · rw [if_neg (show ¬ (q679.1 = 0) from g)] at h
    refine q_aload_n dX3_firstBroken_11 rfl rfl ?_
    refine q_iload_n dX3_firstBroken_12 rfl rfl ?_
    refine q_iload_n dX3_firstBroken_13 rfl rfl ?_
    refine q_iload dX3_firstBroken_14 rfl rfl ?_
    obtain ⟨q718, h719, h⟩ := Option.bind_eq_some_iff.mp h
    refine q_callVi (as := [qi a1, qi a3, qi a4]) (c := 8) dX3_firstBroken_16 ml_X3_31 rfl rfl (hL 8 (by decide)) sh_8 rfl rfl (Nat.le_of_ble_eq_true rfl) (Laws_ofTime_ok hL d a1 a3 a4 _ _ h719) rfl ?_
    refine q_istore (lv' := [(5, qi q718.1), (0, qr 8), (1, qi a1), (2, qi a2), (3, qi a3), (4, qi a4)]) dX3_firstBroken_19 (by decide) rfl rfl ?_
    refine q_iload dX3_firstBroken_21 rfl rfl ?_
    obtain ⟨c720, h⟩ := qk_some h
    refine q_if_eq (tgt := 29) dX3_firstBroken_23 (by decide) rfl (qRb_R c720)  (fun g => ?_) (fun g => ?_)
    · rw [if_pos (show q718.1 = 0 from g)] at h
      refine q_aload_n dX3_firstBroken_29 rfl rfl ?_
      refine q_getA dX3_firstBroken_30 fl_X3_9 (hL 8 (by decide)) sh_8 (by decide) rfl rfl ?_
      refine q_iload_n dX3_firstBroken_33 rfl rfl ?_
      refine q_iload_n dX3_firstBroken_34 rfl rfl ?_
      refine q_aload_n dX3_firstBroken_35 rfl rfl ?_
      refine q_getA dX3_firstBroken_36 fl_X3_9 (hL 8 (by decide)) sh_8 (by decide) rfl rfl ?_
      refine q_iload_n dX3_firstBroken_39 rfl rfl ?_
      refine q_iconst dX3_firstBroken_40 rfl rfl ?_
      obtain ⟨q721, h722, h⟩ := Option.bind_eq_some_iff.mp h
      refine q_callVi (as := [qi a1, qi 0]) (c := 2) dX3_firstBroken_41 ml_X3_35 rfl rfl (hL 2 (by decide)) sh_2 rfl rfl (Nat.le_of_ble_eq_true rfl) (Told_contractOf_ok hL (d + 3) a1 0 _ _ h722) rfl ?_
      refine q_iadd dX3_firstBroken_44 rfl ?_
      refine q_iconst dX3_firstBroken_45 rfl rfl ?_
      refine q_isub dX3_firstBroken_46 rfl ?_
      obtain ⟨q723, h724, h⟩ := Option.bind_eq_some_iff.mp h
      refine q_callVi (as := [qi a2, qi ((a2 + q721.1) - 1)]) (c := 2) dX3_firstBroken_47 ml_X3_41 rfl rfl (hL 2 (by decide)) sh_2 rfl rfl (Nat.le_of_ble_eq_true rfl) (Told_shallowest_ok hL (d + 2) a2 ((a2 + q721.1) - 1) _ _ h724) rfl ?_
      refine q_istore (lv' := [(6, qi q723.1), (5, qi q718.1), (0, qr 8), (1, qi a1), (2, qi a2), (3, qi a3), (4, qi a4)]) dX3_firstBroken_50 (by decide) rfl rfl ?_
      refine q_iload dX3_firstBroken_52 rfl rfl ?_
      refine q_aload_n dX3_firstBroken_54 rfl rfl ?_
      refine q_getA dX3_firstBroken_55 fl_X3_15 (hL 8 (by decide)) sh_8 (by decide) rfl rfl ?_
      refine q_iload_n dX3_firstBroken_58 rfl rfl ?_
      refine q_aload_n dX3_firstBroken_59 rfl rfl ?_
      refine q_getI dX3_firstBroken_60 fl_X3_44 (hL 8 (by decide)) sh_8 (by decide) rfl rfl ?_
      obtain ⟨q733, h734, h⟩ := Option.bind_eq_some_iff.mp h
      refine q_callVi (as := [qi a3, qi (q723.2 8 5)]) (c := 5) dX3_firstBroken_63 ml_X3_48 rfl rfl (hL 5 (by decide)) sh_5 rfl rfl (Nat.le_of_ble_eq_true rfl) (Waters_lowest_ok hL (d + 2) a3 (q723.2 8 5) _ _ h734) rfl ?_
      refine q_iadd dX3_firstBroken_66 rfl ?_
      refine q_aload_n dX3_firstBroken_67 rfl rfl ?_
      refine q_getA dX3_firstBroken_68 fl_X3_9 (hL 8 (by decide)) sh_8 (by decide) rfl rfl ?_
      refine q_iload_n dX3_firstBroken_71 rfl rfl ?_
      obtain ⟨q741, h742, h⟩ := Option.bind_eq_some_iff.mp h
      refine q_callVi (as := [qi a1]) (c := 2) dX3_firstBroken_72 ml_X3_53 rfl rfl (hL 2 (by decide)) sh_2 rfl rfl (Nat.le_of_ble_eq_true rfl) (Told_waterNeededBy_ok hL (d + 2) a1 _ _ h742) rfl ?_
      obtain ⟨c743, h⟩ := qk_some h
      obtain ⟨c744, h⟩ := qk_some h
      refine q_icmp_ge (tgt := 81) dX3_firstBroken_75 (by decide) rfl (qRb_R c743) (qRb_R c744) (fun g => ?_) (fun g => ?_)
      · rw [if_pos (show q741.1 ≤ (q723.1 + q733.1) from g)] at h
        refine q_aload_n dX3_firstBroken_81 rfl rfl ?_
        refine q_iload_n dX3_firstBroken_82 rfl rfl ?_
        refine q_iload_n dX3_firstBroken_83 rfl rfl ?_
        refine q_iload_n dX3_firstBroken_84 rfl rfl ?_
        obtain ⟨q773, h774, h⟩ := Option.bind_eq_some_iff.mp h
        refine q_callVi (as := [qi a1, qi a2, qi a3]) (c := 8) dX3_firstBroken_85 ml_X3_57 rfl rfl (hL 8 (by decide)) sh_8 rfl rfl (Nat.le_of_ble_eq_true rfl) (Laws_pastObstacle_ok hL (d + 1) a1 a2 a3 _ _ h774) rfl ?_
        refine q_iload_n dX3_firstBroken_88 rfl rfl ?_
        obtain ⟨c775, h⟩ := qk_some h
        obtain ⟨c776, h⟩ := qk_some h
        refine q_icmp_le (tgt := 95) dX3_firstBroken_89 (by decide) rfl (qRb_R c775) (qRb_R c776) (fun g => ?_) (fun g => ?_)
        · rw [if_pos (show q773.1 ≤ a2 from g)] at h
          refine q_aload_n dX3_firstBroken_95 rfl rfl ?_
          refine q_iload_n dX3_firstBroken_96 rfl rfl ?_
          refine q_iload dX3_firstBroken_97 rfl rfl ?_
          obtain ⟨q790, h791, h⟩ := Option.bind_eq_some_iff.mp h
          refine q_callVi (as := [qi a3, qi a4]) (c := 8) dX3_firstBroken_99 ml_X3_60 rfl rfl (hL 8 (by decide)) sh_8 rfl rfl (Nat.le_of_ble_eq_true rfl) (Laws_firstShort_ok hL (d + 2) a3 a4 _ _ h791) rfl ?_
          refine q_iconst dX3_firstBroken_102 rfl rfl ?_
          obtain ⟨c792, h⟩ := qk_some h
          refine q_icmp_eq (tgt := 109) dX3_firstBroken_103 (by decide) rfl (qRb_R c792) ⟨by decide, by decide⟩ (fun g => ?_) (fun g => ?_)
          · rw [if_pos (show q790.1 = (-1) from g)] at h
            refine q_aload_n dX3_firstBroken_109 rfl rfl ?_
            refine q_getA dX3_firstBroken_110 fl_X3_23 (hL 8 (by decide)) sh_8 (by decide) rfl rfl ?_
            refine q_iload_n dX3_firstBroken_113 rfl rfl ?_
            refine q_iload_n dX3_firstBroken_114 rfl rfl ?_
            refine q_iload_n dX3_firstBroken_115 rfl rfl ?_
            refine q_iload dX3_firstBroken_116 rfl rfl ?_
            refine q_aload_n dX3_firstBroken_118 rfl rfl ?_
            refine q_getI dX3_firstBroken_119 fl_X3_63 (hL 8 (by decide)) sh_8 (by decide) rfl rfl ?_
            obtain ⟨q883, h884, h⟩ := Option.bind_eq_some_iff.mp h
            refine q_callVi (as := [qi a1, qi a2, qi a3, qi a4, qi (q790.2 8 4)]) (c := 7) dX3_firstBroken_122 ml_X3_66 rfl rfl (hL 7 (by decide)) sh_7 rfl rfl (Nat.le_of_ble_eq_true rfl) (Dealer_suffices_ok hL (d + 1) a1 a2 a3 a4 (q790.2 8 4) _ _ h884) rfl ?_
            obtain ⟨c885, h⟩ := qk_some h
            refine q_if_eq (tgt := 132) dX3_firstBroken_125 (by decide) rfl (qRb_R c885)  (fun g => ?_) (fun g => ?_)
            · rw [if_pos (show q883.1 = 0 from g)] at h
              refine q_bipush dX3_firstBroken_132 (by decide) rfl ?_
              cases h
              exact q_ireturn dX3_firstBroken_134 rfl hQ
            · rw [if_neg (show ¬ (q883.1 = 0) from g)] at h
              refine q_iconst dX3_firstBroken_128 rfl rfl ?_
              refine q_goto (pc' := 134) dX3_firstBroken_129 (by decide) ?_
              cases h
              exact q_ireturn dX3_firstBroken_134 rfl hQ
          · rw [if_neg (show ¬ (q790.1 = (-1)) from g)] at h
            refine q_bipush dX3_firstBroken_106 (by decide) rfl ?_
            cases h
            exact q_ireturn dX3_firstBroken_108 rfl hQ
        · rw [if_neg (show ¬ (q773.1 ≤ a2) from g)] at h
          refine q_bipush dX3_firstBroken_92 (by decide) rfl ?_
          cases h
          exact q_ireturn dX3_firstBroken_94 rfl hQ
      · rw [if_neg (show ¬ (q741.1 ≤ (q723.1 + q733.1)) from g)] at h
        refine q_bipush dX3_firstBroken_78 (by decide) rfl ?_
        cases h
        exact q_ireturn dX3_firstBroken_80 rfl hQ
    · rw [if_neg (show ¬ (q718.1 = 0) from g)] at h
      refine q_iload dX3_firstBroken_26 rfl rfl ?_
      cases h
      exact q_ireturn dX3_firstBroken_28 rfl hQ
  · rw [if_pos (show q679.1 = 0 from g)] at h
    refine q_iconst dX3_firstBroken_9 rfl rfl ?_
    cases h
    exact q_ireturn dX3_firstBroken_10 rfl hQ
