set_option maxRecDepth 20000 in
theorem M_undo_ok {X : qX} (hL : ∀ c, c < 93 → c ∈ qLs X) (d : Nat) (S : qSto) (o : (Int × qSto)) (h : M_undo S = some o) (Q : Option qV → qSto → Prop) (hQ : Q (some (qi o.1)) o.2) : qC X (d + 5) yX12_undo cX12_undo 1 (some .int) [qr 70] S Q := by
  refine q_entry (lv := [(0, qr 70)]) pn_X12 (Nat.le_of_ble_eq_true rfl) rfl ?_
  unfold M_undo at h
  refine q_aload_n dX12_undo_0 rfl rfl ?_
  refine q_getI dX12_undo_1 fl_X12_252 (hL 70 (by decide)) sh_70 (by decide) rfl rfl ?_
  obtain ⟨c3703, h⟩ := qk_some h
  refine q_if_ne (tgt := 9) dX12_undo_4 (by decide) rfl (qRb_R c3703)  (fun g => ?_) (fun g => ?_)
  · rw [if_neg (show ¬ ((S 70 31) = 0) from g)] at h
    refine q_aload_n dX12_undo_9 rfl rfl ?_
    refine q_aload_n dX12_undo_10 rfl rfl ?_
    refine q_getI dX12_undo_11 fl_X12_252 (hL 70 (by decide)) sh_70 (by decide) rfl rfl ?_
    refine q_iconst dX12_undo_14 rfl rfl ?_
    refine q_isub dX12_undo_15 rfl ?_
    refine q_putI dX12_undo_16 fl_X12_252 (hL 70 (by decide)) sh_70 (by decide) pf_12_31 pt_12_31 rfl rfl ?_
    refine q_aload_n dX12_undo_19 rfl rfl ?_
    refine q_aload_n dX12_undo_20 rfl rfl ?_
    refine q_getI dX12_undo_21 fl_X12_252 (hL 70 (by decide)) sh_70 (by decide) rfl rfl ?_
    obtain ⟨q3704, h3705, h⟩ := Option.bind_eq_some_iff.mp h
    refine q_callVv (as := [qi ((qup S 70 31 ((S 70 31) - 1)) 70 31)]) (c := 70) dX12_undo_24 ml_X12_426 rfl rfl (hL 70 (by decide)) sh_70 rfl rfl (Nat.le_of_ble_eq_true rfl) (M_takes_ok hL d ((qup S 70 31 ((S 70 31) - 1)) 70 31) _ _ h3705) rfl ?_
    refine q_aload_n dX12_undo_27 rfl rfl ?_
    refine q_getI dX12_undo_28 fl_X12_252 (hL 70 (by decide)) sh_70 (by decide) rfl rfl ?_
    cases h
    exact q_ireturn dX12_undo_31 rfl hQ
  · rw [if_pos (show (S 70 31) = 0 from g)] at h
    refine q_iconst dX12_undo_7 rfl rfl ?_
    cases h
    exact q_ireturn dX12_undo_8 rfl hQ
set_option maxRecDepth 20000 in
theorem M_mark_ok {X : qX} (hL : ∀ c, c < 93 → c ∈ qLs X) (d : Nat) (a1 : Int) (S : qSto) (o : (Int × qSto)) (h : M_mark a1 S = some o) (Q : Option qV → qSto → Prop) (hQ : Q (some (qi o.1)) o.2) : qC X (d + 2) yX12_mark cX12_mark 2 (some .int) [qr 70, qi a1] S Q := by
  refine q_entry (lv := [(0, qr 70), (1, qi a1)]) pn_X12 (Nat.le_of_ble_eq_true rfl) rfl ?_
  unfold M_mark at h
  refine q_iload_n dX12_mark_0 rfl rfl ?_
  obtain ⟨q3706, h3707, h⟩ := Option.bind_eq_some_iff.mp h
  refine q_callSi (as := [qi a1]) dX12_mark_1 ml_X12_521 rfl rfl (Nat.le_of_ble_eq_true rfl) (M_isMark_ok hL d a1 _ _ h3707) rfl ?_
  obtain ⟨c3708, h⟩ := qk_some h
  refine q_if_ne (tgt := 9) dX12_mark_4 (by decide) rfl (qRb_R c3708)  (fun g => ?_) (fun g => ?_)
  · rw [if_neg (show ¬ (q3706.1 = 0) from g)] at h
    refine q_aload_n dX12_mark_9 rfl rfl ?_
    refine q_bipush dX12_mark_10 (by decide) rfl ?_
    refine q_iload_n dX12_mark_12 rfl rfl ?_
    refine q_iadd dX12_mark_13 rfl ?_
    obtain ⟨q3709, h3710, h⟩ := Option.bind_eq_some_iff.mp h
    refine q_callVv (as := [qi (12 + a1)]) (c := 70) dX12_mark_14 ml_X12_414 rfl rfl (hL 70 (by decide)) sh_70 rfl rfl (Nat.le_of_ble_eq_true rfl) (M_puts_ok hL (d + 1) (12 + a1) _ _ h3710) rfl ?_
    refine q_aload_n dX12_mark_17 rfl rfl ?_
    refine q_getA dX12_mark_18 fl_X12_60 (hL 70 (by decide)) sh_70 (by decide) rfl rfl ?_
    refine q_iload_n dX12_mark_21 rfl rfl ?_
    refine q_iconst dX12_mark_22 rfl rfl ?_
    obtain ⟨c3711, h⟩ := qk_some h
    refine q_zastore dX12_mark_23 (hL 86 (by decide)) sh_86 (qIx_0 c3711) (qIx_1 c3711) (by decide) rfl ?_
    refine q_aload_n dX12_mark_24 rfl rfl ?_
    obtain ⟨q3712, h3713, h⟩ := Option.bind_eq_some_iff.mp h
    refine q_callVi (as := []) (c := 70) dX12_mark_25 ml_X12_263 rfl rfl (hL 70 (by decide)) sh_70 rfl rfl (Nat.le_of_ble_eq_true rfl) (M_staying_ok hL d _ _ h3713) rfl ?_
    cases h
    exact q_ireturn dX12_mark_28 rfl hQ
  · rw [if_pos (show q3706.1 = 0 from g)] at h
    refine q_iconst dX12_mark_7 rfl rfl ?_
    cases h
    exact q_ireturn dX12_mark_8 rfl hQ
set_option maxRecDepth 20000 in
theorem M_back_ok {X : qX} (hL : ∀ c, c < 93 → c ∈ qLs X) (d : Nat) (a1 : Int) (S : qSto) (o : (Int × qSto)) (h : M_back a1 S = some o) (Q : Option qV → qSto → Prop) (hQ : Q (some (qi o.1)) o.2) : qC X (d + 5) yX12_back cX12_back 2 (some .int) [qr 70, qi a1] S Q := by
  refine q_entry (lv := [(0, qr 70), (1, qi a1)]) pn_X12 (Nat.le_of_ble_eq_true rfl) rfl ?_
  unfold M_back at h
  refine q_iload_n dX12_back_0 rfl rfl ?_
  obtain ⟨q3714, h3715, h⟩ := Option.bind_eq_some_iff.mp h
  refine q_callSi (as := [qi a1]) dX12_back_1 ml_X12_521 rfl rfl (Nat.le_of_ble_eq_true rfl) (M_isMark_ok hL (d + 3) a1 _ _ h3715) rfl ?_
  obtain ⟨c3716, h⟩ := qk_some h
  refine q_if_eq (tgt := 16) dX12_back_4 (by decide) rfl (qRb_R c3716)  (fun g => ?_) (fun g => ?_)
  · rw [if_pos (show q3714.1 = 0 from g)] at h
    refine q_iconst dX12_back_16 rfl rfl ?_
    cases h
    exact q_ireturn dX12_back_17 rfl hQ
  · rw [if_neg (show ¬ (q3714.1 = 0) from g)] at h
    refine q_aload_n dX12_back_7 rfl rfl ?_
    refine q_getA dX12_back_8 fl_X12_60 (hL 70 (by decide)) sh_70 (by decide) rfl rfl ?_
    refine q_iload_n dX12_back_11 rfl rfl ?_
    obtain ⟨c3717, h⟩ := qk_some h
    refine q_zaload dX12_back_12 (hL 86 (by decide)) sh_86 (qIx_0 c3717) (qIx_1 c3717) rfl ?_
    obtain ⟨c3718, h⟩ := qk_some h
    refine q_if_ne (tgt := 18) dX12_back_13 (by decide) rfl (qRb_R c3718)  (fun g => ?_) (fun g => ?_)
    · rw [if_neg (show ¬ ((q3714.2 86 (Int.toNat a1)) = 0) from g)] at h
      refine q_aload_n dX12_back_18 rfl rfl ?_
      refine q_bipush dX12_back_19 (by decide) rfl ?_
      refine q_iload_n dX12_back_21 rfl rfl ?_
      refine q_iadd dX12_back_22 rfl ?_
      obtain ⟨q3719, h3720, h⟩ := Option.bind_eq_some_iff.mp h
      refine q_callVv (as := [qi (12 + a1)]) (c := 70) dX12_back_23 ml_X12_426 rfl rfl (hL 70 (by decide)) sh_70 rfl rfl (Nat.le_of_ble_eq_true rfl) (M_takes_ok hL d (12 + a1) _ _ h3720) rfl ?_
      refine q_aload_n dX12_back_26 rfl rfl ?_
      refine q_iconst dX12_back_27 rfl rfl ?_
      refine q_putI dX12_back_28 fl_X12_252 (hL 70 (by decide)) sh_70 (by decide) pf_12_31 pt_12_31 rfl rfl ?_
      refine q_aload_n dX12_back_31 rfl rfl ?_
      obtain ⟨q3721, h3722, h⟩ := Option.bind_eq_some_iff.mp h
      refine q_callVi (as := []) (c := 70) dX12_back_32 ml_X12_263 rfl rfl (hL 70 (by decide)) sh_70 rfl rfl (Nat.le_of_ble_eq_true rfl) (M_staying_ok hL (d + 3) _ _ h3722) rfl ?_
      cases h
      exact q_ireturn dX12_back_35 rfl hQ
    · rw [if_pos (show (q3714.2 86 (Int.toNat a1)) = 0 from g)] at h
      refine q_iconst dX12_back_16 rfl rfl ?_
      cases h
      exact q_ireturn dX12_back_17 rfl hQ
