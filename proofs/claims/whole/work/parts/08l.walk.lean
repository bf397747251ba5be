set_option maxRecDepth 20000 in
theorem M_best_ok {X : qX} (hL : ∀ c, c < 93 → c ∈ qLs X) (d : Nat) (a1 : Int) (S : qSto) (o : (Int × qSto)) (h : M_best a1 S = some o) (Q : Option qV → qSto → Prop) (hQ : Q (some (qi o.1)) o.2) : qC X (d + 11) yX12_best cX12_best 2 (some .int) [qr 70, qi a1] S Q := by
  refine q_entry (lv := [(0, qr 70), (1, qi a1)]) pn_X12 (Nat.le_of_ble_eq_true rfl) rfl ?_
  unfold M_best at h
  refine q_iload_n dX12_best_0 rfl rfl ?_
  obtain ⟨c3509, h⟩ := qk_some h
  refine q_i2l dX12_best_1 (qRb_R c3509) rfl ?_
  refine q_lconst (v := 0) dX12_best_2 rfl rfl ?_
  refine q_ldc2 (v := 5) dX12_best_3 qw_1938 rfl ?_
  obtain ⟨q3510, h3511, h⟩ := Option.bind_eq_some_iff.mp h
  refine q_callSi (as := [ql a1, ql 0, ql 5]) dX12_best_6 ml_X12_99 rfl rfl (Nat.le_of_ble_eq_true rfl) (M_in_ok hL (d + 10) a1 0 5 _ _ h3511) rfl ?_
  obtain ⟨c3512, h⟩ := qk_some h
  refine q_if_ne (tgt := 14) dX12_best_9 (by decide) rfl (qRb_R c3512)  (fun g => ?_) (fun g => ?_)
  · rw [if_neg (show ¬ (q3510.1 = 0) from g)] at h
    refine q_aload_n dX12_best_14 rfl rfl ?_
    obtain ⟨q3598, h3599, h⟩ := Option.bind_eq_some_iff.mp h
    refine q_callVv (as := []) (c := 70) dX12_best_15 ml_X12_468 rfl rfl (hL 70 (by decide)) sh_70 rfl rfl (Nat.le_of_ble_eq_true rfl) (M_laysFour_ok hL d _ _ h3599) rfl ?_
    refine q_aload_n dX12_best_18 rfl rfl ?_
    refine q_getI dX12_best_19 fl_X12_444 (hL 70 (by decide)) sh_70 (by decide) rfl rfl ?_
    obtain ⟨c3600, h⟩ := qk_some h
    refine q_if_ne (tgt := 27) dX12_best_22 (by decide) rfl (qRb_R c3600)  (fun g => ?_) (fun g => ?_)
    · rw [if_neg (show ¬ ((q3598 70 37) = 0) from g)] at h
      refine q_iload_n dX12_best_27 rfl rfl ?_
      refine q_iconst dX12_best_28 rfl rfl ?_
      obtain ⟨c3601, h⟩ := qk_some h
      refine q_icmp_ge (tgt := 48) dX12_best_29 (by decide) rfl (qRb_R c3601) ⟨by decide, by decide⟩ (fun g => ?_) (fun g => ?_)
      · rw [if_pos (show 2 ≤ a1 from g)] at h
        refine q_iload_n dX12_best_48 rfl rfl ?_
        refine q_iconst dX12_best_49 rfl rfl ?_
        refine q_isub dX12_best_50 rfl ?_
        refine q_aload_n dX12_best_51 rfl rfl ?_
        refine q_getI dX12_best_52 fl_X12_444 (hL 70 (by decide)) sh_70 (by decide) rfl rfl ?_
        obtain ⟨c3602, h⟩ := qk_some h
        obtain ⟨c3603, h⟩ := qk_some h
        refine q_icmp_ge (tgt := 69) dX12_best_55 (by decide) rfl (qRb_R c3602) (qRb_R c3603) (fun g => ?_) (fun g => ?_)
        · rw [if_pos (show (q3598 70 37) ≤ (a1 - 2) from g)] at h
          refine q_bipush dX12_best_69 (by decide) rfl ?_
          cases h
          exact q_ireturn dX12_best_71 rfl hQ
        · rw [if_neg (show ¬ ((q3598 70 37) ≤ (a1 - 2)) from g)] at h
          refine q_aload_n dX12_best_58 rfl rfl ?_
          refine q_getA dX12_best_59 fl_X12_76 (hL 70 (by decide)) sh_70 (by decide) rfl rfl ?_
          refine q_iload_n dX12_best_62 rfl rfl ?_
          refine q_iconst dX12_best_63 rfl rfl ?_
          refine q_isub dX12_best_64 rfl ?_
          obtain ⟨c3604, h⟩ := qk_some h
          refine q_iaload dX12_best_65 (hL 91 (by decide)) sh_91 (qIx_0 c3604) (qIx_1 c3604) rfl ?_
          refine q_goto (pc' := 71) dX12_best_66 (by decide) ?_
          cases h
          exact q_ireturn dX12_best_71 rfl hQ
      · rw [if_neg (show ¬ (2 ≤ a1) from g)] at h
        refine q_iload_n dX12_best_32 rfl rfl ?_
        obtain ⟨c3605, h⟩ := qk_some h
        refine q_if_ne (tgt := 43) dX12_best_33 (by decide) rfl (qRb_R c3605)  (fun g => ?_) (fun g => ?_)
        · rw [if_neg (show ¬ (a1 = 0) from g)] at h
          refine q_aload_n dX12_best_43 rfl rfl ?_
          refine q_getI dX12_best_44 fl_X12_453 (hL 70 (by decide)) sh_70 (by decide) rfl rfl ?_
          cases h
          exact q_ireturn dX12_best_47 rfl hQ
        · rw [if_pos (show a1 = 0 from g)] at h
          refine q_aload_n dX12_best_36 rfl rfl ?_
          refine q_getI dX12_best_37 fl_X12_450 (hL 70 (by decide)) sh_70 (by decide) rfl rfl ?_
          refine q_goto (pc' := 47) dX12_best_40 (by decide) ?_
          cases h
          exact q_ireturn dX12_best_47 rfl hQ
    · rw [if_pos (show (q3598 70 37) = 0 from g)] at h
      refine q_iconst dX12_best_25 rfl rfl ?_
      cases h
      exact q_ireturn dX12_best_26 rfl hQ
  · rw [if_pos (show q3510.1 = 0 from g)] at h
    refine q_iconst dX12_best_12 rfl rfl ?_
    cases h
    exact q_ireturn dX12_best_13 rfl hQ
set_option maxRecDepth 20000 in
theorem M_isLying_ok {X : qX} (hL : ∀ c, c < 93 → c ∈ qLs X) (d : Nat) (a1 : Int) (a2 : Int) (S : qSto) (o : (Int × qSto)) (h : M_isLying a1 a2 S = some o) (Q : Option qV → qSto → Prop) (hQ : Q (some (qi o.1)) o.2) : qC X (d + 1) yX12_isLying cX12_isLying 3 (some .boolean) [qr 70, qi a1, qi a2] S Q := by
  refine q_entry (lv := [(0, qr 70), (1, qi a1), (2, qi a2)]) pn_X12 (Nat.le_of_ble_eq_true rfl) rfl ?_
  unfold M_isLying at h
  refine q_aload_n dX12_isLying_0 rfl rfl ?_
  refine q_iload_n dX12_isLying_1 rfl rfl ?_
  obtain ⟨q3614, h3615, h⟩ := Option.bind_eq_some_iff.mp h
  refine q_callVi (as := [qi a1]) (c := 70) dX12_isLying_2 ml_X12_326 rfl rfl (hL 70 (by decide)) sh_70 rfl rfl (Nat.le_of_ble_eq_true rfl) (M_stays_ok hL d a1 _ _ h3615) rfl ?_
  obtain ⟨c3616, h⟩ := qk_some h
  refine q_if_eq (tgt := 32) dX12_isLying_5 (by decide) rfl (qRb_R c3616)  (fun g => ?_) (fun g => ?_)
  · rw [if_pos (show q3614.1 = 0 from g)] at h
    refine q_iconst dX12_isLying_32 rfl rfl ?_
    cases h
    exact q_zreturn dX12_isLying_33 rfl (by decide) hQ
  · rw [if_neg (show ¬ (q3614.1 = 0) from g)] at h
    refine q_iload_n dX12_isLying_8 rfl rfl ?_
    refine q_aload_n dX12_isLying_9 rfl rfl ?_
    refine q_getA dX12_isLying_10 fl_X12_39 (hL 70 (by decide)) sh_70 (by decide) rfl rfl ?_
    refine q_iload_n dX12_isLying_13 rfl rfl ?_
    obtain ⟨c3617, h⟩ := qk_some h
    refine q_iaload dX12_isLying_14 (hL 79 (by decide)) sh_79 (qIx_0 c3617) (qIx_1 c3617) rfl ?_
    obtain ⟨c3618, h⟩ := qk_some h
    obtain ⟨c3619, h⟩ := qk_some h
    refine q_icmp_lt (tgt := 32) dX12_isLying_15 (by decide) rfl (qRb_R c3618) (qRb_R c3619) (fun g => ?_) (fun g => ?_)
    · rw [if_pos (show a2 < (q3614.2 79 (Int.toNat a1)) from g)] at h
      refine q_iconst dX12_isLying_32 rfl rfl ?_
      cases h
      exact q_zreturn dX12_isLying_33 rfl (by decide) hQ
    · rw [if_neg (show ¬ (a2 < (q3614.2 79 (Int.toNat a1))) from g)] at h
      refine q_iload_n dX12_isLying_18 rfl rfl ?_
      refine q_aload_n dX12_isLying_19 rfl rfl ?_
      refine q_getA dX12_isLying_20 fl_X12_48 (hL 70 (by decide)) sh_70 (by decide) rfl rfl ?_
      refine q_iload_n dX12_isLying_23 rfl rfl ?_
      obtain ⟨c3620, h⟩ := qk_some h
      refine q_iaload dX12_isLying_24 (hL 82 (by decide)) sh_82 (qIx_0 c3620) (qIx_1 c3620) rfl ?_
      obtain ⟨c3621, h⟩ := qk_some h
      obtain ⟨c3622, h⟩ := qk_some h
      refine q_icmp_ge (tgt := 32) dX12_isLying_25 (by decide) rfl (qRb_R c3621) (qRb_R c3622) (fun g => ?_) (fun g => ?_)
      · rw [if_pos (show (q3614.2 82 (Int.toNat a1)) ≤ a2 from g)] at h
        refine q_iconst dX12_isLying_32 rfl rfl ?_
        cases h
        exact q_zreturn dX12_isLying_33 rfl (by decide) hQ
      · rw [if_neg (show ¬ ((q3614.2 82 (Int.toNat a1)) ≤ a2) from g)] at h
        refine q_iconst dX12_isLying_28 rfl rfl ?_
        refine q_goto (pc' := 33) dX12_isLying_29 (by decide) ?_
        cases h
        exact q_zreturn dX12_isLying_33 rfl (by decide) hQ
set_option maxRecDepth 20000 in
theorem M_liesAt_L2_ok {X : qX} (hL : ∀ c, c < 93 → c ∈ qLs X) (d : Nat) {Q : Option qV → qSto → Prop} : ∀ (n : Nat) (x1 : Int) (x2 : Int) (x3 : Int) (S : qSto) (o : (qSto ⊕ (Int × qSto))), M_liesAt_L2 n x1 x2 x3 S = some o → (∀ t, o = Sum.inl t → qW X (d + 2) yX12_liesAt cX12_liesAt 4 (some .int) 49 [] [] t Q) → (∀ w, o = Sum.inr w → Q (some (qi w.1)) w.2) → qW X (d + 2) yX12_liesAt cX12_liesAt 4 (some .int) 2 [(0, qr 70), (1, qi x1), (2, qi x2), (3, qi x3)] [] S Q := by
  intro n
  induction n with
  | zero =>
    intro x1 x2 x3 S o h
    simp [M_liesAt_L2] at h
  | succ n ih =>
    intro x1 x2 x3 S o h hE hR
    rw [M_liesAt_L2] at h
    refine q_iload_n dX12_liesAt_2 rfl rfl ?_
    refine q_aload_n dX12_liesAt_3 rfl rfl ?_
    refine q_getA dX12_liesAt_4 fl_X12_13 (hL 70 (by decide)) sh_70 (by decide) rfl rfl ?_
    refine q_bipush dX12_liesAt_7 (by decide) rfl ?_
    refine q_iaload dX12_liesAt_9 (hL 72 (by decide)) sh_72 (by decide) (by decide) rfl ?_
    obtain ⟨c3612, h⟩ := qk_some h
    obtain ⟨c3613, h⟩ := qk_some h
    refine q_icmp_ge (tgt := 49) dX12_liesAt_10 (by decide) rfl (qRb_R c3612) (qRb_R c3613) (fun g => ?_) (fun g => ?_)
    · rw [if_pos (show (S 72 9) ≤ x3 from g)] at h
      cases h
      exact q_pick [] rfl (hE _ rfl)
    · rw [if_neg (show ¬ ((S 72 9) ≤ x3) from g)] at h
      refine q_aload_n dX12_liesAt_13 rfl rfl ?_
      refine q_iload_n dX12_liesAt_14 rfl rfl ?_
      refine q_iload_n dX12_liesAt_15 rfl rfl ?_
      obtain ⟨q3623, h3624, h⟩ := Option.bind_eq_some_iff.mp h
      refine q_callVi (as := [qi x3, qi x1]) (c := 70) dX12_liesAt_16 ml_X12_471 rfl rfl (hL 70 (by decide)) sh_70 rfl rfl (Nat.le_of_ble_eq_true rfl) (M_isLying_ok hL d x3 x1 _ _ h3624) rfl ?_
      obtain ⟨c3625, h⟩ := qk_some h
      refine q_if_eq (tgt := 43) dX12_liesAt_19 (by decide) rfl (qRb_R c3625)  (fun g => ?_) (fun g => ?_)
      · rw [if_pos (show q3623.1 = 0 from g)] at h
        refine q_iinc (lv' := [(3, qi (x3 + 1)), (0, qr 70), (1, qi x1), (2, qi x2)]) dX12_liesAt_43 (by decide) rfl rfl rfl ?_
        refine q_goto (pc' := 2) dX12_liesAt_46 (by decide) ?_
        exact q_pick [1, 2, 3, 0] rfl (ih x1 x2 (x3 + 1) _ _ h hE hR)
      · rw [if_neg (show ¬ (q3623.1 = 0) from g)] at h
        refine q_iload_n dX12_liesAt_22 rfl rfl ?_
        refine q_aload_n dX12_liesAt_23 rfl rfl ?_
        refine q_getA dX12_liesAt_24 fl_X12_36 (hL 70 (by decide)) sh_70 (by decide) rfl rfl ?_
        refine q_iload_n dX12_liesAt_27 rfl rfl ?_
        obtain ⟨c3626, h⟩ := qk_some h
        refine q_iaload dX12_liesAt_28 (hL 78 (by decide)) sh_78 (qIx_0 c3626) (qIx_1 c3626) rfl ?_
        obtain ⟨c3627, h⟩ := qk_some h
        obtain ⟨c3628, h⟩ := qk_some h
        refine q_icmp_lt (tgt := 43) dX12_liesAt_29 (by decide) rfl (qRb_R c3627) (qRb_R c3628) (fun g => ?_) (fun g => ?_)
        · rw [if_pos (show x2 < (q3623.2 78 (Int.toNat x3)) from g)] at h
          refine q_iinc (lv' := [(3, qi (x3 + 1)), (0, qr 70), (1, qi x1), (2, qi x2)]) dX12_liesAt_43 (by decide) rfl rfl rfl ?_
          refine q_goto (pc' := 2) dX12_liesAt_46 (by decide) ?_
          exact q_pick [1, 2, 3, 0] rfl (ih x1 x2 (x3 + 1) _ _ h hE hR)
        · rw [if_neg (show ¬ (x2 < (q3623.2 78 (Int.toNat x3))) from g)] at h
          refine q_iload_n dX12_liesAt_32 rfl rfl ?_
          refine q_aload_n dX12_liesAt_33 rfl rfl ?_
          refine q_iload_n dX12_liesAt_34 rfl rfl ?_
          obtain ⟨q3629, h3630, h⟩ := Option.bind_eq_some_iff.mp h
          refine q_callVi (as := [qi x3]) (c := 70) dX12_liesAt_35 ml_X12_349 rfl rfl (hL 70 (by decide)) sh_70 rfl rfl (Nat.le_of_ble_eq_true rfl) (M_lastMetre_ok hL d x3 _ _ h3630) rfl ?_
          obtain ⟨c3631, h⟩ := qk_some h
          obtain ⟨c3632, h⟩ := qk_some h
          refine q_icmp_gt (tgt := 43) dX12_liesAt_38 (by decide) rfl (qRb_R c3631) (qRb_R c3632) (fun g => ?_) (fun g => ?_)
          · rw [if_pos (show q3629.1 < x2 from g)] at h
            refine q_iinc (lv' := [(3, qi (x3 + 1)), (0, qr 70), (1, qi x1), (2, qi x2)]) dX12_liesAt_43 (by decide) rfl rfl rfl ?_
            refine q_goto (pc' := 2) dX12_liesAt_46 (by decide) ?_
            exact q_pick [1, 2, 3, 0] rfl (ih x1 x2 (x3 + 1) _ _ h hE hR)
          · rw [if_neg (show ¬ (q3629.1 < x2) from g)] at h
            refine q_iload_n dX12_liesAt_41 rfl rfl ?_
            cases h
            exact q_ireturn dX12_liesAt_42 rfl (hR _ rfl)
set_option maxRecDepth 20000 in
theorem M_liesAt_ok {X : qX} (hL : ∀ c, c < 93 → c ∈ qLs X) (d : Nat) (a1 : Int) (a2 : Int) (S : qSto) (o : (Int × qSto)) (h : M_liesAt a1 a2 S = some o) (Q : Option qV → qSto → Prop) (hQ : Q (some (qi o.1)) o.2) : qC X (d + 2) yX12_liesAt cX12_liesAt 4 (some .int) [qr 70, qi a1, qi a2] S Q := by
  refine q_entry (lv := [(0, qr 70), (1, qi a1), (2, qi a2)]) pn_X12 (Nat.le_of_ble_eq_true rfl) rfl ?_
  unfold M_liesAt at h
  refine q_iconst dX12_liesAt_0 rfl rfl ?_
  refine q_istore_n (lv' := [(3, qi 0), (0, qr 70), (1, qi a1), (2, qi a2)]) dX12_liesAt_1 (by decide) rfl rfl ?_
  obtain ⟨q3633, h3634, h⟩ := Option.bind_eq_some_iff.mp h
  refine q_pick [1, 2, 3, 0] rfl (M_liesAt_L2_ok hL d qF a1 a2 0 _ _ h3634 (fun t3635 e4267 => ?_) (fun w e4267 => ?_))
  · subst e4267
    simp only [Sum.elim_inl] at h
    refine q_bipush dX12_liesAt_49 (by decide) rfl ?_
    cases h
    exact q_ireturn dX12_liesAt_51 rfl hQ
  · subst e4267
    simp only [Sum.elim_inr] at h
    cases h
    exact hQ
set_option maxRecDepth 20000 in
theorem M_at_ok {X : qX} (hL : ∀ c, c < 93 → c ∈ qLs X) (d : Nat) (a1 : Int) (a2 : Int) (S : qSto) (o : (Int × qSto)) (h : M_at a1 a2 S = some o) (Q : Option qV → qSto → Prop) (hQ : Q (some (qi o.1)) o.2) : qC X (d + 3) yX12_at cX12_at 3 (some .int) [qr 70, qi a1, qi a2] S Q := by
  refine q_entry (lv := [(0, qr 70), (1, qi a1), (2, qi a2)]) pn_X12 (Nat.le_of_ble_eq_true rfl) rfl ?_
  unfold M_at at h
  refine q_iload_n dX12_at_0 rfl rfl ?_
  obtain ⟨q3606, h3607, h⟩ := Option.bind_eq_some_iff.mp h
  refine q_callSi (as := [qi a1]) dX12_at_1 ml_X12_283 rfl rfl (Nat.le_of_ble_eq_true rfl) (M_isSlot_ok hL (d + 1) a1 _ _ h3607) rfl ?_
  obtain ⟨c3608, h⟩ := qk_some h
  refine q_if_eq (tgt := 24) dX12_at_4 (by decide) rfl (qRb_R c3608)  (fun g => ?_) (fun g => ?_)
  · rw [if_pos (show q3606.1 = 0 from g)] at h
    refine q_iconst dX12_at_24 rfl rfl ?_
    cases h
    exact q_ireturn dX12_at_25 rfl hQ
  · rw [if_neg (show ¬ (q3606.1 = 0) from g)] at h
    refine q_aload_n dX12_at_7 rfl rfl ?_
    refine q_iload_n dX12_at_8 rfl rfl ?_
    obtain ⟨q3609, h3610, h⟩ := Option.bind_eq_some_iff.mp h
    refine q_callVi (as := [qi a2]) (c := 70) dX12_at_9 ml_X12_277 rfl rfl (hL 70 (by decide)) sh_70 rfl rfl (Nat.le_of_ble_eq_true rfl) (M_isMetre_ok hL (d + 1) a2 _ _ h3610) rfl ?_
    obtain ⟨c3611, h⟩ := qk_some h
    refine q_if_eq (tgt := 24) dX12_at_12 (by decide) rfl (qRb_R c3611)  (fun g => ?_) (fun g => ?_)
    · rw [if_pos (show q3609.1 = 0 from g)] at h
      refine q_iconst dX12_at_24 rfl rfl ?_
      cases h
      exact q_ireturn dX12_at_25 rfl hQ
    · rw [if_neg (show ¬ (q3609.1 = 0) from g)] at h
      refine q_aload_n dX12_at_15 rfl rfl ?_
      refine q_iload_n dX12_at_16 rfl rfl ?_
      refine q_iload_n dX12_at_17 rfl rfl ?_
      obtain ⟨q3636, h3637, h⟩ := Option.bind_eq_some_iff.mp h
      refine q_callVi (as := [qi a1, qi a2]) (c := 70) dX12_at_18 ml_X12_474 rfl rfl (hL 70 (by decide)) sh_70 rfl rfl (Nat.le_of_ble_eq_true rfl) (M_liesAt_ok hL d a1 a2 _ _ h3637) rfl ?_
      refine q_goto (pc' := 25) dX12_at_21 (by decide) ?_
      cases h
      exact q_ireturn dX12_at_25 rfl hQ
set_option maxRecDepth 20000 in
theorem M_nextLying_L5_ok {X : qX} (hL : ∀ c, c < 93 → c ∈ qLs X) (d : Nat) {Q : Option qV → qSto → Prop} : ∀ (n : Nat) (x1 : Int) (x2 : Int) (x3 : Int) (x4 : Int) (S : qSto) (o : (Int × qSto)), M_nextLying_L5 n x1 x2 x3 x4 S = some o → (qW X (d + 2) yX12_nextLying cX12_nextLying 5 (some .int) 75 [(3, qi o.1)] [] o.2 Q) → qW X (d + 2) yX12_nextLying cX12_nextLying 5 (some .int) 5 [(0, qr 70), (1, qi x1), (2, qi x2), (3, qi x3), (4, qi x4)] [] S Q := by
  intro n
  induction n with
  | zero =>
    intro x1 x2 x3 x4 S o h
    simp [M_nextLying_L5] at h
  | succ n ih =>
    intro x1 x2 x3 x4 S o h hE
    rw [M_nextLying_L5] at h
    refine q_iload dX12_nextLying_5 rfl rfl ?_
    refine q_aload_n dX12_nextLying_7 rfl rfl ?_
    refine q_getA dX12_nextLying_8 fl_X12_13 (hL 70 (by decide)) sh_70 (by decide) rfl rfl ?_
    refine q_bipush dX12_nextLying_11 (by decide) rfl ?_
    refine q_iaload dX12_nextLying_13 (hL 72 (by decide)) sh_72 (by decide) (by decide) rfl ?_
    obtain ⟨c3642, h⟩ := qk_some h
    obtain ⟨c3643, h⟩ := qk_some h
    refine q_icmp_ge (tgt := 75) dX12_nextLying_14 (by decide) rfl (qRb_R c3642) (qRb_R c3643) (fun g => ?_) (fun g => ?_)
    · rw [if_pos (show (S 72 9) ≤ x4 from g)] at h
      cases h
      exact q_pick [3] rfl (hE)
    · rw [if_neg (show ¬ ((S 72 9) ≤ x4) from g)] at h
      refine q_aload_n dX12_nextLying_17 rfl rfl ?_
      refine q_iload dX12_nextLying_18 rfl rfl ?_
      refine q_iload_n dX12_nextLying_20 rfl rfl ?_
      obtain ⟨q3644, h3645, h⟩ := Option.bind_eq_some_iff.mp h
      refine q_callVi (as := [qi x4, qi x1]) (c := 70) dX12_nextLying_21 ml_X12_471 rfl rfl (hL 70 (by decide)) sh_70 rfl rfl (Nat.le_of_ble_eq_true rfl) (M_isLying_ok hL d x4 x1 _ _ h3645) rfl ?_
      refine q_jn (G := fun (t3656 : Int) => qW X (d + 2) yX12_nextLying cX12_nextLying 5 (some .int) 69 [(0, qr 70), (1, qi x1), (2, qi x2), (3, qi t3656), (4, qi x4)] [] q3644.2 Q) h (fun t3656 h => ?_) (fun t3656 h hk4268 => ?_)
      · try dsimp only at h
        refine q_iinc (lv' := [(4, qi (x4 + 1)), (0, qr 70), (1, qi x1), (2, qi x2), (3, qi t3656)]) dX12_nextLying_69 (by decide) rfl rfl rfl ?_
        refine q_goto (pc' := 5) dX12_nextLying_72 (by decide) ?_
        exact q_pick [1, 2, 3, 4, 0] rfl (ih x1 x2 t3656 (x4 + 1) _ _ h hE)
      · skip
        obtain ⟨c3646, h⟩ := qk_some h
        refine q_if_eq (tgt := 69) dX12_nextLying_24 (by decide) rfl (qRb_R c3646)  (fun g => ?_) (fun g => ?_)
        · rw [if_pos (show q3644.1 = 0 from g)] at h
          cases h
          exact q_pick [0, 1, 2, 3, 4] rfl hk4268
        · rw [if_neg (show ¬ (q3644.1 = 0) from g)] at h
          refine q_aload_n dX12_nextLying_27 rfl rfl ?_
          refine q_getA dX12_nextLying_28 fl_X12_36 (hL 70 (by decide)) sh_70 (by decide) rfl rfl ?_
          refine q_iload dX12_nextLying_31 rfl rfl ?_
          obtain ⟨c3647, h⟩ := qk_some h
          refine q_iaload dX12_nextLying_33 (hL 78 (by decide)) sh_78 (qIx_0 c3647) (qIx_1 c3647) rfl ?_
          refine q_iload_n dX12_nextLying_34 rfl rfl ?_
          obtain ⟨c3648, h⟩ := qk_some h
          obtain ⟨c3649, h⟩ := qk_some h
          refine q_icmp_gt (tgt := 41) dX12_nextLying_35 (by decide) rfl (qRb_R c3648) (qRb_R c3649) (fun g => ?_) (fun g => ?_)
          · rw [if_pos (show x2 < (q3644.2 78 (Int.toNat x4)) from g)] at h
            refine q_iload_n dX12_nextLying_41 rfl rfl ?_
            refine q_iconst dX12_nextLying_42 rfl rfl ?_
            refine q_jn (G := fun (t3655 : Int) => qW X (d + 2) yX12_nextLying cX12_nextLying 5 (some .int) 68 [(0, qr 70), (1, qi x1), (2, qi x2), (4, qi x4)] [qi t3655] q3644.2 Q) h (fun t3655 h => ?_) (fun t3655 h hk4269 => ?_)
            · try dsimp only at h
              refine q_istore_n (lv' := [(3, qi t3655), (0, qr 70), (1, qi x1), (2, qi x2), (4, qi x4)]) dX12_nextLying_68 (by decide) rfl rfl ?_
              cases h
              exact q_pick [1, 2, 3, 0, 4] rfl hk4268
            · skip
              obtain ⟨c3650, h⟩ := qk_some h
              refine q_icmp_eq (tgt := 62) dX12_nextLying_43 (by decide) rfl (qRb_R c3650) ⟨by decide, by decide⟩ (fun g => ?_) (fun g => ?_)
              · rw [if_pos (show x3 = (-1) from g)] at h
                refine q_iload dX12_nextLying_62 rfl rfl ?_
                refine q_goto (pc' := 68) dX12_nextLying_64 (by decide) ?_
                cases h
                exact q_pick [0, 1, 2, 4] rfl hk4269
              · rw [if_neg (show ¬ (x3 = (-1)) from g)] at h
                refine q_aload_n dX12_nextLying_46 rfl rfl ?_
                refine q_getA dX12_nextLying_47 fl_X12_36 (hL 70 (by decide)) sh_70 (by decide) rfl rfl ?_
                refine q_iload dX12_nextLying_50 rfl rfl ?_
                obtain ⟨c3651, h⟩ := qk_some h
                refine q_iaload dX12_nextLying_52 (hL 78 (by decide)) sh_78 (qIx_0 c3651) (qIx_1 c3651) rfl ?_
                refine q_aload_n dX12_nextLying_53 rfl rfl ?_
                refine q_getA dX12_nextLying_54 fl_X12_36 (hL 70 (by decide)) sh_70 (by decide) rfl rfl ?_
                refine q_iload_n dX12_nextLying_57 rfl rfl ?_
                obtain ⟨c3652, h⟩ := qk_some h
                refine q_iaload dX12_nextLying_58 (hL 78 (by decide)) sh_78 (qIx_0 c3652) (qIx_1 c3652) rfl ?_
                obtain ⟨c3653, h⟩ := qk_some h
                obtain ⟨c3654, h⟩ := qk_some h
                refine q_icmp_ge (tgt := 67) dX12_nextLying_59 (by decide) rfl (qRb_R c3653) (qRb_R c3654) (fun g => ?_) (fun g => ?_)
                · rw [if_pos (show (q3644.2 78 (Int.toNat x3)) ≤ (q3644.2 78 (Int.toNat x4)) from g)] at h
                  refine q_iload_n dX12_nextLying_67 rfl rfl ?_
                  cases h
                  exact q_pick [0, 1, 2, 4] rfl hk4269
                · rw [if_neg (show ¬ ((q3644.2 78 (Int.toNat x3)) ≤ (q3644.2 78 (Int.toNat x4))) from g)] at h
                  refine q_iload dX12_nextLying_62 rfl rfl ?_
                  refine q_goto (pc' := 68) dX12_nextLying_64 (by decide) ?_
                  cases h
                  exact q_pick [0, 1, 2, 4] rfl hk4269
          · rw [if_neg (show ¬ (x2 < (q3644.2 78 (Int.toNat x4))) from g)] at h
            refine q_goto (pc' := 69) dX12_nextLying_38 (by decide) ?_
            cases h
            exact q_pick [0, 1, 2, 3, 4] rfl hk4268
set_option maxRecDepth 20000 in
theorem M_nextLying_ok {X : qX} (hL : ∀ c, c < 93 → c ∈ qLs X) (d : Nat) (a1 : Int) (a2 : Int) (S : qSto) (o : (Int × qSto)) (h : M_nextLying a1 a2 S = some o) (Q : Option qV → qSto → Prop) (hQ : Q (some (qi o.1)) o.2) : qC X (d + 2) yX12_nextLying cX12_nextLying 5 (some .int) [qr 70, qi a1, qi a2] S Q := by
  refine q_entry (lv := [(0, qr 70), (1, qi a1), (2, qi a2)]) pn_X12 (Nat.le_of_ble_eq_true rfl) rfl ?_
  unfold M_nextLying at h
  refine q_iconst dX12_nextLying_0 rfl rfl ?_
  refine q_istore_n (lv' := [(3, qi (-1)), (0, qr 70), (1, qi a1), (2, qi a2)]) dX12_nextLying_1 (by decide) rfl rfl ?_
  refine q_iconst dX12_nextLying_2 rfl rfl ?_
  refine q_istore (lv' := [(4, qi 0), (3, qi (-1)), (0, qr 70), (1, qi a1), (2, qi a2)]) dX12_nextLying_3 (by decide) rfl rfl ?_
  obtain ⟨q3657, h3658, h⟩ := Option.bind_eq_some_iff.mp h
  refine q_pick [2, 3, 4, 1, 0] rfl (M_nextLying_L5_ok hL d qF a1 a2 (-1) 0 _ _ h3658 ?_)
  refine q_iload_n dX12_nextLying_75 rfl rfl ?_
  cases h
  exact q_ireturn dX12_nextLying_76 rfl hQ
set_option maxRecDepth 20000 in
theorem M_lies_L24_ok {X : qX} (hL : ∀ c, c < 93 → c ∈ qLs X) (d : Nat) {Q : Option qV → qSto → Prop} : ∀ (n : Nat) (x1 : Int) (x2 : Int) (x3 : Int) (x4 : Int) (S : qSto) (o : ((Int × qSto) ⊕ (Int × qSto))), M_lies_L24 n x1 x2 x3 x4 S = some o → (∀ t, o = Sum.inl t → qW X (d + 3) yX12_lies cX12_lies 5 (some .int) 59 [(2, qi x2), (3, qi t.1)] [] t.2 Q) → (∀ w, o = Sum.inr w → Q (some (qi w.1)) w.2) → qW X (d + 3) yX12_lies cX12_lies 5 (some .int) 24 [(0, qr 70), (1, qi x1), (2, qi x2), (3, qi x3), (4, qi x4)] [] S Q := by
  intro n
  induction n with
  | zero =>
    intro x1 x2 x3 x4 S o h
    simp [M_lies_L24] at h
  | succ n ih =>
    intro x1 x2 x3 x4 S o h hE hR
    rw [M_lies_L24] at h
    refine q_iload dX12_lies_24 rfl rfl ?_
    refine q_iconst dX12_lies_26 rfl rfl ?_
    obtain ⟨c3661, h⟩ := qk_some h
    refine q_icmp_eq (tgt := 59) dX12_lies_27 (by decide) rfl (qRb_R c3661) ⟨by decide, by decide⟩ (fun g => ?_) (fun g => ?_)
    · rw [if_pos (show x4 = (-1) from g)] at h
      cases h
      exact q_pick [2, 3] rfl (hE _ rfl)
    · rw [if_neg (show ¬ (x4 = (-1)) from g)] at h
      refine q_iload_n dX12_lies_30 rfl rfl ?_
      refine q_iload_n dX12_lies_31 rfl rfl ?_
      obtain ⟨c3662, h⟩ := qk_some h
      obtain ⟨c3663, h⟩ := qk_some h
      refine q_icmp_ne (tgt := 38) dX12_lies_32 (by decide) rfl (qRb_R c3662) (qRb_R c3663) (fun g => ?_) (fun g => ?_)
      · rw [if_neg (show ¬ (x3 = x2) from g)] at h
        refine q_iload_n dX12_lies_38 rfl rfl ?_
        refine q_iconst dX12_lies_39 rfl rfl ?_
        refine q_iadd dX12_lies_40 rfl ?_
        refine q_istore_n (lv' := [(3, qi (x3 + 1)), (0, qr 70), (1, qi x1), (2, qi x2), (4, qi x4)]) dX12_lies_41 (by decide) rfl rfl ?_
        refine q_aload_n dX12_lies_42 rfl rfl ?_
        refine q_iload_n dX12_lies_43 rfl rfl ?_
        refine q_aload_n dX12_lies_44 rfl rfl ?_
        refine q_getA dX12_lies_45 fl_X12_36 (hL 70 (by decide)) sh_70 (by decide) rfl rfl ?_
        refine q_iload dX12_lies_48 rfl rfl ?_
        obtain ⟨c3664, h⟩ := qk_some h
        refine q_iaload dX12_lies_50 (hL 78 (by decide)) sh_78 (qIx_0 c3664) (qIx_1 c3664) rfl ?_
        obtain ⟨q3665, h3666, h⟩ := Option.bind_eq_some_iff.mp h
        refine q_callVi (as := [qi x1, qi (S 78 (Int.toNat x4))]) (c := 70) dX12_lies_51 ml_X12_477 rfl rfl (hL 70 (by decide)) sh_70 rfl rfl (Nat.le_of_ble_eq_true rfl) (M_nextLying_ok hL d x1 (S 78 (Int.toNat x4)) _ _ h3666) rfl ?_
        refine q_istore (lv' := [(4, qi q3665.1), (3, qi (x3 + 1)), (0, qr 70), (1, qi x1), (2, qi x2)]) dX12_lies_54 (by decide) rfl rfl ?_
        refine q_goto (pc' := 24) dX12_lies_56 (by decide) ?_
        exact q_pick [2, 3, 4, 1, 0] rfl (ih x1 x2 (x3 + 1) q3665.1 _ _ h hE hR)
      · rw [if_pos (show x3 = x2 from g)] at h
        refine q_iload dX12_lies_35 rfl rfl ?_
        cases h
        exact q_ireturn dX12_lies_37 rfl (hR _ rfl)
set_option maxRecDepth 20000 in
theorem M_lies_ok {X : qX} (hL : ∀ c, c < 93 → c ∈ qLs X) (d : Nat) (a1 : Int) (a2 : Int) (S : qSto) (o : (Int × qSto)) (h : M_lies a1 a2 S = some o) (Q : Option qV → qSto → Prop) (hQ : Q (some (qi o.1)) o.2) : qC X (d + 3) yX12_lies cX12_lies 5 (some .int) [qr 70, qi a1, qi a2] S Q := by
  refine q_entry (lv := [(0, qr 70), (1, qi a1), (2, qi a2)]) pn_X12 (Nat.le_of_ble_eq_true rfl) rfl ?_
  unfold M_lies at h
  refine q_iload_n dX12_lies_0 rfl rfl ?_
  obtain ⟨q3638, h3639, h⟩ := Option.bind_eq_some_iff.mp h
  refine q_callSi (as := [qi a1]) dX12_lies_1 ml_X12_283 rfl rfl (Nat.le_of_ble_eq_true rfl) (M_isSlot_ok hL (d + 1) a1 _ _ h3639) rfl ?_
  obtain ⟨c3640, h⟩ := qk_some h
  refine q_if_eq (tgt := 12) dX12_lies_4 (by decide) rfl (qRb_R c3640)  (fun g => ?_) (fun g => ?_)
  · rw [if_pos (show q3638.1 = 0 from g)] at h
    refine q_iconst dX12_lies_12 rfl rfl ?_
    cases h
    exact q_ireturn dX12_lies_13 rfl hQ
  · rw [if_neg (show ¬ (q3638.1 = 0) from g)] at h
    refine q_iload_n dX12_lies_7 rfl rfl ?_
    refine q_iconst dX12_lies_8 rfl rfl ?_
    obtain ⟨c3641, h⟩ := qk_some h
    refine q_icmp_ge (tgt := 14) dX12_lies_9 (by decide) rfl (qRb_R c3641) ⟨by decide, by decide⟩ (fun g => ?_) (fun g => ?_)
    · rw [if_pos (show (-1) ≤ a2 from g)] at h
      refine q_iconst dX12_lies_14 rfl rfl ?_
      refine q_istore_n (lv' := [(3, qi 0), (0, qr 70), (1, qi a1), (2, qi a2)]) dX12_lies_15 (by decide) rfl rfl ?_
      refine q_aload_n dX12_lies_16 rfl rfl ?_
      refine q_iload_n dX12_lies_17 rfl rfl ?_
      refine q_iconst dX12_lies_18 rfl rfl ?_
      obtain ⟨q3659, h3660, h⟩ := Option.bind_eq_some_iff.mp h
      refine q_callVi (as := [qi a1, qi (-1)]) (c := 70) dX12_lies_19 ml_X12_477 rfl rfl (hL 70 (by decide)) sh_70 rfl rfl (Nat.le_of_ble_eq_true rfl) (M_nextLying_ok hL d a1 (-1) _ _ h3660) rfl ?_
      refine q_istore (lv' := [(4, qi q3659.1), (3, qi 0), (0, qr 70), (1, qi a1), (2, qi a2)]) dX12_lies_22 (by decide) rfl rfl ?_
      obtain ⟨q3667, h3668, h⟩ := Option.bind_eq_some_iff.mp h
      refine q_pick [2, 3, 4, 1, 0] rfl (M_lies_L24_ok hL d qF a1 a2 0 q3659.1 _ _ h3668 (fun t3669 e4270 => ?_) (fun w e4270 => ?_))
      · subst e4270
        simp only [Sum.elim_inl] at h
        refine q_iload_n dX12_lies_59 rfl rfl ?_
        refine q_iconst dX12_lies_60 rfl rfl ?_
        obtain ⟨c3670, h⟩ := qk_some h
        refine q_icmp_ne (tgt := 68) dX12_lies_61 (by decide) rfl (qRb_R c3670) ⟨by decide, by decide⟩ (fun g => ?_) (fun g => ?_)
        · rw [if_neg (show ¬ (a2 = (-1)) from g)] at h
          refine q_bipush dX12_lies_68 (by decide) rfl ?_
          cases h
          exact q_ireturn dX12_lies_70 rfl hQ
        · rw [if_pos (show a2 = (-1) from g)] at h
          refine q_iload_n dX12_lies_64 rfl rfl ?_
          refine q_goto (pc' := 70) dX12_lies_65 (by decide) ?_
          cases h
          exact q_ireturn dX12_lies_70 rfl hQ
      · subst e4270
        simp only [Sum.elim_inr] at h
        cases h
        exact hQ
    · rw [if_neg (show ¬ ((-1) ≤ a2) from g)] at h
      refine q_iconst dX12_lies_12 rfl rfl ?_
      cases h
      exact q_ireturn dX12_lies_13 rfl hQ
set_option maxRecDepth 20000 in
theorem M_free_L31_ok {X : qX} (hL : ∀ c, c < 93 → c ∈ qLs X) (d : Nat) {Q : Option qV → qSto → Prop} : ∀ (n : Nat) (x1 : Int) (x2 : Int) (x3 : Int) (x4 : Int) (x5 : Int) (x6 : Int) (S : qSto) (o : (Int × Int × qSto)), M_free_L31 n x1 x3 x4 x5 x6 S = some o → (qW X (d + 3) yX12_free cX12_free 7 (some .int) 91 [(2, qi x2), (3, qi o.1), (4, qi o.2.1)] [] o.2.2 Q) → qW X (d + 3) yX12_free cX12_free 7 (some .int) 31 [(0, qr 70), (1, qi x1), (2, qi x2), (3, qi x3), (4, qi x4), (5, qi x5), (6, qi x6)] [] S Q := by
  intro n
  induction n with
  | zero =>
    intro x1 x2 x3 x4 x5 x6 S o h
    simp [M_free_L31] at h
  | succ n ih =>
    intro x1 x2 x3 x4 x5 x6 S o h hE
    rw [M_free_L31] at h
    refine q_iload dX12_free_31 rfl rfl ?_
    refine q_aload_n dX12_free_33 rfl rfl ?_
    refine q_getA dX12_free_34 fl_X12_13 (hL 70 (by decide)) sh_70 (by decide) rfl rfl ?_
    refine q_iconst dX12_free_37 rfl rfl ?_
    refine q_iaload dX12_free_38 (hL 72 (by decide)) sh_72 (by decide) (by decide) rfl ?_
    obtain ⟨c3678, h⟩ := qk_some h
    obtain ⟨c3679, h⟩ := qk_some h
    refine q_icmp_ge (tgt := 91) dX12_free_39 (by decide) rfl (qRb_R c3678) (qRb_R c3679) (fun g => ?_) (fun g => ?_)
    · rw [if_pos (show (S 72 0) ≤ x6 from g)] at h
      cases h
      exact q_pick [2, 3, 4] rfl (hE)
    · rw [if_neg (show ¬ ((S 72 0) ≤ x6) from g)] at h
      refine q_aload_n dX12_free_42 rfl rfl ?_
      refine q_iload_n dX12_free_43 rfl rfl ?_
      refine q_iload dX12_free_44 rfl rfl ?_
      obtain ⟨q3680, h3681, h⟩ := Option.bind_eq_some_iff.mp h
      refine q_callVi (as := [qi x1, qi x6]) (c := 70) dX12_free_46 ml_X12_474 rfl rfl (hL 70 (by decide)) sh_70 rfl rfl (Nat.le_of_ble_eq_true rfl) (M_liesAt_ok hL d x1 x6 _ _ h3681) rfl ?_
      refine q_bipush dX12_free_49 (by decide) rfl ?_
      refine q_jn (G := fun (t3683 : Int) => qW X (d + 3) yX12_free cX12_free 7 (some .int) 62 [(0, qr 70), (1, qi x1), (2, qi x2), (3, qi x3), (4, qi x4), (6, qi x6)] [qi t3683] q3680.2 Q) h (fun t3683 h => ?_) (fun t3683 h hk4271 => ?_)
      · try dsimp only at h
        refine q_istore (lv' := [(5, qi t3683), (0, qr 70), (1, qi x1), (2, qi x2), (3, qi x3), (4, qi x4), (6, qi x6)]) dX12_free_62 (by decide) rfl rfl ?_
        refine q_iload dX12_free_64 rfl rfl ?_
        refine q_iload_n dX12_free_66 rfl rfl ?_
        refine q_jn (G := fun (t3686 : (Int × Int)) => qW X (d + 3) yX12_free cX12_free 7 (some .int) 85 [(0, qr 70), (1, qi x1), (2, qi x2), (3, qi t3686.1), (4, qi t3686.2), (5, qi t3683), (6, qi x6)] [] q3680.2 Q) h (fun t3686 h => ?_) (fun t3686 h hk4272 => ?_)
        · try dsimp only at h
          refine q_iinc (lv' := [(6, qi (x6 + 1)), (0, qr 70), (1, qi x1), (2, qi x2), (3, qi t3686.1), (4, qi t3686.2), (5, qi t3683)]) dX12_free_85 (by decide) rfl rfl rfl ?_
          refine q_goto (pc' := 31) dX12_free_88 (by decide) ?_
          exact q_pick [1, 2, 3, 4, 5, 6, 0] rfl (ih x1 x2 t3686.1 t3686.2 t3683 (x6 + 1) _ _ h hE)
        · skip
          obtain ⟨c3684, h⟩ := qk_some h
          obtain ⟨c3685, h⟩ := qk_some h
          refine q_icmp_gt (tgt := 73) dX12_free_67 (by decide) rfl (qRb_R c3684) (qRb_R c3685) (fun g => ?_) (fun g => ?_)
          · rw [if_pos (show x3 < t3683 from g)] at h
            refine q_iload dX12_free_73 rfl rfl ?_
            refine q_istore_n (lv' := [(3, qi t3683), (5, qi t3683), (0, qr 70), (1, qi x1), (2, qi x2), (4, qi x4), (6, qi x6)]) dX12_free_75 (by decide) rfl rfl ?_
            refine q_iload dX12_free_76 rfl rfl ?_
            refine q_iload dX12_free_78 rfl rfl ?_
            refine q_isub dX12_free_80 rfl ?_
            refine q_iconst dX12_free_81 rfl rfl ?_
            refine q_iadd dX12_free_82 rfl ?_
            refine q_istore (lv' := [(4, qi ((x6 - t3683) + 1)), (3, qi t3683), (5, qi t3683), (0, qr 70), (1, qi x1), (2, qi x2), (6, qi x6)]) dX12_free_83 (by decide) rfl rfl ?_
            cases h
            exact q_pick [3, 4, 5, 1, 0, 2, 6] rfl hk4272
          · rw [if_neg (show ¬ (x3 < t3683) from g)] at h
            refine q_goto (pc' := 85) dX12_free_70 (by decide) ?_
            cases h
            exact q_pick [1, 2, 3, 4, 5, 0, 6] rfl hk4272
      · skip
        obtain ⟨c3682, h⟩ := qk_some h
        refine q_icmp_ne (tgt := 61) dX12_free_51 (by decide) rfl (qRb_R c3682) ⟨by decide, by decide⟩ (fun g => ?_) (fun g => ?_)
        · rw [if_neg (show ¬ (q3680.1 = (-2)) from g)] at h
          refine q_iconst dX12_free_61 rfl rfl ?_
          cases h
          exact q_pick [0, 1, 2, 3, 4, 6] rfl hk4271
        · rw [if_pos (show q3680.1 = (-2) from g)] at h
          refine q_iload dX12_free_54 rfl rfl ?_
          refine q_iconst dX12_free_56 rfl rfl ?_
          refine q_iadd dX12_free_57 rfl ?_
          refine q_goto (pc' := 62) dX12_free_58 (by decide) ?_
          cases h
          exact q_pick [0, 1, 2, 3, 4, 6] rfl hk4271
set_option maxRecDepth 20000 in
theorem M_free_ok {X : qX} (hL : ∀ c, c < 93 → c ∈ qLs X) (d : Nat) (a1 : Int) (a2 : Int) (S : qSto) (o : (Int × qSto)) (h : M_free a1 a2 S = some o) (Q : Option qV → qSto → Prop) (hQ : Q (some (qi o.1)) o.2) : qC X (d + 3) yX12_free cX12_free 7 (some .int) [qr 70, qi a1, qi a2] S Q := by
  refine q_entry (lv := [(0, qr 70), (1, qi a1), (2, qi a2)]) pn_X12 (Nat.le_of_ble_eq_true rfl) rfl ?_
  unfold M_free at h
  refine q_iload_n dX12_free_0 rfl rfl ?_
  obtain ⟨q3671, h3672, h⟩ := Option.bind_eq_some_iff.mp h
  refine q_callSi (as := [qi a1]) dX12_free_1 ml_X12_283 rfl rfl (Nat.le_of_ble_eq_true rfl) (M_isSlot_ok hL (d + 1) a1 _ _ h3672) rfl ?_
  obtain ⟨c3673, h⟩ := qk_some h
  refine q_if_eq (tgt := 17) dX12_free_4 (by decide) rfl (qRb_R c3673)  (fun g => ?_) (fun g => ?_)
  · rw [if_pos (show q3671.1 = 0 from g)] at h
    refine q_iconst dX12_free_17 rfl rfl ?_
    cases h
    exact q_ireturn dX12_free_18 rfl hQ
  · rw [if_neg (show ¬ (q3671.1 = 0) from g)] at h
    refine q_iload_n dX12_free_7 rfl rfl ?_
    obtain ⟨c3674, h⟩ := qk_some h
    refine q_i2l dX12_free_8 (qRb_R c3674) rfl ?_
    refine q_lconst (v := 0) dX12_free_9 rfl rfl ?_
    refine q_lconst (v := 1) dX12_free_10 rfl rfl ?_
    obtain ⟨q3675, h3676, h⟩ := Option.bind_eq_some_iff.mp h
    refine q_callSi (as := [ql a2, ql 0, ql 1]) dX12_free_11 ml_X12_99 rfl rfl (Nat.le_of_ble_eq_true rfl) (M_in_ok hL (d + 2) a2 0 1 _ _ h3676) rfl ?_
    obtain ⟨c3677, h⟩ := qk_some h
    refine q_if_ne (tgt := 19) dX12_free_14 (by decide) rfl (qRb_R c3677)  (fun g => ?_) (fun g => ?_)
    · rw [if_neg (show ¬ (q3675.1 = 0) from g)] at h
      refine q_iconst dX12_free_19 rfl rfl ?_
      refine q_istore_n (lv' := [(3, qi 0), (0, qr 70), (1, qi a1), (2, qi a2)]) dX12_free_20 (by decide) rfl rfl ?_
      refine q_bipush dX12_free_21 (by decide) rfl ?_
      refine q_istore (lv' := [(4, qi (-2)), (3, qi 0), (0, qr 70), (1, qi a1), (2, qi a2)]) dX12_free_23 (by decide) rfl rfl ?_
      refine q_iconst dX12_free_25 rfl rfl ?_
      refine q_istore (lv' := [(5, qi 0), (4, qi (-2)), (3, qi 0), (0, qr 70), (1, qi a1), (2, qi a2)]) dX12_free_26 (by decide) rfl rfl ?_
      refine q_iconst dX12_free_28 rfl rfl ?_
      refine q_istore (lv' := [(6, qi 0), (5, qi 0), (4, qi (-2)), (3, qi 0), (0, qr 70), (1, qi a1), (2, qi a2)]) dX12_free_29 (by decide) rfl rfl ?_
      obtain ⟨q3687, h3688, h⟩ := Option.bind_eq_some_iff.mp h
      refine q_pick [4, 5, 6, 3, 2, 1, 0] rfl (M_free_L31_ok hL d qF a1 a2 0 (-2) 0 0 _ _ h3688 ?_)
      refine q_iload_n dX12_free_91 rfl rfl ?_
      obtain ⟨c3689, h⟩ := qk_some h
      refine q_if_ne (tgt := 99) dX12_free_92 (by decide) rfl (qRb_R c3689)  (fun g => ?_) (fun g => ?_)
      · rw [if_neg (show ¬ (a2 = 0) from g)] at h
        refine q_iload dX12_free_99 rfl rfl ?_
        cases h
        exact q_ireturn dX12_free_101 rfl hQ
      · rw [if_pos (show a2 = 0 from g)] at h
        refine q_iload_n dX12_free_95 rfl rfl ?_
        refine q_goto (pc' := 101) dX12_free_96 (by decide) ?_
        cases h
        exact q_ireturn dX12_free_101 rfl hQ
    · rw [if_pos (show q3675.1 = 0 from g)] at h
      refine q_iconst dX12_free_17 rfl rfl ?_
      cases h
      exact q_ireturn dX12_free_18 rfl hQ
set_option maxRecDepth 20000 in
theorem M_isCrane_ok {X : qX} (hL : ∀ c, c < 93 → c ∈ qLs X) (d : Nat) (a1 : Int) (S : qSto) (o : (Int × qSto)) (h : M_isCrane a1 S = some o) (Q : Option qV → qSto → Prop) (hQ : Q (some (qi o.1)) o.2) : qC X (d + 1) yX12_isCrane cX12_isCrane 2 (some .boolean) [qr 70, qi a1] S Q := by
  refine q_entry (lv := [(0, qr 70), (1, qi a1)]) pn_X12 (Nat.le_of_ble_eq_true rfl) rfl ?_
  unfold M_isCrane at h
  refine q_iload_n dX12_isCrane_0 rfl rfl ?_
  obtain ⟨c3690, h⟩ := qk_some h
  refine q_i2l dX12_isCrane_1 (qRb_R c3690) rfl ?_
  refine q_lconst (v := 0) dX12_isCrane_2 rfl rfl ?_
  refine q_aload_n dX12_isCrane_3 rfl rfl ?_
  refine q_getA dX12_isCrane_4 fl_X12_13 (hL 70 (by decide)) sh_70 (by decide) rfl rfl ?_
  refine q_bipush dX12_isCrane_7 (by decide) rfl ?_
  refine q_iaload dX12_isCrane_9 (hL 72 (by decide)) sh_72 (by decide) (by decide) rfl ?_
  refine q_iconst dX12_isCrane_10 rfl rfl ?_
  refine q_isub dX12_isCrane_11 rfl ?_
  obtain ⟨c3691, h⟩ := qk_some h
  refine q_i2l dX12_isCrane_12 (qRb_R c3691) rfl ?_
  obtain ⟨q3692, h3693, h⟩ := Option.bind_eq_some_iff.mp h
  refine q_callSi (as := [ql a1, ql 0, ql ((S 72 7) - 1)]) dX12_isCrane_13 ml_X12_99 rfl rfl (Nat.le_of_ble_eq_true rfl) (M_in_ok hL d a1 0 ((S 72 7) - 1) _ _ h3693) rfl ?_
  obtain ⟨c3694, h⟩ := qk_some h
  cases h
  exact q_zreturn dX12_isCrane_16 rfl (qZb_Z c3694) hQ
set_option maxRecDepth 20000 in
theorem M_workedOn_ok {X : qX} (hL : ∀ c, c < 93 → c ∈ qLs X) (d : Nat) (a1 : Int) (a2 : Int) (S : qSto) (o : (Int × qSto)) (h : M_workedOn a1 a2 S = some o) (Q : Option qV → qSto → Prop) (hQ : Q (some (qi o.1)) o.2) : qC X (d + 4) yX12_workedOn cX12_workedOn 3 (some .int) [qr 70, qi a1, qi a2] S Q := by
  refine q_entry (lv := [(0, qr 70), (1, qi a1), (2, qi a2)]) pn_X12 (Nat.le_of_ble_eq_true rfl) rfl ?_
  unfold M_workedOn at h
  refine q_aload_n dX12_workedOn_0 rfl rfl ?_
  refine q_iload_n dX12_workedOn_1 rfl rfl ?_
  refine q_iconst dX12_workedOn_2 rfl rfl ?_
  obtain ⟨q3701, h3702, h⟩ := Option.bind_eq_some_iff.mp h
  refine q_callVi (as := [qi a2, qi (-1)]) (c := 70) dX12_workedOn_3 ml_X12_361 rfl rfl (hL 70 (by decide)) sh_70 rfl rfl (Nat.le_of_ble_eq_true rfl) (M_deals_ok hL d a2 (-1) _ _ h3702) rfl ?_
  obtain ⟨c3703, h⟩ := qk_some h
  refine q_if_ne (tgt := 12) dX12_workedOn_6 (by decide) rfl (qRb_R c3703)  (fun g => ?_) (fun g => ?_)
  · rw [if_neg (show ¬ (q3701.1 = 0) from g)] at h
    refine q_aload_n dX12_workedOn_12 rfl rfl ?_
    refine q_getA dX12_workedOn_13 fl_X12_51 (hL 70 (by decide)) sh_70 (by decide) rfl rfl ?_
    refine q_iload_n dX12_workedOn_16 rfl rfl ?_
    obtain ⟨c3704, h⟩ := qk_some h
    refine q_iaload dX12_workedOn_17 (hL 83 (by decide)) sh_83 (qIx_0 c3704) (qIx_1 c3704) rfl ?_
    refine q_iconst dX12_workedOn_18 rfl rfl ?_
    obtain ⟨c3705, h⟩ := qk_some h
    refine q_icmp_ne (tgt := 27) dX12_workedOn_19 (by decide) rfl (qRb_R c3705) ⟨by decide, by decide⟩ (fun g => ?_) (fun g => ?_)
    · rw [if_neg (show ¬ ((q3701.2 83 (Int.toNat a1)) = (-1)) from g)] at h
      refine q_aload_n dX12_workedOn_27 rfl rfl ?_
      refine q_getA dX12_workedOn_28 fl_X12_51 (hL 70 (by decide)) sh_70 (by decide) rfl rfl ?_
      refine q_iload_n dX12_workedOn_31 rfl rfl ?_
      obtain ⟨c3706, h⟩ := qk_some h
      refine q_iaload dX12_workedOn_32 (hL 83 (by decide)) sh_83 (qIx_0 c3706) (qIx_1 c3706) rfl ?_
      cases h
      exact q_ireturn dX12_workedOn_33 rfl hQ
    · rw [if_pos (show (q3701.2 83 (Int.toNat a1)) = (-1) from g)] at h
      refine q_bipush dX12_workedOn_22 (by decide) rfl ?_
      refine q_goto (pc' := 33) dX12_workedOn_24 (by decide) ?_
      cases h
      exact q_ireturn dX12_workedOn_33 rfl hQ
  · rw [if_pos (show q3701.1 = 0 from g)] at h
    refine q_bipush dX12_workedOn_9 (by decide) rfl ?_
    cases h
    exact q_ireturn dX12_workedOn_11 rfl hQ
set_option maxRecDepth 20000 in
theorem M_works_ok {X : qX} (hL : ∀ c, c < 93 → c ∈ qLs X) (d : Nat) (a1 : Int) (a2 : Int) (S : qSto) (o : (Int × qSto)) (h : M_works a1 a2 S = some o) (Q : Option qV → qSto → Prop) (hQ : Q (some (qi o.1)) o.2) : qC X (d + 5) yX12_works cX12_works 3 (some .int) [qr 70, qi a1, qi a2] S Q := by
  refine q_entry (lv := [(0, qr 70), (1, qi a1), (2, qi a2)]) pn_X12 (Nat.le_of_ble_eq_true rfl) rfl ?_
  unfold M_works at h
  refine q_aload_n dX12_works_0 rfl rfl ?_
  refine q_iload_n dX12_works_1 rfl rfl ?_
  obtain ⟨q3695, h3696, h⟩ := Option.bind_eq_some_iff.mp h
  refine q_callVi (as := [qi a1]) (c := 70) dX12_works_2 ml_X12_480 rfl rfl (hL 70 (by decide)) sh_70 rfl rfl (Nat.le_of_ble_eq_true rfl) (M_isCrane_ok hL (d + 3) a1 _ _ h3696) rfl ?_
  obtain ⟨c3697, h⟩ := qk_some h
  refine q_if_eq (tgt := 24) dX12_works_5 (by decide) rfl (qRb_R c3697)  (fun g => ?_) (fun g => ?_)
  · rw [if_pos (show q3695.1 = 0 from g)] at h
    refine q_iconst dX12_works_24 rfl rfl ?_
    cases h
    exact q_ireturn dX12_works_25 rfl hQ
  · rw [if_neg (show ¬ (q3695.1 = 0) from g)] at h
    refine q_iload_n dX12_works_8 rfl rfl ?_
    obtain ⟨q3698, h3699, h⟩ := Option.bind_eq_some_iff.mp h
    refine q_callSi (as := [qi a2]) dX12_works_9 ml_X12_283 rfl rfl (Nat.le_of_ble_eq_true rfl) (M_isSlot_ok hL (d + 3) a2 _ _ h3699) rfl ?_
    obtain ⟨c3700, h⟩ := qk_some h
    refine q_if_eq (tgt := 24) dX12_works_12 (by decide) rfl (qRb_R c3700)  (fun g => ?_) (fun g => ?_)
    · rw [if_pos (show q3698.1 = 0 from g)] at h
      refine q_iconst dX12_works_24 rfl rfl ?_
      cases h
      exact q_ireturn dX12_works_25 rfl hQ
    · rw [if_neg (show ¬ (q3698.1 = 0) from g)] at h
      refine q_aload_n dX12_works_15 rfl rfl ?_
      refine q_iload_n dX12_works_16 rfl rfl ?_
      refine q_iload_n dX12_works_17 rfl rfl ?_
      obtain ⟨q3707, h3708, h⟩ := Option.bind_eq_some_iff.mp h
      refine q_callVi (as := [qi a1, qi a2]) (c := 70) dX12_works_18 ml_X12_483 rfl rfl (hL 70 (by decide)) sh_70 rfl rfl (Nat.le_of_ble_eq_true rfl) (M_workedOn_ok hL d a1 a2 _ _ h3708) rfl ?_
      refine q_goto (pc' := 25) dX12_works_21 (by decide) ?_
      cases h
      exact q_ireturn dX12_works_25 rfl hQ
set_option maxRecDepth 20000 in
theorem M_hours_L14_ok {X : qX} (hL : ∀ c, c < 93 → c ∈ qLs X) (d : Nat) {Q : Option qV → qSto → Prop} : ∀ (n : Nat) (x1 : Int) (x2 : Int) (x3 : Int) (S : qSto) (o : (Int × qSto)), M_hours_L14 n x1 x2 x3 S = some o → (qW X (d + 5) yX12_hours cX12_hours 4 (some .int) 46 [(2, qi o.1)] [] o.2 Q) → qW X (d + 5) yX12_hours cX12_hours 4 (some .int) 14 [(0, qr 70), (1, qi x1), (2, qi x2), (3, qi x3)] [] S Q := by
  intro n
  induction n with
  | zero =>
    intro x1 x2 x3 S o h
    simp [M_hours_L14] at h
  | succ n ih =>
    intro x1 x2 x3 S o h hE
    rw [M_hours_L14] at h
    refine q_iload_n dX12_hours_14 rfl rfl ?_
    refine q_sipush dX12_hours_15 (by decide) rfl ?_
    obtain ⟨c3712, h⟩ := qk_some h
    refine q_icmp_ge (tgt := 46) dX12_hours_18 (by decide) rfl (qRb_R c3712) ⟨by decide, by decide⟩ (fun g => ?_) (fun g => ?_)
    · rw [if_pos (show 336 ≤ x3 from g)] at h
      cases h
      exact q_pick [2] rfl (hE)
    · rw [if_neg (show ¬ (336 ≤ x3) from g)] at h
      refine q_aload_n dX12_hours_21 rfl rfl ?_
      refine q_iload_n dX12_hours_22 rfl rfl ?_
      refine q_iload_n dX12_hours_23 rfl rfl ?_
      obtain ⟨q3713, h3714, h⟩ := Option.bind_eq_some_iff.mp h
      refine q_callVi (as := [qi x1, qi x3]) (c := 70) dX12_hours_24 ml_X12_483 rfl rfl (hL 70 (by decide)) sh_70 rfl rfl (Nat.le_of_ble_eq_true rfl) (M_workedOn_ok hL d x1 x3 _ _ h3714) rfl ?_
      refine q_bipush dX12_hours_27 (by decide) rfl ?_
      refine q_jn (G := fun (t3716 : Int) => qW X (d + 5) yX12_hours cX12_hours 4 (some .int) 39 [(0, qr 70), (1, qi x1), (3, qi x3)] [qi t3716] q3713.2 Q) h (fun t3716 h => ?_) (fun t3716 h hk4273 => ?_)
      · try dsimp only at h
        refine q_istore_n (lv' := [(2, qi t3716), (0, qr 70), (1, qi x1), (3, qi x3)]) dX12_hours_39 (by decide) rfl rfl ?_
        refine q_iinc (lv' := [(3, qi (x3 + 1)), (2, qi t3716), (0, qr 70), (1, qi x1)]) dX12_hours_40 (by decide) rfl rfl rfl ?_
        refine q_goto (pc' := 14) dX12_hours_43 (by decide) ?_
        exact q_pick [2, 3, 1, 0] rfl (ih x1 t3716 (x3 + 1) _ _ h hE)
      · skip
        obtain ⟨c3715, h⟩ := qk_some h
        refine q_icmp_ne (tgt := 36) dX12_hours_29 (by decide) rfl (qRb_R c3715) ⟨by decide, by decide⟩ (fun g => ?_) (fun g => ?_)
        · rw [if_neg (show ¬ (q3713.1 = (-2)) from g)] at h
          refine q_iload_n dX12_hours_36 rfl rfl ?_
          refine q_iconst dX12_hours_37 rfl rfl ?_
          refine q_iadd dX12_hours_38 rfl ?_
          cases h
          exact q_pick [0, 1, 3] rfl hk4273
        · rw [if_pos (show q3713.1 = (-2) from g)] at h
          refine q_iload_n dX12_hours_32 rfl rfl ?_
          refine q_goto (pc' := 39) dX12_hours_33 (by decide) ?_
          cases h
          exact q_pick [0, 1, 3] rfl hk4273
set_option maxRecDepth 20000 in
theorem M_hours_ok {X : qX} (hL : ∀ c, c < 93 → c ∈ qLs X) (d : Nat) (a1 : Int) (S : qSto) (o : (Int × qSto)) (h : M_hours a1 S = some o) (Q : Option qV → qSto → Prop) (hQ : Q (some (qi o.1)) o.2) : qC X (d + 5) yX12_hours cX12_hours 4 (some .int) [qr 70, qi a1] S Q := by
  refine q_entry (lv := [(0, qr 70), (1, qi a1)]) pn_X12 (Nat.le_of_ble_eq_true rfl) rfl ?_
  unfold M_hours at h
  refine q_aload_n dX12_hours_0 rfl rfl ?_
  refine q_iload_n dX12_hours_1 rfl rfl ?_
  obtain ⟨q3709, h3710, h⟩ := Option.bind_eq_some_iff.mp h
  refine q_callVi (as := [qi a1]) (c := 70) dX12_hours_2 ml_X12_480 rfl rfl (hL 70 (by decide)) sh_70 rfl rfl (Nat.le_of_ble_eq_true rfl) (M_isCrane_ok hL (d + 3) a1 _ _ h3710) rfl ?_
  obtain ⟨c3711, h⟩ := qk_some h
  refine q_if_ne (tgt := 10) dX12_hours_5 (by decide) rfl (qRb_R c3711)  (fun g => ?_) (fun g => ?_)
  · rw [if_neg (show ¬ (q3709.1 = 0) from g)] at h
    refine q_iconst dX12_hours_10 rfl rfl ?_
    refine q_istore_n (lv' := [(2, qi 0), (0, qr 70), (1, qi a1)]) dX12_hours_11 (by decide) rfl rfl ?_
    refine q_iconst dX12_hours_12 rfl rfl ?_
    refine q_istore_n (lv' := [(3, qi 0), (2, qi 0), (0, qr 70), (1, qi a1)]) dX12_hours_13 (by decide) rfl rfl ?_
    obtain ⟨q3717, h3718, h⟩ := Option.bind_eq_some_iff.mp h
    refine q_pick [2, 3, 1, 0] rfl (M_hours_L14_ok hL d qF a1 0 0 _ _ h3718 ?_)
    refine q_iload_n dX12_hours_46 rfl rfl ?_
    cases h
    exact q_ireturn dX12_hours_47 rfl hQ
  · rw [if_pos (show q3709.1 = 0 from g)] at h
    refine q_iconst dX12_hours_8 rfl rfl ?_
    cases h
    exact q_ireturn dX12_hours_9 rfl hQ
set_option maxRecDepth 20000 in
theorem M_leftAhead_ok {X : qX} (hL : ∀ c, c < 93 → c ∈ qLs X) (d : Nat) (a1 : Int) (a2 : Int) (S : qSto) (o : (Int × qSto)) (h : M_leftAhead a1 a2 S = some o) (Q : Option qV → qSto → Prop) (hQ : Q (some (qi o.1)) o.2) : qC X (d + 1) yX12_leftAhead cX12_leftAhead 5 (some .int) [qr 70, qi a1, qi a2] S Q := by
  refine q_entry (lv := [(0, qr 70), (1, qi a1), (2, qi a2)]) pn_X12 (Nat.le_of_ble_eq_true rfl) rfl ?_
  unfold M_leftAhead at h
  refine q_aload_n dX12_leftAhead_0 rfl rfl ?_
  refine q_iload_n dX12_leftAhead_1 rfl rfl ?_
  refine q_iconst dX12_leftAhead_2 rfl rfl ?_
  obtain ⟨q3725, h3726, h⟩ := Option.bind_eq_some_iff.mp h
  refine q_callVi (as := [qi a1, qi 3]) (c := 70) dX12_leftAhead_3 ml_X12_316 rfl rfl (hL 70 (by decide)) sh_70 rfl rfl (Nat.le_of_ble_eq_true rfl) (M_of_ok hL d a1 3 _ _ h3726) rfl ?_
  refine q_istore_n (lv' := [(3, qi q3725.1), (0, qr 70), (1, qi a1), (2, qi a2)]) dX12_leftAhead_6 (by decide) rfl rfl ?_
  refine q_aload_n dX12_leftAhead_7 rfl rfl ?_
  refine q_iload_n dX12_leftAhead_8 rfl rfl ?_
  obtain ⟨q3727, h3728, h⟩ := Option.bind_eq_some_iff.mp h
  refine q_callVi (as := [qi a1]) (c := 70) dX12_leftAhead_9 ml_X12_326 rfl rfl (hL 70 (by decide)) sh_70 rfl rfl (Nat.le_of_ble_eq_true rfl) (M_stays_ok hL d a1 _ _ h3728) rfl ?_
  obtain ⟨c3729, h⟩ := qk_some h
  refine q_if_eq (tgt := 25) dX12_leftAhead_12 (by decide) rfl (qRb_R c3729)  (fun g => ?_) (fun g => ?_)
  · rw [if_pos (show q3727.1 = 0 from g)] at h
    refine q_iload_n dX12_leftAhead_25 rfl rfl ?_
    cases h
    exact q_ireturn dX12_leftAhead_26 rfl hQ
  · rw [if_neg (show ¬ (q3727.1 = 0) from g)] at h
    refine q_iload_n dX12_leftAhead_15 rfl rfl ?_
    refine q_aload_n dX12_leftAhead_16 rfl rfl ?_
    refine q_getA dX12_leftAhead_17 fl_X12_39 (hL 70 (by decide)) sh_70 (by decide) rfl rfl ?_
    refine q_iload_n dX12_leftAhead_20 rfl rfl ?_
    obtain ⟨c3730, h⟩ := qk_some h
    refine q_iaload dX12_leftAhead_21 (hL 79 (by decide)) sh_79 (qIx_0 c3730) (qIx_1 c3730) rfl ?_
    obtain ⟨c3731, h⟩ := qk_some h
    obtain ⟨c3732, h⟩ := qk_some h
    refine q_icmp_gt (tgt := 27) dX12_leftAhead_22 (by decide) rfl (qRb_R c3731) (qRb_R c3732) (fun g => ?_) (fun g => ?_)
    · rw [if_pos (show (q3727.2 79 (Int.toNat a1)) < a2 from g)] at h
      refine q_iload_n dX12_leftAhead_27 rfl rfl ?_
      refine q_aload_n dX12_leftAhead_28 rfl rfl ?_
      refine q_getA dX12_leftAhead_29 fl_X12_39 (hL 70 (by decide)) sh_70 (by decide) rfl rfl ?_
      refine q_iload_n dX12_leftAhead_32 rfl rfl ?_
      obtain ⟨c3733, h⟩ := qk_some h
      refine q_iaload dX12_leftAhead_33 (hL 79 (by decide)) sh_79 (qIx_0 c3733) (qIx_1 c3733) rfl ?_
      refine q_isub dX12_leftAhead_34 rfl ?_
      refine q_istore (lv' := [(4, qi (a2 - (q3727.2 79 (Int.toNat a1)))), (3, qi q3725.1), (0, qr 70), (1, qi a1), (2, qi a2)]) dX12_leftAhead_35 (by decide) rfl rfl ?_
      refine q_iload dX12_leftAhead_37 rfl rfl ?_
      refine q_aload_n dX12_leftAhead_39 rfl rfl ?_
      refine q_getA dX12_leftAhead_40 fl_X12_45 (hL 70 (by decide)) sh_70 (by decide) rfl rfl ?_
      refine q_iload_n dX12_leftAhead_43 rfl rfl ?_
      obtain ⟨c3734, h⟩ := qk_some h
      refine q_iaload dX12_leftAhead_44 (hL 81 (by decide)) sh_81 (qIx_0 c3734) (qIx_1 c3734) rfl ?_
      obtain ⟨c3735, h⟩ := qk_some h
      obtain ⟨c3736, h⟩ := qk_some h
      refine q_icmp_lt (tgt := 50) dX12_leftAhead_45 (by decide) rfl (qRb_R c3735) (qRb_R c3736) (fun g => ?_) (fun g => ?_)
      · rw [if_pos (show (a2 - (q3727.2 79 (Int.toNat a1))) < (q3727.2 81 (Int.toNat a1)) from g)] at h
        refine q_iload_n dX12_leftAhead_50 rfl rfl ?_
        refine q_iload dX12_leftAhead_51 rfl rfl ?_
        refine q_aload_n dX12_leftAhead_53 rfl rfl ?_
        refine q_aload_n dX12_leftAhead_54 rfl rfl ?_
        refine q_getA dX12_leftAhead_55 fl_X12_42 (hL 70 (by decide)) sh_70 (by decide) rfl rfl ?_
        refine q_iload_n dX12_leftAhead_58 rfl rfl ?_
        obtain ⟨c3737, h⟩ := qk_some h
        refine q_iaload dX12_leftAhead_59 (hL 80 (by decide)) sh_80 (qIx_0 c3737) (qIx_1 c3737) rfl ?_
        obtain ⟨q3738, h3739, h⟩ := Option.bind_eq_some_iff.mp h
        refine q_callVi (as := [qi (q3727.2 80 (Int.toNat a1))]) (c := 70) dX12_leftAhead_60 ml_X12_294 rfl rfl (hL 70 (by decide)) sh_70 rfl rfl (Nat.le_of_ble_eq_true rfl) (M_movesBy_ok hL d (q3727.2 80 (Int.toNat a1)) _ _ h3739) rfl ?_
        refine q_imul dX12_leftAhead_63 rfl ?_
        refine q_isub dX12_leftAhead_64 rfl ?_
        cases h
        exact q_ireturn dX12_leftAhead_65 rfl hQ
      · rw [if_neg (show ¬ ((a2 - (q3727.2 79 (Int.toNat a1))) < (q3727.2 81 (Int.toNat a1))) from g)] at h
        refine q_iconst dX12_leftAhead_48 rfl rfl ?_
        cases h
        exact q_ireturn dX12_leftAhead_49 rfl hQ
    · rw [if_neg (show ¬ ((q3727.2 79 (Int.toNat a1)) < a2) from g)] at h
      refine q_iload_n dX12_leftAhead_25 rfl rfl ?_
      cases h
      exact q_ireturn dX12_leftAhead_26 rfl hQ
set_option maxRecDepth 20000 in
theorem M_left_ok {X : qX} (hL : ∀ c, c < 93 → c ∈ qLs X) (d : Nat) (a1 : Int) (a2 : Int) (S : qSto) (o : (Int × qSto)) (h : M_left a1 a2 S = some o) (Q : Option qV → qSto → Prop) (hQ : Q (some (qi o.1)) o.2) : qC X (d + 2) yX12_left cX12_left 3 (some .int) [qr 70, qi a1, qi a2] S Q := by
  refine q_entry (lv := [(0, qr 70), (1, qi a1), (2, qi a2)]) pn_X12 (Nat.le_of_ble_eq_true rfl) rfl ?_
  unfold M_left at h
  refine q_aload_n dX12_left_0 rfl rfl ?_
  refine q_iload_n dX12_left_1 rfl rfl ?_
  obtain ⟨q3719, h3720, h⟩ := Option.bind_eq_some_iff.mp h
  refine q_callVi (as := [qi a1]) (c := 70) dX12_left_2 ml_X12_297 rfl rfl (hL 70 (by decide)) sh_70 rfl rfl (Nat.le_of_ble_eq_true rfl) (M_isShip_ok hL d a1 _ _ h3720) rfl ?_
  obtain ⟨c3721, h⟩ := qk_some h
  refine q_if_eq (tgt := 24) dX12_left_5 (by decide) rfl (qRb_R c3721)  (fun g => ?_) (fun g => ?_)
  · rw [if_pos (show q3719.1 = 0 from g)] at h
    refine q_iconst dX12_left_24 rfl rfl ?_
    cases h
    exact q_ireturn dX12_left_25 rfl hQ
  · rw [if_neg (show ¬ (q3719.1 = 0) from g)] at h
    refine q_iload_n dX12_left_8 rfl rfl ?_
    obtain ⟨q3722, h3723, h⟩ := Option.bind_eq_some_iff.mp h
    refine q_callSi (as := [qi a2]) dX12_left_9 ml_X12_283 rfl rfl (Nat.le_of_ble_eq_true rfl) (M_isSlot_ok hL d a2 _ _ h3723) rfl ?_
    obtain ⟨c3724, h⟩ := qk_some h
    refine q_if_eq (tgt := 24) dX12_left_12 (by decide) rfl (qRb_R c3724)  (fun g => ?_) (fun g => ?_)
    · rw [if_pos (show q3722.1 = 0 from g)] at h
      refine q_iconst dX12_left_24 rfl rfl ?_
      cases h
      exact q_ireturn dX12_left_25 rfl hQ
    · rw [if_neg (show ¬ (q3722.1 = 0) from g)] at h
      refine q_aload_n dX12_left_15 rfl rfl ?_
      refine q_iload_n dX12_left_16 rfl rfl ?_
      refine q_iload_n dX12_left_17 rfl rfl ?_
      obtain ⟨q3740, h3741, h⟩ := Option.bind_eq_some_iff.mp h
      refine q_callVi (as := [qi a1, qi a2]) (c := 70) dX12_left_18 ml_X12_486 rfl rfl (hL 70 (by decide)) sh_70 rfl rfl (Nat.le_of_ble_eq_true rfl) (M_leftAhead_ok hL d a1 a2 _ _ h3741) rfl ?_
      refine q_goto (pc' := 25) dX12_left_21 (by decide) ?_
      cases h
      exact q_ireturn dX12_left_25 rfl hQ
set_option maxRecDepth 20000 in
theorem M_boxesIn_L4_ok {X : qX} (hL : ∀ c, c < 93 → c ∈ qLs X) (d : Nat) {Q : Option qV → qSto → Prop} : ∀ (n : Nat) (x1 : Int) (x2 : Int) (x3 : Int) (S : qSto) (o : (Int × qSto)), M_boxesIn_L4 n x1 x2 x3 S = some o → (qW X (d + 2) yX12_boxesIn cX12_boxesIn 4 (some .int) 46 [(2, qi o.1)] [] o.2 Q) → qW X (d + 2) yX12_boxesIn cX12_boxesIn 4 (some .int) 4 [(0, qr 70), (1, qi x1), (2, qi x2), (3, qi x3)] [] S Q := by
  intro n
  induction n with
  | zero =>
    intro x1 x2 x3 S o h
    simp [M_boxesIn_L4] at h
  | succ n ih =>
    intro x1 x2 x3 S o h hE
    rw [M_boxesIn_L4] at h
    refine q_iload_n dX12_boxesIn_4 rfl rfl ?_
    refine q_aload_n dX12_boxesIn_5 rfl rfl ?_
    refine q_getA dX12_boxesIn_6 fl_X12_13 (hL 70 (by decide)) sh_70 (by decide) rfl rfl ?_
    refine q_bipush dX12_boxesIn_9 (by decide) rfl ?_
    refine q_iaload dX12_boxesIn_11 (hL 72 (by decide)) sh_72 (by decide) (by decide) rfl ?_
    obtain ⟨c3750, h⟩ := qk_some h
    obtain ⟨c3751, h⟩ := qk_some h
    refine q_icmp_ge (tgt := 46) dX12_boxesIn_12 (by decide) rfl (qRb_R c3750) (qRb_R c3751) (fun g => ?_) (fun g => ?_)
    · rw [if_pos (show (S 72 9) ≤ x3 from g)] at h
      cases h
      exact q_pick [2] rfl (hE)
    · rw [if_neg (show ¬ ((S 72 9) ≤ x3) from g)] at h
      refine q_iload_n dX12_boxesIn_15 rfl rfl ?_
      refine q_aload_n dX12_boxesIn_16 rfl rfl ?_
      refine q_iload_n dX12_boxesIn_17 rfl rfl ?_
      refine q_bipush dX12_boxesIn_18 (by decide) rfl ?_
      refine q_iload_n dX12_boxesIn_20 rfl rfl ?_
      refine q_imul dX12_boxesIn_21 rfl ?_
      obtain ⟨q3752, h3753, h⟩ := Option.bind_eq_some_iff.mp h
      refine q_callVi (as := [qi x3, qi (16 * x1)]) (c := 70) dX12_boxesIn_22 ml_X12_486 rfl rfl (hL 70 (by decide)) sh_70 rfl rfl (Nat.le_of_ble_eq_true rfl) (M_leftAhead_ok hL d x3 (16 * x1) _ _ h3753) rfl ?_
      refine q_iadd dX12_boxesIn_25 rfl ?_
      refine q_aload_n dX12_boxesIn_26 rfl rfl ?_
      refine q_iload_n dX12_boxesIn_27 rfl rfl ?_
      refine q_bipush dX12_boxesIn_28 (by decide) rfl ?_
      refine q_iload_n dX12_boxesIn_30 rfl rfl ?_
      refine q_imul dX12_boxesIn_31 rfl ?_
      refine q_bipush dX12_boxesIn_32 (by decide) rfl ?_
      refine q_iadd dX12_boxesIn_34 rfl ?_
      obtain ⟨q3754, h3755, h⟩ := Option.bind_eq_some_iff.mp h
      refine q_callVi (as := [qi x3, qi ((16 * x1) + 16)]) (c := 70) dX12_boxesIn_35 ml_X12_486 rfl rfl (hL 70 (by decide)) sh_70 rfl rfl (Nat.le_of_ble_eq_true rfl) (M_leftAhead_ok hL d x3 ((16 * x1) + 16) _ _ h3755) rfl ?_
      refine q_isub dX12_boxesIn_38 rfl ?_
      refine q_istore_n (lv' := [(2, qi ((x2 + q3752.1) - q3754.1)), (0, qr 70), (1, qi x1), (3, qi x3)]) dX12_boxesIn_39 (by decide) rfl rfl ?_
      refine q_iinc (lv' := [(3, qi (x3 + 1)), (2, qi ((x2 + q3752.1) - q3754.1)), (0, qr 70), (1, qi x1)]) dX12_boxesIn_40 (by decide) rfl rfl rfl ?_
      refine q_goto (pc' := 4) dX12_boxesIn_43 (by decide) ?_
      exact q_pick [2, 3, 1, 0] rfl (ih x1 ((x2 + q3752.1) - q3754.1) (x3 + 1) _ _ h hE)
set_option maxRecDepth 20000 in
theorem M_boxesIn_ok {X : qX} (hL : ∀ c, c < 93 → c ∈ qLs X) (d : Nat) (a1 : Int) (S : qSto) (o : (Int × qSto)) (h : M_boxesIn a1 S = some o) (Q : Option qV → qSto → Prop) (hQ : Q (some (qi o.1)) o.2) : qC X (d + 2) yX12_boxesIn cX12_boxesIn 4 (some .int) [qr 70, qi a1] S Q := by
  refine q_entry (lv := [(0, qr 70), (1, qi a1)]) pn_X12 (Nat.le_of_ble_eq_true rfl) rfl ?_
  unfold M_boxesIn at h
  refine q_iconst dX12_boxesIn_0 rfl rfl ?_
  refine q_istore_n (lv' := [(2, qi 0), (0, qr 70), (1, qi a1)]) dX12_boxesIn_1 (by decide) rfl rfl ?_
  refine q_iconst dX12_boxesIn_2 rfl rfl ?_
  refine q_istore_n (lv' := [(3, qi 0), (2, qi 0), (0, qr 70), (1, qi a1)]) dX12_boxesIn_3 (by decide) rfl rfl ?_
  obtain ⟨q3756, h3757, h⟩ := Option.bind_eq_some_iff.mp h
  refine q_pick [2, 3, 1, 0] rfl (M_boxesIn_L4_ok hL d qF a1 0 0 _ _ h3757 ?_)
  refine q_iload_n dX12_boxesIn_46 rfl rfl ?_
  cases h
  exact q_ireturn dX12_boxesIn_47 rfl hQ
set_option maxRecDepth 20000 in
theorem M_mostCranes_L7_ok {X : qX} (hL : ∀ c, c < 93 → c ∈ qLs X) (d : Nat) {Q : Option qV → qSto → Prop} : ∀ (n : Nat) (x1 : Int) (x2 : Int) (x3 : Int) (S : qSto) (o : (Int × qSto)), M_mostCranes_L7 n x1 x2 x3 S = some o → (qW X (d + 3) yX12_mostCranes cX12_mostCranes 4 (some .int) 43 [(2, qi o.1)] [] o.2 Q) → qW X (d + 3) yX12_mostCranes cX12_mostCranes 4 (some .int) 7 [(0, qr 70), (1, qi x1), (2, qi x2), (3, qi x3)] [] S Q := by
  intro n
  induction n with
  | zero =>
    intro x1 x2 x3 S o h
    simp [M_mostCranes_L7] at h
  | succ n ih =>
    intro x1 x2 x3 S o h hE
    rw [M_mostCranes_L7] at h
    refine q_iload_n dX12_mostCranes_7 rfl rfl ?_
    refine q_bipush dX12_mostCranes_8 (by decide) rfl ?_
    refine q_iload_n dX12_mostCranes_10 rfl rfl ?_
    refine q_imul dX12_mostCranes_11 rfl ?_
    refine q_bipush dX12_mostCranes_12 (by decide) rfl ?_
    refine q_iadd dX12_mostCranes_14 rfl ?_
    obtain ⟨c3760, h⟩ := qk_some h
    obtain ⟨c3761, h⟩ := qk_some h
    refine q_icmp_ge (tgt := 43) dX12_mostCranes_15 (by decide) rfl (qRb_R c3760) (qRb_R c3761) (fun g => ?_) (fun g => ?_)
    · rw [if_pos (show ((16 * x1) + 16) ≤ x3 from g)] at h
      cases h
      exact q_pick [2] rfl (hE)
    · rw [if_neg (show ¬ (((16 * x1) + 16) ≤ x3) from g)] at h
      refine q_aload_n dX12_mostCranes_18 rfl rfl ?_
      refine q_iload_n dX12_mostCranes_19 rfl rfl ?_
      obtain ⟨q3762, h3763, h⟩ := Option.bind_eq_some_iff.mp h
      refine q_callVi (as := [qi x3]) (c := 70) dX12_mostCranes_20 ml_X12_358 rfl rfl (hL 70 (by decide)) sh_70 rfl rfl (Nat.le_of_ble_eq_true rfl) (M_cranesIn_ok hL d x3 _ _ h3763) rfl ?_
      refine q_iload_n dX12_mostCranes_23 rfl rfl ?_
      refine q_jn (G := fun (t3768 : (Int × qSto)) => qW X (d + 3) yX12_mostCranes cX12_mostCranes 4 (some .int) 36 [(0, qr 70), (1, qi x1), (3, qi x3)] [qi t3768.1] t3768.2 Q) h (fun t3768 h => ?_) (fun t3768 h hk4274 => ?_)
      · try dsimp only at h
        refine q_istore_n (lv' := [(2, qi t3768.1), (0, qr 70), (1, qi x1), (3, qi x3)]) dX12_mostCranes_36 (by decide) rfl rfl ?_
        refine q_iinc (lv' := [(3, qi (x3 + 1)), (2, qi t3768.1), (0, qr 70), (1, qi x1)]) dX12_mostCranes_37 (by decide) rfl rfl rfl ?_
        refine q_goto (pc' := 7) dX12_mostCranes_40 (by decide) ?_
        exact q_pick [2, 3, 1, 0] rfl (ih x1 t3768.1 (x3 + 1) _ _ h hE)
      · skip
        obtain ⟨c3764, h⟩ := qk_some h
        obtain ⟨c3765, h⟩ := qk_some h
        refine q_icmp_le (tgt := 35) dX12_mostCranes_24 (by decide) rfl (qRb_R c3764) (qRb_R c3765) (fun g => ?_) (fun g => ?_)
        · rw [if_pos (show q3762.1 ≤ x2 from g)] at h
          refine q_iload_n dX12_mostCranes_35 rfl rfl ?_
          cases h
          exact q_pick [0, 1, 3] rfl hk4274
        · rw [if_neg (show ¬ (q3762.1 ≤ x2) from g)] at h
          refine q_aload_n dX12_mostCranes_27 rfl rfl ?_
          refine q_iload_n dX12_mostCranes_28 rfl rfl ?_
          obtain ⟨q3766, h3767, h⟩ := Option.bind_eq_some_iff.mp h
          refine q_callVi (as := [qi x3]) (c := 70) dX12_mostCranes_29 ml_X12_358 rfl rfl (hL 70 (by decide)) sh_70 rfl rfl (Nat.le_of_ble_eq_true rfl) (M_cranesIn_ok hL d x3 _ _ h3767) rfl ?_
          refine q_goto (pc' := 36) dX12_mostCranes_32 (by decide) ?_
          cases h
          exact q_pick [0, 1, 3] rfl hk4274
set_option maxRecDepth 20000 in
theorem M_mostCranes_ok {X : qX} (hL : ∀ c, c < 93 → c ∈ qLs X) (d : Nat) (a1 : Int) (S : qSto) (o : (Int × qSto)) (h : M_mostCranes a1 S = some o) (Q : Option qV → qSto → Prop) (hQ : Q (some (qi o.1)) o.2) : qC X (d + 3) yX12_mostCranes cX12_mostCranes 4 (some .int) [qr 70, qi a1] S Q := by
  refine q_entry (lv := [(0, qr 70), (1, qi a1)]) pn_X12 (Nat.le_of_ble_eq_true rfl) rfl ?_
  unfold M_mostCranes at h
  refine q_iconst dX12_mostCranes_0 rfl rfl ?_
  refine q_istore_n (lv' := [(2, qi 0), (0, qr 70), (1, qi a1)]) dX12_mostCranes_1 (by decide) rfl rfl ?_
  refine q_bipush dX12_mostCranes_2 (by decide) rfl ?_
  refine q_iload_n dX12_mostCranes_4 rfl rfl ?_
  refine q_imul dX12_mostCranes_5 rfl ?_
  refine q_istore_n (lv' := [(3, qi (16 * a1)), (2, qi 0), (0, qr 70), (1, qi a1)]) dX12_mostCranes_6 (by decide) rfl rfl ?_
  obtain ⟨q3769, h3770, h⟩ := Option.bind_eq_some_iff.mp h
  refine q_pick [2, 3, 1, 0] rfl (M_mostCranes_L7_ok hL d qF a1 0 (16 * a1) _ _ h3770 ?_)
  refine q_iload_n dX12_mostCranes_43 rfl rfl ?_
  cases h
  exact q_ireturn dX12_mostCranes_44 rfl hQ
set_option maxRecDepth 20000 in
theorem M_craneSlots_L7_ok {X : qX} (hL : ∀ c, c < 93 → c ∈ qLs X) (d : Nat) {Q : Option qV → qSto → Prop} : ∀ (n : Nat) (x1 : Int) (x2 : Int) (x3 : Int) (S : qSto) (o : (Int × qSto)), M_craneSlots_L7 n x1 x2 x3 S = some o → (qW X (d + 3) yX12_craneSlots cX12_craneSlots 4 (some .int) 32 [(2, qi o.1)] [] o.2 Q) → qW X (d + 3) yX12_craneSlots cX12_craneSlots 4 (some .int) 7 [(0, qr 70), (1, qi x1), (2, qi x2), (3, qi x3)] [] S Q := by
  intro n
  induction n with
  | zero =>
    intro x1 x2 x3 S o h
    simp [M_craneSlots_L7] at h
  | succ n ih =>
    intro x1 x2 x3 S o h hE
    rw [M_craneSlots_L7] at h
    refine q_iload_n dX12_craneSlots_7 rfl rfl ?_
    refine q_bipush dX12_craneSlots_8 (by decide) rfl ?_
    refine q_iload_n dX12_craneSlots_10 rfl rfl ?_
    refine q_imul dX12_craneSlots_11 rfl ?_
    refine q_bipush dX12_craneSlots_12 (by decide) rfl ?_
    refine q_iadd dX12_craneSlots_14 rfl ?_
    obtain ⟨c3773, h⟩ := qk_some h
    obtain ⟨c3774, h⟩ := qk_some h
    refine q_icmp_ge (tgt := 32) dX12_craneSlots_15 (by decide) rfl (qRb_R c3773) (qRb_R c3774) (fun g => ?_) (fun g => ?_)
    · rw [if_pos (show ((16 * x1) + 16) ≤ x3 from g)] at h
      cases h
      exact q_pick [2] rfl (hE)
    · rw [if_neg (show ¬ (((16 * x1) + 16) ≤ x3) from g)] at h
      refine q_iload_n dX12_craneSlots_18 rfl rfl ?_
      refine q_aload_n dX12_craneSlots_19 rfl rfl ?_
      refine q_iload_n dX12_craneSlots_20 rfl rfl ?_
      obtain ⟨q3775, h3776, h⟩ := Option.bind_eq_some_iff.mp h
      refine q_callVi (as := [qi x3]) (c := 70) dX12_craneSlots_21 ml_X12_358 rfl rfl (hL 70 (by decide)) sh_70 rfl rfl (Nat.le_of_ble_eq_true rfl) (M_cranesIn_ok hL d x3 _ _ h3776) rfl ?_
      refine q_iadd dX12_craneSlots_24 rfl ?_
      refine q_istore_n (lv' := [(2, qi (x2 + q3775.1)), (0, qr 70), (1, qi x1), (3, qi x3)]) dX12_craneSlots_25 (by decide) rfl rfl ?_
      refine q_iinc (lv' := [(3, qi (x3 + 1)), (2, qi (x2 + q3775.1)), (0, qr 70), (1, qi x1)]) dX12_craneSlots_26 (by decide) rfl rfl rfl ?_
      refine q_goto (pc' := 7) dX12_craneSlots_29 (by decide) ?_
      exact q_pick [2, 3, 1, 0] rfl (ih x1 (x2 + q3775.1) (x3 + 1) _ _ h hE)
set_option maxRecDepth 20000 in
theorem M_craneSlots_ok {X : qX} (hL : ∀ c, c < 93 → c ∈ qLs X) (d : Nat) (a1 : Int) (S : qSto) (o : (Int × qSto)) (h : M_craneSlots a1 S = some o) (Q : Option qV → qSto → Prop) (hQ : Q (some (qi o.1)) o.2) : qC X (d + 3) yX12_craneSlots cX12_craneSlots 4 (some .int) [qr 70, qi a1] S Q := by
  refine q_entry (lv := [(0, qr 70), (1, qi a1)]) pn_X12 (Nat.le_of_ble_eq_true rfl) rfl ?_
  unfold M_craneSlots at h
  refine q_iconst dX12_craneSlots_0 rfl rfl ?_
  refine q_istore_n (lv' := [(2, qi 0), (0, qr 70), (1, qi a1)]) dX12_craneSlots_1 (by decide) rfl rfl ?_
  refine q_bipush dX12_craneSlots_2 (by decide) rfl ?_
  refine q_iload_n dX12_craneSlots_4 rfl rfl ?_
  refine q_imul dX12_craneSlots_5 rfl ?_
  refine q_istore_n (lv' := [(3, qi (16 * a1)), (2, qi 0), (0, qr 70), (1, qi a1)]) dX12_craneSlots_6 (by decide) rfl rfl ?_
  obtain ⟨q3777, h3778, h⟩ := Option.bind_eq_some_iff.mp h
  refine q_pick [2, 3, 1, 0] rfl (M_craneSlots_L7_ok hL d qF a1 0 (16 * a1) _ _ h3778 ?_)
  refine q_iload_n dX12_craneSlots_32 rfl rfl ?_
  cases h
  exact q_ireturn dX12_craneSlots_33 rfl hQ
set_option maxRecDepth 20000 in
theorem M_shift_ok {X : qX} (hL : ∀ c, c < 93 → c ∈ qLs X) (d : Nat) (a1 : Int) (a2 : Int) (a3 : Int) (S : qSto) (o : (Int × qSto)) (h : M_shift a1 a2 a3 S = some o) (Q : Option qV → qSto → Prop) (hQ : Q (some (qi o.1)) o.2) : qC X (d + 4) yX12_shift cX12_shift 5 (some .int) [qr 70, qi a1, qi a2, qi a3] S Q := by
  refine q_entry (lv := [(0, qr 70), (1, qi a1), (2, qi a2), (3, qi a3)]) pn_X12 (Nat.le_of_ble_eq_true rfl) rfl ?_
  unfold M_shift at h
  refine q_iload_n dX12_shift_0 rfl rfl ?_
  refine q_iload_n dX12_shift_1 rfl rfl ?_
  obtain ⟨q3742, h3743, h⟩ := Option.bind_eq_some_iff.mp h
  refine q_callSi (as := [qi a1, qi a2]) dX12_shift_2 ml_X12_286 rfl rfl (Nat.le_of_ble_eq_true rfl) (M_isShift_ok hL (d + 2) a1 a2 _ _ h3743) rfl ?_
  obtain ⟨c3744, h⟩ := qk_some h
  refine q_if_eq (tgt := 20) dX12_shift_5 (by decide) rfl (qRb_R c3744)  (fun g => ?_) (fun g => ?_)
  · rw [if_pos (show q3742.1 = 0 from g)] at h
    refine q_iconst dX12_shift_20 rfl rfl ?_
    cases h
    exact q_ireturn dX12_shift_21 rfl hQ
  · rw [if_neg (show ¬ (q3742.1 = 0) from g)] at h
    refine q_iload_n dX12_shift_8 rfl rfl ?_
    obtain ⟨c3745, h⟩ := qk_some h
    refine q_i2l dX12_shift_9 (qRb_R c3745) rfl ?_
    refine q_lconst (v := 0) dX12_shift_10 rfl rfl ?_
    refine q_ldc2 (v := 3) dX12_shift_11 qw_1729 rfl ?_
    obtain ⟨q3746, h3747, h⟩ := Option.bind_eq_some_iff.mp h
    refine q_callSi (as := [ql a3, ql 0, ql 3]) dX12_shift_14 ml_X12_99 rfl rfl (Nat.le_of_ble_eq_true rfl) (M_in_ok hL (d + 3) a3 0 3 _ _ h3747) rfl ?_
    obtain ⟨c3748, h⟩ := qk_some h
    refine q_if_ne (tgt := 22) dX12_shift_17 (by decide) rfl (qRb_R c3748)  (fun g => ?_) (fun g => ?_)
    · rw [if_neg (show ¬ (q3746.1 = 0) from g)] at h
      refine q_iconst dX12_shift_22 rfl rfl ?_
      refine q_iload_n dX12_shift_23 rfl rfl ?_
      refine q_imul dX12_shift_24 rfl ?_
      refine q_iload_n dX12_shift_25 rfl rfl ?_
      refine q_iadd dX12_shift_26 rfl ?_
      refine q_istore (lv' := [(4, qi ((3 * a1) + a2)), (0, qr 70), (1, qi a1), (2, qi a2), (3, qi a3)]) dX12_shift_27 (by decide) rfl rfl ?_
      refine q_iload_n dX12_shift_29 rfl rfl ?_
      obtain ⟨c3749, h⟩ := qk_some h
      by_cases e4275 : a3 = 0
      · rw [if_pos e4275] at h
        refine q_tsw (tgt := 77) dX12_shift_30 (qRb_R c3749) (by decide) (fun g => absurd g (by rw [e4275]; decide)) (fun _ _ => ⟨26, 56, by rw [e4275]; rfl, by decide, ?_⟩)
        refine q_aload_n dX12_shift_56 rfl rfl ?_
        refine q_iload dX12_shift_57 rfl rfl ?_
        obtain ⟨q3758, h3759, h⟩ := Option.bind_eq_some_iff.mp h
        refine q_callVi (as := [qi ((3 * a1) + a2)]) (c := 70) dX12_shift_59 ml_X12_489 rfl rfl (hL 70 (by decide)) sh_70 rfl rfl (Nat.le_of_ble_eq_true rfl) (M_boxesIn_ok hL (d + 1) ((3 * a1) + a2) _ _ h3759) rfl ?_
        cases h
        exact q_ireturn dX12_shift_62 rfl hQ
      · rw [if_neg e4275] at h
        by_cases e4276 : a3 = 1
        · rw [if_pos e4276] at h
          refine q_tsw (tgt := 77) dX12_shift_30 (qRb_R c3749) (by decide) (fun g => absurd g (by rw [e4276]; decide)) (fun _ _ => ⟨33, 63, by rw [e4276]; rfl, by decide, ?_⟩)
          refine q_aload_n dX12_shift_63 rfl rfl ?_
          refine q_iload dX12_shift_64 rfl rfl ?_
          obtain ⟨q3771, h3772, h⟩ := Option.bind_eq_some_iff.mp h
          refine q_callVi (as := [qi ((3 * a1) + a2)]) (c := 70) dX12_shift_66 ml_X12_492 rfl rfl (hL 70 (by decide)) sh_70 rfl rfl (Nat.le_of_ble_eq_true rfl) (M_mostCranes_ok hL d ((3 * a1) + a2) _ _ h3772) rfl ?_
          cases h
          exact q_ireturn dX12_shift_69 rfl hQ
        · rw [if_neg e4276] at h
          by_cases e4277 : a3 = 2
          · rw [if_pos e4277] at h
            refine q_tsw (tgt := 77) dX12_shift_30 (qRb_R c3749) (by decide) (fun g => absurd g (by rw [e4277]; decide)) (fun _ _ => ⟨40, 70, by rw [e4277]; rfl, by decide, ?_⟩)
            refine q_aload_n dX12_shift_70 rfl rfl ?_
            refine q_iload dX12_shift_71 rfl rfl ?_
            obtain ⟨q3779, h3780, h⟩ := Option.bind_eq_some_iff.mp h
            refine q_callVi (as := [qi ((3 * a1) + a2)]) (c := 70) dX12_shift_73 ml_X12_495 rfl rfl (hL 70 (by decide)) sh_70 rfl rfl (Nat.le_of_ble_eq_true rfl) (M_craneSlots_ok hL d ((3 * a1) + a2) _ _ h3780) rfl ?_
            cases h
            exact q_ireturn dX12_shift_76 rfl hQ
          · rw [if_neg e4277] at h
            refine q_tsw (tgt := 77) dX12_shift_30 (qRb_R c3749) (by decide) (fun _ => ?_) (fun g1 g2 => absurd g1 (by omega))
            refine q_bipush dX12_shift_77 (by decide) rfl ?_
            refine q_aload_n dX12_shift_79 rfl rfl ?_
            refine q_iload dX12_shift_80 rfl rfl ?_
            obtain ⟨q3781, h3782, h⟩ := Option.bind_eq_some_iff.mp h
            refine q_callVi (as := [qi ((3 * a1) + a2)]) (c := 70) dX12_shift_82 ml_X12_289 rfl rfl (hL 70 (by decide)) sh_70 rfl rfl (Nat.le_of_ble_eq_true rfl) (M_gangsBy_ok hL (d + 3) ((3 * a1) + a2) _ _ h3782) rfl ?_
            refine q_imul dX12_shift_85 rfl ?_
            refine q_aload_n dX12_shift_86 rfl rfl ?_
            refine q_iload dX12_shift_87 rfl rfl ?_
            obtain ⟨q3783, h3784, h⟩ := Option.bind_eq_some_iff.mp h
            refine q_callVi (as := [qi ((3 * a1) + a2)]) (c := 70) dX12_shift_89 ml_X12_495 rfl rfl (hL 70 (by decide)) sh_70 rfl rfl (Nat.le_of_ble_eq_true rfl) (M_craneSlots_ok hL d ((3 * a1) + a2) _ _ h3784) rfl ?_
            refine q_isub dX12_shift_92 rfl ?_
            cases h
            exact q_ireturn dX12_shift_93 rfl hQ
    · rw [if_pos (show q3746.1 = 0 from g)] at h
      refine q_iconst dX12_shift_20 rfl rfl ?_
      cases h
      exact q_ireturn dX12_shift_21 rfl hQ
set_option maxRecDepth 20000 in
theorem M_busiest_L16_ok {X : qX} (hL : ∀ c, c < 93 → c ∈ qLs X) (d : Nat) {Q : Option qV → qSto → Prop} : ∀ (n : Nat) (x1 : Int) (x2 : Int) (x3 : Int) (S : qSto) (o : (Int × qSto)), M_busiest_L16 n x2 x3 S = some o → (qW X (d + 3) yX12_busiest cX12_busiest 4 (some .int) 47 [(0, qr 70), (1, qi x1), (2, qi o.1)] [] o.2 Q) → qW X (d + 3) yX12_busiest cX12_busiest 4 (some .int) 16 [(0, qr 70), (1, qi x1), (2, qi x2), (3, qi x3)] [] S Q := by
  intro n
  induction n with
  | zero =>
    intro x1 x2 x3 S o h
    simp [M_busiest_L16] at h
  | succ n ih =>
    intro x1 x2 x3 S o h hE
    rw [M_busiest_L16] at h
    refine q_iload_n dX12_busiest_16 rfl rfl ?_
    refine q_bipush dX12_busiest_17 (by decide) rfl ?_
    obtain ⟨c3789, h⟩ := qk_some h
    refine q_icmp_ge (tgt := 47) dX12_busiest_19 (by decide) rfl (qRb_R c3789) ⟨by decide, by decide⟩ (fun g => ?_) (fun g => ?_)
    · rw [if_pos (show 21 ≤ x3 from g)] at h
      cases h
      exact q_pick [0, 1, 2] rfl (hE)
    · rw [if_neg (show ¬ (21 ≤ x3) from g)] at h
      refine q_aload_n dX12_busiest_22 rfl rfl ?_
      refine q_iload_n dX12_busiest_23 rfl rfl ?_
      obtain ⟨q3790, h3791, h⟩ := Option.bind_eq_some_iff.mp h
      refine q_callVi (as := [qi x3]) (c := 70) dX12_busiest_24 ml_X12_489 rfl rfl (hL 70 (by decide)) sh_70 rfl rfl (Nat.le_of_ble_eq_true rfl) (M_boxesIn_ok hL d x3 _ _ h3791) rfl ?_
      refine q_aload_n dX12_busiest_27 rfl rfl ?_
      refine q_iload_n dX12_busiest_28 rfl rfl ?_
      obtain ⟨q3792, h3793, h⟩ := Option.bind_eq_some_iff.mp h
      refine q_callVi (as := [qi x2]) (c := 70) dX12_busiest_29 ml_X12_489 rfl rfl (hL 70 (by decide)) sh_70 rfl rfl (Nat.le_of_ble_eq_true rfl) (M_boxesIn_ok hL d x2 _ _ h3793) rfl ?_
      refine q_jn (G := fun (t3796 : Int) => qW X (d + 3) yX12_busiest cX12_busiest 4 (some .int) 40 [(0, qr 70), (1, qi x1), (3, qi x3)] [qi t3796] q3792.2 Q) h (fun t3796 h => ?_) (fun t3796 h hk4278 => ?_)
      · try dsimp only at h
        refine q_istore_n (lv' := [(2, qi t3796), (0, qr 70), (1, qi x1), (3, qi x3)]) dX12_busiest_40 (by decide) rfl rfl ?_
        refine q_iinc (lv' := [(3, qi (x3 + 1)), (2, qi t3796), (0, qr 70), (1, qi x1)]) dX12_busiest_41 (by decide) rfl rfl rfl ?_
        refine q_goto (pc' := 16) dX12_busiest_44 (by decide) ?_
        exact q_pick [2, 3, 1, 0] rfl (ih x1 t3796 (x3 + 1) _ _ h hE)
      · skip
        obtain ⟨c3794, h⟩ := qk_some h
        obtain ⟨c3795, h⟩ := qk_some h
        refine q_icmp_le (tgt := 39) dX12_busiest_32 (by decide) rfl (qRb_R c3794) (qRb_R c3795) (fun g => ?_) (fun g => ?_)
        · rw [if_pos (show q3790.1 ≤ q3792.1 from g)] at h
          refine q_iload_n dX12_busiest_39 rfl rfl ?_
          cases h
          exact q_pick [0, 1, 3] rfl hk4278
        · rw [if_neg (show ¬ (q3790.1 ≤ q3792.1) from g)] at h
          refine q_iload_n dX12_busiest_35 rfl rfl ?_
          refine q_goto (pc' := 40) dX12_busiest_36 (by decide) ?_
          cases h
          exact q_pick [0, 1, 3] rfl hk4278
set_option maxRecDepth 20000 in
theorem M_busiest_ok {X : qX} (hL : ∀ c, c < 93 → c ∈ qLs X) (d : Nat) (a1 : Int) (S : qSto) (o : (Int × qSto)) (h : M_busiest a1 S = some o) (Q : Option qV → qSto → Prop) (hQ : Q (some (qi o.1)) o.2) : qC X (d + 3) yX12_busiest cX12_busiest 4 (some .int) [qr 70, qi a1] S Q := by
  refine q_entry (lv := [(0, qr 70), (1, qi a1)]) pn_X12 (Nat.le_of_ble_eq_true rfl) rfl ?_
  unfold M_busiest at h
  refine q_iload_n dX12_busiest_0 rfl rfl ?_
  obtain ⟨c3785, h⟩ := qk_some h
  refine q_i2l dX12_busiest_1 (qRb_R c3785) rfl ?_
  refine q_lconst (v := 0) dX12_busiest_2 rfl rfl ?_
  refine q_lconst (v := 1) dX12_busiest_3 rfl rfl ?_
  obtain ⟨q3786, h3787, h⟩ := Option.bind_eq_some_iff.mp h
  refine q_callSi (as := [ql a1, ql 0, ql 1]) dX12_busiest_4 ml_X12_99 rfl rfl (Nat.le_of_ble_eq_true rfl) (M_in_ok hL (d + 2) a1 0 1 _ _ h3787) rfl ?_
  obtain ⟨c3788, h⟩ := qk_some h
  refine q_if_ne (tgt := 12) dX12_busiest_7 (by decide) rfl (qRb_R c3788)  (fun g => ?_) (fun g => ?_)
  · rw [if_neg (show ¬ (q3786.1 = 0) from g)] at h
    refine q_iconst dX12_busiest_12 rfl rfl ?_
    refine q_istore_n (lv' := [(2, qi 0), (0, qr 70), (1, qi a1)]) dX12_busiest_13 (by decide) rfl rfl ?_
    refine q_iconst dX12_busiest_14 rfl rfl ?_
    refine q_istore_n (lv' := [(3, qi 1), (2, qi 0), (0, qr 70), (1, qi a1)]) dX12_busiest_15 (by decide) rfl rfl ?_
    obtain ⟨q3797, h3798, h⟩ := Option.bind_eq_some_iff.mp h
    refine q_pick [2, 3, 1, 0] rfl (M_busiest_L16_ok hL d qF a1 0 1 _ _ h3798 ?_)
    refine q_iload_n dX12_busiest_47 rfl rfl ?_
    obtain ⟨c3799, h⟩ := qk_some h
    refine q_if_ne (tgt := 55) dX12_busiest_48 (by decide) rfl (qRb_R c3799)  (fun g => ?_) (fun g => ?_)
    · rw [if_neg (show ¬ (a1 = 0) from g)] at h
      refine q_aload_n dX12_busiest_55 rfl rfl ?_
      refine q_iload_n dX12_busiest_56 rfl rfl ?_
      obtain ⟨q3800, h3801, h⟩ := Option.bind_eq_some_iff.mp h
      refine q_callVi (as := [qi q3797.1]) (c := 70) dX12_busiest_57 ml_X12_489 rfl rfl (hL 70 (by decide)) sh_70 rfl rfl (Nat.le_of_ble_eq_true rfl) (M_boxesIn_ok hL d q3797.1 _ _ h3801) rfl ?_
      cases h
      exact q_ireturn dX12_busiest_60 rfl hQ
    · rw [if_pos (show a1 = 0 from g)] at h
      refine q_iload_n dX12_busiest_51 rfl rfl ?_
      refine q_goto (pc' := 60) dX12_busiest_52 (by decide) ?_
      cases h
      exact q_ireturn dX12_busiest_60 rfl hQ
  · rw [if_pos (show q3786.1 = 0 from g)] at h
    refine q_iconst dX12_busiest_10 rfl rfl ?_
    cases h
    exact q_ireturn dX12_busiest_11 rfl hQ
set_option maxRecDepth 20000 in
theorem M_without_L14_ok {X : qX} (hL : ∀ c, c < 93 → c ∈ qLs X) (d : Nat) {Q : Option qV → qSto → Prop} : ∀ (n : Nat) (x1 : Int) (x2 : Int) (x3 : Int) (S : qSto) (o : (Int × qSto)), M_without_L14 n x1 x2 x3 S = some o → (qW X (d + 4) yX12_without cX12_without 4 (some .int) 44 [(2, qi o.1)] [] o.2 Q) → qW X (d + 4) yX12_without cX12_without 4 (some .int) 14 [(0, qr 70), (1, qi x1), (2, qi x2), (3, qi x3)] [] S Q := by
  intro n
  induction n with
  | zero =>
    intro x1 x2 x3 S o h
    simp [M_without_L14] at h
  | succ n ih =>
    intro x1 x2 x3 S o h hE
    rw [M_without_L14] at h
    refine q_iload_n dX12_without_14 rfl rfl ?_
    refine q_sipush dX12_without_15 (by decide) rfl ?_
    obtain ⟨c3805, h⟩ := qk_some h
    refine q_icmp_ge (tgt := 44) dX12_without_18 (by decide) rfl (qRb_R c3805) ⟨by decide, by decide⟩ (fun g => ?_) (fun g => ?_)
    · rw [if_pos (show 336 ≤ x3 from g)] at h
      cases h
      exact q_pick [2] rfl (hE)
    · rw [if_neg (show ¬ (336 ≤ x3) from g)] at h
      refine q_aload_n dX12_without_21 rfl rfl ?_
      refine q_iload_n dX12_without_22 rfl rfl ?_
      refine q_iload_n dX12_without_23 rfl rfl ?_
      obtain ⟨q3806, h3807, h⟩ := Option.bind_eq_some_iff.mp h
      refine q_callVi (as := [qi x3, qi x1]) (c := 70) dX12_without_24 ml_X12_361 rfl rfl (hL 70 (by decide)) sh_70 rfl rfl (Nat.le_of_ble_eq_true rfl) (M_deals_ok hL d x3 x1 _ _ h3807) rfl ?_
      refine q_jn (G := fun (t3809 : Int) => qW X (d + 4) yX12_without cX12_without 4 (some .int) 37 [(0, qr 70), (1, qi x1), (3, qi x3)] [qi t3809] q3806.2 Q) h (fun t3809 h => ?_) (fun t3809 h hk4279 => ?_)
      · try dsimp only at h
        refine q_istore_n (lv' := [(2, qi t3809), (0, qr 70), (1, qi x1), (3, qi x3)]) dX12_without_37 (by decide) rfl rfl ?_
        refine q_iinc (lv' := [(3, qi (x3 + 1)), (2, qi t3809), (0, qr 70), (1, qi x1)]) dX12_without_38 (by decide) rfl rfl rfl ?_
        refine q_goto (pc' := 14) dX12_without_41 (by decide) ?_
        exact q_pick [2, 3, 1, 0] rfl (ih x1 t3809 (x3 + 1) _ _ h hE)
      · skip
        obtain ⟨c3808, h⟩ := qk_some h
        refine q_if_eq (tgt := 34) dX12_without_27 (by decide) rfl (qRb_R c3808)  (fun g => ?_) (fun g => ?_)
        · rw [if_pos (show q3806.1 = 0 from g)] at h
          refine q_iload_n dX12_without_34 rfl rfl ?_
          refine q_iconst dX12_without_35 rfl rfl ?_
          refine q_iadd dX12_without_36 rfl ?_
          cases h
          exact q_pick [0, 1, 3] rfl hk4279
        · rw [if_neg (show ¬ (q3806.1 = 0) from g)] at h
          refine q_iload_n dX12_without_30 rfl rfl ?_
          refine q_goto (pc' := 37) dX12_without_31 (by decide) ?_
          cases h
          exact q_pick [0, 1, 3] rfl hk4279
set_option maxRecDepth 20000 in
theorem M_without_ok {X : qX} (hL : ∀ c, c < 93 → c ∈ qLs X) (d : Nat) (a1 : Int) (S : qSto) (o : (Int × qSto)) (h : M_without a1 S = some o) (Q : Option qV → qSto → Prop) (hQ : Q (some (qi o.1)) o.2) : qC X (d + 4) yX12_without cX12_without 4 (some .int) [qr 70, qi a1] S Q := by
  refine q_entry (lv := [(0, qr 70), (1, qi a1)]) pn_X12 (Nat.le_of_ble_eq_true rfl) rfl ?_
  unfold M_without at h
  refine q_aload_n dX12_without_0 rfl rfl ?_
  refine q_iload_n dX12_without_1 rfl rfl ?_
  obtain ⟨q3802, h3803, h⟩ := Option.bind_eq_some_iff.mp h
  refine q_callVi (as := [qi a1]) (c := 70) dX12_without_2 ml_X12_480 rfl rfl (hL 70 (by decide)) sh_70 rfl rfl (Nat.le_of_ble_eq_true rfl) (M_isCrane_ok hL (d + 2) a1 _ _ h3803) rfl ?_
  obtain ⟨c3804, h⟩ := qk_some h
  refine q_if_ne (tgt := 10) dX12_without_5 (by decide) rfl (qRb_R c3804)  (fun g => ?_) (fun g => ?_)
  · rw [if_neg (show ¬ (q3802.1 = 0) from g)] at h
    refine q_iconst dX12_without_10 rfl rfl ?_
    refine q_istore_n (lv' := [(2, qi 0), (0, qr 70), (1, qi a1)]) dX12_without_11 (by decide) rfl rfl ?_
    refine q_iconst dX12_without_12 rfl rfl ?_
    refine q_istore_n (lv' := [(3, qi 0), (2, qi 0), (0, qr 70), (1, qi a1)]) dX12_without_13 (by decide) rfl rfl ?_
    obtain ⟨q3810, h3811, h⟩ := Option.bind_eq_some_iff.mp h
    refine q_pick [2, 3, 1, 0] rfl (M_without_L14_ok hL d qF a1 0 0 _ _ h3811 ?_)
    refine q_iload_n dX12_without_44 rfl rfl ?_
    cases h
    exact q_ireturn dX12_without_45 rfl hQ
  · rw [if_pos (show q3802.1 = 0 from g)] at h
    refine q_iconst dX12_without_8 rfl rfl ?_
    cases h
    exact q_ireturn dX12_without_9 rfl hQ
set_option maxRecDepth 20000 in
theorem M_used_L35_ok {X : qX} (hL : ∀ c, c < 93 → c ∈ qLs X) (d : Nat) {Q : Option qV → qSto → Prop} : ∀ (n : Nat) (x1 : Int) (x2 : Int) (x3 : Int) (x4 : Int) (S : qSto) (o : (Int × qSto)), M_used_L35 n x2 x3 x4 S = some o → (qW X (d + 2) yX12_used cX12_used 5 (some .int) 77 [(0, qr 70), (1, qi x1), (2, qi o.1), (3, qi x3)] [] o.2 Q) → qW X (d + 2) yX12_used cX12_used 5 (some .int) 35 [(0, qr 70), (1, qi x1), (2, qi x2), (3, qi x3), (4, qi x4)] [] S Q := by
  intro n
  induction n with
  | zero =>
    intro x1 x2 x3 x4 S o h
    simp [M_used_L35] at h
  | succ n ih =>
    intro x1 x2 x3 x4 S o h hE
    rw [M_used_L35] at h
    refine q_iload dX12_used_35 rfl rfl ?_
    refine q_aload_n dX12_used_37 rfl rfl ?_
    refine q_getA dX12_used_38 fl_X12_13 (hL 70 (by decide)) sh_70 (by decide) rfl rfl ?_
    refine q_bipush dX12_used_41 (by decide) rfl ?_
    refine q_iaload dX12_used_43 (hL 72 (by decide)) sh_72 (by decide) (by decide) rfl ?_
    obtain ⟨c3818, h⟩ := qk_some h
    obtain ⟨c3819, h⟩ := qk_some h
    refine q_icmp_ge (tgt := 77) dX12_used_44 (by decide) rfl (qRb_R c3818) (qRb_R c3819) (fun g => ?_) (fun g => ?_)
    · rw [if_pos (show (S 72 9) ≤ x4 from g)] at h
      cases h
      exact q_pick [0, 1, 2, 3] rfl (hE)
    · rw [if_neg (show ¬ ((S 72 9) ≤ x4) from g)] at h
      refine q_aload_n dX12_used_47 rfl rfl ?_
      refine q_iload dX12_used_48 rfl rfl ?_
      refine q_iload_n dX12_used_50 rfl rfl ?_
      obtain ⟨q3820, h3821, h⟩ := Option.bind_eq_some_iff.mp h
      refine q_callVi (as := [qi x4, qi x3]) (c := 70) dX12_used_51 ml_X12_471 rfl rfl (hL 70 (by decide)) sh_70 rfl rfl (Nat.le_of_ble_eq_true rfl) (M_isLying_ok hL d x4 x3 _ _ h3821) rfl ?_
      refine q_jn (G := fun (t3825 : (Int × qSto)) => qW X (d + 2) yX12_used cX12_used 5 (some .int) 70 [(0, qr 70), (1, qi x1), (3, qi x3), (4, qi x4)] [qi t3825.1] t3825.2 Q) h (fun t3825 h => ?_) (fun t3825 h hk4280 => ?_)
      · try dsimp only at h
        refine q_istore_n (lv' := [(2, qi t3825.1), (0, qr 70), (1, qi x1), (3, qi x3), (4, qi x4)]) dX12_used_70 (by decide) rfl rfl ?_
        refine q_iinc (lv' := [(4, qi (x4 + 1)), (2, qi t3825.1), (0, qr 70), (1, qi x1), (3, qi x3)]) dX12_used_71 (by decide) rfl rfl rfl ?_
        refine q_goto (pc' := 35) dX12_used_74 (by decide) ?_
        exact q_pick [2, 3, 1, 4, 0] rfl (ih x1 t3825.1 x3 (x4 + 1) _ _ h hE)
      · skip
        obtain ⟨c3822, h⟩ := qk_some h
        refine q_if_eq (tgt := 69) dX12_used_54 (by decide) rfl (qRb_R c3822)  (fun g => ?_) (fun g => ?_)
        · rw [if_pos (show q3820.1 = 0 from g)] at h
          refine q_iload_n dX12_used_69 rfl rfl ?_
          cases h
          exact q_pick [0, 1, 3, 4] rfl hk4280
        · rw [if_neg (show ¬ (q3820.1 = 0) from g)] at h
          refine q_iload_n dX12_used_57 rfl rfl ?_
          refine q_aload_n dX12_used_58 rfl rfl ?_
          refine q_iload dX12_used_59 rfl rfl ?_
          refine q_iconst dX12_used_61 rfl rfl ?_
          obtain ⟨q3823, h3824, h⟩ := Option.bind_eq_some_iff.mp h
          refine q_callVi (as := [qi x4, qi 0]) (c := 70) dX12_used_62 ml_X12_316 rfl rfl (hL 70 (by decide)) sh_70 rfl rfl (Nat.le_of_ble_eq_true rfl) (M_of_ok hL (d + 1) x4 0 _ _ h3824) rfl ?_
          refine q_iadd dX12_used_65 rfl ?_
          refine q_goto (pc' := 70) dX12_used_66 (by decide) ?_
          cases h
          exact q_pick [0, 1, 3, 4] rfl hk4280
set_option maxRecDepth 20000 in
theorem M_used_L21_ok {X : qX} (hL : ∀ c, c < 93 → c ∈ qLs X) (d : Nat) {Q : Option qV → qSto → Prop} : ∀ (n : Nat) (x1 : Int) (x2 : Int) (x3 : Int) (S : qSto) (o : (Int × qSto)), M_used_L21 n x1 x2 x3 S = some o → (qW X (d + 2) yX12_used cX12_used 5 (some .int) 83 [(0, qr 70), (2, qi o.1)] [] o.2 Q) → qW X (d + 2) yX12_used cX12_used 5 (some .int) 21 [(0, qr 70), (1, qi x1), (2, qi x2), (3, qi x3)] [] S Q := by
  intro n
  induction n with
  | zero =>
    intro x1 x2 x3 S o h
    simp [M_used_L21] at h
  | succ n ih =>
    intro x1 x2 x3 S o h hE
    rw [M_used_L21] at h
    refine q_iload_n dX12_used_21 rfl rfl ?_
    refine q_bipush dX12_used_22 (by decide) rfl ?_
    refine q_iload_n dX12_used_24 rfl rfl ?_
    refine q_imul dX12_used_25 rfl ?_
    refine q_bipush dX12_used_26 (by decide) rfl ?_
    refine q_iadd dX12_used_28 rfl ?_
    obtain ⟨c3816, h⟩ := qk_some h
    obtain ⟨c3817, h⟩ := qk_some h
    refine q_icmp_ge (tgt := 83) dX12_used_29 (by decide) rfl (qRb_R c3816) (qRb_R c3817) (fun g => ?_) (fun g => ?_)
    · rw [if_pos (show ((48 * x1) + 48) ≤ x3 from g)] at h
      cases h
      exact q_pick [0, 2] rfl (hE)
    · rw [if_neg (show ¬ (((48 * x1) + 48) ≤ x3) from g)] at h
      refine q_iconst dX12_used_32 rfl rfl ?_
      refine q_istore (lv' := [(4, qi 0), (0, qr 70), (1, qi x1), (2, qi x2), (3, qi x3)]) dX12_used_33 (by decide) rfl rfl ?_
      obtain ⟨q3826, h3827, h⟩ := Option.bind_eq_some_iff.mp h
      refine q_pick [1, 2, 3, 4, 0] rfl (M_used_L35_ok hL d qF x1 x2 x3 0 _ _ h3827 ?_)
      refine q_iinc (lv' := [(3, qi (x3 + 1)), (0, qr 70), (1, qi x1), (2, qi q3826.1)]) dX12_used_77 (by decide) rfl rfl rfl ?_
      refine q_goto (pc' := 21) dX12_used_80 (by decide) ?_
      exact q_pick [1, 2, 3, 0] rfl (ih x1 q3826.1 (x3 + 1) _ _ h hE)
set_option maxRecDepth 20000 in
theorem M_used_ok {X : qX} (hL : ∀ c, c < 93 → c ∈ qLs X) (d : Nat) (a1 : Int) (S : qSto) (o : (Int × qSto)) (h : M_used a1 S = some o) (Q : Option qV → qSto → Prop) (hQ : Q (some (qi o.1)) o.2) : qC X (d + 2) yX12_used cX12_used 5 (some .int) [qr 70, qi a1] S Q := by
  refine q_entry (lv := [(0, qr 70), (1, qi a1)]) pn_X12 (Nat.le_of_ble_eq_true rfl) rfl ?_
  unfold M_used at h
  refine q_iload_n dX12_used_0 rfl rfl ?_
  obtain ⟨c3812, h⟩ := qk_some h
  refine q_i2l dX12_used_1 (qRb_R c3812) rfl ?_
  refine q_lconst (v := 0) dX12_used_2 rfl rfl ?_
  refine q_ldc2 (v := 6) dX12_used_3 qw_1669 rfl ?_
  obtain ⟨q3813, h3814, h⟩ := Option.bind_eq_some_iff.mp h
  refine q_callSi (as := [ql a1, ql 0, ql 6]) dX12_used_6 ml_X12_99 rfl rfl (Nat.le_of_ble_eq_true rfl) (M_in_ok hL (d + 1) a1 0 6 _ _ h3814) rfl ?_
  obtain ⟨c3815, h⟩ := qk_some h
  refine q_if_ne (tgt := 14) dX12_used_9 (by decide) rfl (qRb_R c3815)  (fun g => ?_) (fun g => ?_)
  · rw [if_neg (show ¬ (q3813.1 = 0) from g)] at h
    refine q_iconst dX12_used_14 rfl rfl ?_
    refine q_istore_n (lv' := [(2, qi 0), (0, qr 70), (1, qi a1)]) dX12_used_15 (by decide) rfl rfl ?_
    refine q_bipush dX12_used_16 (by decide) rfl ?_
    refine q_iload_n dX12_used_18 rfl rfl ?_
    refine q_imul dX12_used_19 rfl ?_
    refine q_istore_n (lv' := [(3, qi (48 * a1)), (2, qi 0), (0, qr 70), (1, qi a1)]) dX12_used_20 (by decide) rfl rfl ?_
    obtain ⟨q3828, h3829, h⟩ := Option.bind_eq_some_iff.mp h
    refine q_pick [2, 3, 1, 0] rfl (M_used_L21_ok hL d qF a1 0 (48 * a1) _ _ h3829 ?_)
    refine q_bipush dX12_used_83 (by decide) rfl ?_
    refine q_iload_n dX12_used_85 rfl rfl ?_
    refine q_imul dX12_used_86 rfl ?_
    refine q_bipush dX12_used_87 (by decide) rfl ?_
    refine q_aload_n dX12_used_89 rfl rfl ?_
    refine q_getA dX12_used_90 fl_X12_13 (hL 70 (by decide)) sh_70 (by decide) rfl rfl ?_
    refine q_iconst dX12_used_93 rfl rfl ?_
    refine q_iaload dX12_used_94 (hL 72 (by decide)) sh_72 (by decide) (by decide) rfl ?_
    refine q_imul dX12_used_95 rfl ?_
    obtain ⟨c3830, h⟩ := qk_some h
    obtain ⟨c3831, h⟩ := qk_some h
    obtain ⟨c3832, h⟩ := qk_some h
    refine q_idiv dX12_used_96 (qRb_R c3830) (qRb_R c3831) (qNz_ne c3832) rfl ?_
    cases h
    exact q_ireturn dX12_used_97 rfl hQ
  · rw [if_pos (show q3813.1 = 0 from g)] at h
    refine q_iconst dX12_used_12 rfl rfl ?_
    cases h
    exact q_ireturn dX12_used_13 rfl hQ
set_option maxRecDepth 20000 in
theorem M_rankNumber_ok {X : qX} (hL : ∀ c, c < 93 → c ∈ qLs X) (d : Nat) (a1 : Int) (a2 : Int) (S : qSto) (o : (Int × qSto)) (h : M_rankNumber a1 a2 S = some o) (Q : Option qV → qSto → Prop) (hQ : Q (some (qi o.1)) o.2) : qC X (d + 3) yX12_rankNumber cX12_rankNumber 3 (some .int) [qr 70, qi a1, qi a2] S Q := by
  refine q_entry (lv := [(0, qr 70), (1, qi a1), (2, qi a2)]) pn_X12 (Nat.le_of_ble_eq_true rfl) rfl ?_
  unfold M_rankNumber at h
  refine q_iload_n dX12_rankNumber_0 rfl rfl ?_
  obtain ⟨c3847, h⟩ := qk_some h
  refine q_if_ne (tgt := 6) dX12_rankNumber_1 (by decide) rfl (qRb_R c3847)  (fun g => ?_) (fun g => ?_)
  · rw [if_neg (show ¬ (a2 = 0) from g)] at h
    refine q_aload_n dX12_rankNumber_6 rfl rfl ?_
    refine q_iload_n dX12_rankNumber_7 rfl rfl ?_
    obtain ⟨q3848, h3849, h⟩ := Option.bind_eq_some_iff.mp h
    refine q_callVi (as := [qi a1]) (c := 70) dX12_rankNumber_8 ml_X12_326 rfl rfl (hL 70 (by decide)) sh_70 rfl rfl (Nat.le_of_ble_eq_true rfl) (M_stays_ok hL (d + 2) a1 _ _ h3849) rfl ?_
    obtain ⟨c3850, h⟩ := qk_some h
    refine q_if_ne (tgt := 16) dX12_rankNumber_11 (by decide) rfl (qRb_R c3850)  (fun g => ?_) (fun g => ?_)
    · rw [if_neg (show ¬ (q3848.1 = 0) from g)] at h
      refine q_iload_n dX12_rankNumber_16 rfl rfl ?_
      refine q_iconst dX12_rankNumber_17 rfl rfl ?_
      obtain ⟨c3851, h⟩ := qk_some h
      refine q_icmp_ne (tgt := 25) dX12_rankNumber_18 (by decide) rfl (qRb_R c3851) ⟨by decide, by decide⟩ (fun g => ?_) (fun g => ?_)
      · rw [if_neg (show ¬ (a2 = 1) from g)] at h
        refine q_iload_n dX12_rankNumber_25 rfl rfl ?_
        refine q_iconst dX12_rankNumber_26 rfl rfl ?_
        obtain ⟨c3852, h⟩ := qk_some h
        refine q_icmp_ne (tgt := 38) dX12_rankNumber_27 (by decide) rfl (qRb_R c3852) ⟨by decide, by decide⟩ (fun g => ?_) (fun g => ?_)
        · rw [if_neg (show ¬ (a2 = 4) from g)] at h
          refine q_aload_n dX12_rankNumber_38 rfl rfl ?_
          refine q_iload_n dX12_rankNumber_39 rfl rfl ?_
          obtain ⟨q3853, h3854, h⟩ := Option.bind_eq_some_iff.mp h
          refine q_callVi (as := [qi a1]) (c := 70) dX12_rankNumber_40 ml_X12_329 rfl rfl (hL 70 (by decide)) sh_70 rfl rfl (Nat.le_of_ble_eq_true rfl) (M_lateOf_ok hL (d + 1) a1 _ _ h3854) rfl ?_
          cases h
          exact q_ireturn dX12_rankNumber_43 rfl hQ
        · rw [if_pos (show a2 = 4 from g)] at h
          refine q_aload_n dX12_rankNumber_30 rfl rfl ?_
          refine q_iload_n dX12_rankNumber_31 rfl rfl ?_
          obtain ⟨q3855, h3856, h⟩ := Option.bind_eq_some_iff.mp h
          refine q_callVi (as := [qi a1]) (c := 70) dX12_rankNumber_32 ml_X12_332 rfl rfl (hL 70 (by decide)) sh_70 rfl rfl (Nat.le_of_ble_eq_true rfl) (M_costOf_ok hL d a1 _ _ h3856) rfl ?_
          refine q_goto (pc' := 43) dX12_rankNumber_35 (by decide) ?_
          cases h
          exact q_ireturn dX12_rankNumber_43 rfl hQ
      · rw [if_pos (show a2 = 1 from g)] at h
        refine q_iconst dX12_rankNumber_21 rfl rfl ?_
        refine q_goto (pc' := 43) dX12_rankNumber_22 (by decide) ?_
        cases h
        exact q_ireturn dX12_rankNumber_43 rfl hQ
    · rw [if_pos (show q3848.1 = 0 from g)] at h
      refine q_iconst dX12_rankNumber_14 rfl rfl ?_
      cases h
      exact q_ireturn dX12_rankNumber_15 rfl hQ
  · rw [if_pos (show a2 = 0 from g)] at h
    refine q_iconst dX12_rankNumber_4 rfl rfl ?_
    cases h
    exact q_ireturn dX12_rankNumber_5 rfl hQ
set_option maxRecDepth 20000 in
theorem M_rank_L34_ok {X : qX} (hL : ∀ c, c < 93 → c ∈ qLs X) (d : Nat) {Q : Option qV → qSto → Prop} : ∀ (n : Nat) (x1 : Int) (x2 : Int) (x3 : Int) (x4 : Int) (x5 : Int) (S : qSto) (o : (Int × Int × qSto)), M_rank_L34 n x1 x2 x3 x4 x5 S = some o → (qW X (d + 4) yX12_rank cX12_rank 7 (some .int) 97 [(2, qi x2), (3, qi o.1), (4, qi o.2.1)] [] o.2.2 Q) → qW X (d + 4) yX12_rank cX12_rank 7 (some .int) 34 [(0, qr 70), (1, qi x1), (2, qi x2), (3, qi x3), (4, qi x4), (5, qi x5)] [] S Q := by
  intro n
  induction n with
  | zero =>
    intro x1 x2 x3 x4 x5 S o h
    simp [M_rank_L34] at h
  | succ n ih =>
    intro x1 x2 x3 x4 x5 S o h hE
    rw [M_rank_L34] at h
    refine q_iload dX12_rank_34 rfl rfl ?_
    refine q_aload_n dX12_rank_36 rfl rfl ?_
    refine q_getA dX12_rank_37 fl_X12_13 (hL 70 (by decide)) sh_70 (by decide) rfl rfl ?_
    refine q_bipush dX12_rank_40 (by decide) rfl ?_
    refine q_iaload dX12_rank_42 (hL 72 (by decide)) sh_72 (by decide) (by decide) rfl ?_
    obtain ⟨c3841, h⟩ := qk_some h
    obtain ⟨c3842, h⟩ := qk_some h
    refine q_icmp_ge (tgt := 97) dX12_rank_43 (by decide) rfl (qRb_R c3841) (qRb_R c3842) (fun g => ?_) (fun g => ?_)
    · rw [if_pos (show (S 72 9) ≤ x5 from g)] at h
      cases h
      exact q_pick [2, 3, 4] rfl (hE)
    · rw [if_neg (show ¬ ((S 72 9) ≤ x5) from g)] at h
      refine q_aload_n dX12_rank_46 rfl rfl ?_
      refine q_iload dX12_rank_47 rfl rfl ?_
      refine q_bipush dX12_rank_49 (by decide) rfl ?_
      obtain ⟨q3843, h3844, h⟩ := Option.bind_eq_some_iff.mp h
      refine q_callVi (as := [qi x5, qi 6]) (c := 70) dX12_rank_51 ml_X12_316 rfl rfl (hL 70 (by decide)) sh_70 rfl rfl (Nat.le_of_ble_eq_true rfl) (M_of_ok hL (d + 3) x5 6 _ _ h3844) rfl ?_
      refine q_iload_n dX12_rank_54 rfl rfl ?_
      refine q_jn (G := fun (t3862 : (Int × Int × qSto)) => qW X (d + 4) yX12_rank cX12_rank 7 (some .int) 91 [(0, qr 70), (1, qi x1), (2, qi x2), (3, qi t3862.1), (4, qi t3862.2.1), (5, qi x5)] [] t3862.2.2 Q) h (fun t3862 h => ?_) (fun t3862 h hk4281 => ?_)
      · try dsimp only at h
        refine q_iinc (lv' := [(5, qi (x5 + 1)), (0, qr 70), (1, qi x1), (2, qi x2), (3, qi t3862.1), (4, qi t3862.2.1)]) dX12_rank_91 (by decide) rfl rfl rfl ?_
        refine q_goto (pc' := 34) dX12_rank_94 (by decide) ?_
        exact q_pick [1, 2, 3, 4, 5, 0] rfl (ih x1 x2 t3862.1 t3862.2.1 (x5 + 1) _ _ h hE)
      · skip
        obtain ⟨c3845, h⟩ := qk_some h
        obtain ⟨c3846, h⟩ := qk_some h
        refine q_icmp_eq (tgt := 61) dX12_rank_55 (by decide) rfl (qRb_R c3845) (qRb_R c3846) (fun g => ?_) (fun g => ?_)
        · rw [if_pos (show q3843.1 = x1 from g)] at h
          refine q_aload_n dX12_rank_61 rfl rfl ?_
          refine q_iload dX12_rank_62 rfl rfl ?_
          refine q_iload_n dX12_rank_64 rfl rfl ?_
          obtain ⟨q3857, h3858, h⟩ := Option.bind_eq_some_iff.mp h
          refine q_callVi (as := [qi x5, qi x2]) (c := 70) dX12_rank_65 ml_X12_500 rfl rfl (hL 70 (by decide)) sh_70 rfl rfl (Nat.le_of_ble_eq_true rfl) (M_rankNumber_ok hL d x5 x2 _ _ h3858) rfl ?_
          refine q_istore (lv' := [(6, qi q3857.1), (0, qr 70), (1, qi x1), (2, qi x2), (3, qi x3), (4, qi x4), (5, qi x5)]) dX12_rank_68 (by decide) rfl rfl ?_
          refine q_iload_n dX12_rank_70 rfl rfl ?_
          refine q_iload dX12_rank_71 rfl rfl ?_
          refine q_iadd dX12_rank_73 rfl ?_
          refine q_istore_n (lv' := [(3, qi (x3 + q3857.1)), (6, qi q3857.1), (0, qr 70), (1, qi x1), (2, qi x2), (4, qi x4), (5, qi x5)]) dX12_rank_74 (by decide) rfl rfl ?_
          refine q_iload dX12_rank_75 rfl rfl ?_
          refine q_iload dX12_rank_77 rfl rfl ?_
          refine q_jn (G := fun (t3861 : Int) => qW X (d + 4) yX12_rank cX12_rank 7 (some .int) 89 [(0, qr 70), (1, qi x1), (2, qi x2), (3, qi (x3 + q3857.1)), (5, qi x5)] [qi t3861] q3857.2 Q) h (fun t3861 h => ?_) (fun t3861 h hk4282 => ?_)
          · try dsimp only at h
            refine q_istore (lv' := [(4, qi t3861), (0, qr 70), (1, qi x1), (2, qi x2), (3, qi (x3 + q3857.1)), (5, qi x5)]) dX12_rank_89 (by decide) rfl rfl ?_
            cases h
            exact q_pick [1, 2, 3, 4, 0, 5] rfl hk4281
          · skip
            obtain ⟨c3859, h⟩ := qk_some h
            obtain ⟨c3860, h⟩ := qk_some h
            refine q_icmp_le (tgt := 87) dX12_rank_79 (by decide) rfl (qRb_R c3859) (qRb_R c3860) (fun g => ?_) (fun g => ?_)
            · rw [if_pos (show q3857.1 ≤ x4 from g)] at h
              refine q_iload dX12_rank_87 rfl rfl ?_
              cases h
              exact q_pick [2, 3, 4, 0, 6] rfl hk4282
            · rw [if_neg (show ¬ (q3857.1 ≤ x4) from g)] at h
              refine q_iload dX12_rank_82 rfl rfl ?_
              refine q_goto (pc' := 89) dX12_rank_84 (by decide) ?_
              cases h
              exact q_pick [2, 3, 4, 0, 6] rfl hk4282
        · rw [if_neg (show ¬ (q3843.1 = x1) from g)] at h
          refine q_goto (pc' := 91) dX12_rank_58 (by decide) ?_
          cases h
          exact q_pick [0, 1, 2, 3, 4, 5] rfl hk4281
set_option maxRecDepth 20000 in
theorem M_rank_ok {X : qX} (hL : ∀ c, c < 93 → c ∈ qLs X) (d : Nat) (a1 : Int) (a2 : Int) (S : qSto) (o : (Int × qSto)) (h : M_rank a1 a2 S = some o) (Q : Option qV → qSto → Prop) (hQ : Q (some (qi o.1)) o.2) : qC X (d + 4) yX12_rank cX12_rank 7 (some .int) [qr 70, qi a1, qi a2] S Q := by
  refine q_entry (lv := [(0, qr 70), (1, qi a1), (2, qi a2)]) pn_X12 (Nat.le_of_ble_eq_true rfl) rfl ?_
  unfold M_rank at h
  refine q_iload_n dX12_rank_0 rfl rfl ?_
  obtain ⟨c3833, h⟩ := qk_some h
  refine q_i2l dX12_rank_1 (qRb_R c3833) rfl ?_
  refine q_lconst (v := 0) dX12_rank_2 rfl rfl ?_
  refine q_ldc2 (v := 3) dX12_rank_3 qw_1729 rfl ?_
  obtain ⟨q3834, h3835, h⟩ := Option.bind_eq_some_iff.mp h
  refine q_callSi (as := [ql a1, ql 0, ql 3]) dX12_rank_6 ml_X12_99 rfl rfl (Nat.le_of_ble_eq_true rfl) (M_in_ok hL (d + 3) a1 0 3 _ _ h3835) rfl ?_
  obtain ⟨c3836, h⟩ := qk_some h
  refine q_if_eq (tgt := 24) dX12_rank_9 (by decide) rfl (qRb_R c3836)  (fun g => ?_) (fun g => ?_)
  · rw [if_pos (show q3834.1 = 0 from g)] at h
    refine q_iconst dX12_rank_24 rfl rfl ?_
    cases h
    exact q_ireturn dX12_rank_25 rfl hQ
  · rw [if_neg (show ¬ (q3834.1 = 0) from g)] at h
    refine q_iload_n dX12_rank_12 rfl rfl ?_
    obtain ⟨c3837, h⟩ := qk_some h
    refine q_i2l dX12_rank_13 (qRb_R c3837) rfl ?_
    refine q_lconst (v := 0) dX12_rank_14 rfl rfl ?_
    refine q_ldc2 (v := 4) dX12_rank_15 qw_2043 rfl ?_
    obtain ⟨q3838, h3839, h⟩ := Option.bind_eq_some_iff.mp h
    refine q_callSi (as := [ql a2, ql 0, ql 4]) dX12_rank_18 ml_X12_99 rfl rfl (Nat.le_of_ble_eq_true rfl) (M_in_ok hL (d + 3) a2 0 4 _ _ h3839) rfl ?_
    obtain ⟨c3840, h⟩ := qk_some h
    refine q_if_ne (tgt := 26) dX12_rank_21 (by decide) rfl (qRb_R c3840)  (fun g => ?_) (fun g => ?_)
    · rw [if_neg (show ¬ (q3838.1 = 0) from g)] at h
      refine q_iconst dX12_rank_26 rfl rfl ?_
      refine q_istore_n (lv' := [(3, qi 0), (0, qr 70), (1, qi a1), (2, qi a2)]) dX12_rank_27 (by decide) rfl rfl ?_
      refine q_iconst dX12_rank_28 rfl rfl ?_
      refine q_istore (lv' := [(4, qi 0), (3, qi 0), (0, qr 70), (1, qi a1), (2, qi a2)]) dX12_rank_29 (by decide) rfl rfl ?_
      refine q_iconst dX12_rank_31 rfl rfl ?_
      refine q_istore (lv' := [(5, qi 0), (4, qi 0), (3, qi 0), (0, qr 70), (1, qi a1), (2, qi a2)]) dX12_rank_32 (by decide) rfl rfl ?_
      obtain ⟨q3863, h3864, h⟩ := Option.bind_eq_some_iff.mp h
      refine q_pick [3, 4, 5, 2, 1, 0] rfl (M_rank_L34_ok hL d qF a1 a2 0 0 0 _ _ h3864 ?_)
      refine q_iload_n dX12_rank_97 rfl rfl ?_
      refine q_iconst dX12_rank_98 rfl rfl ?_
      obtain ⟨c3865, h⟩ := qk_some h
      refine q_icmp_ne (tgt := 107) dX12_rank_99 (by decide) rfl (qRb_R c3865) ⟨by decide, by decide⟩ (fun g => ?_) (fun g => ?_)
      · rw [if_neg (show ¬ (a2 = 3) from g)] at h
        refine q_iload_n dX12_rank_107 rfl rfl ?_
        cases h
        exact q_ireturn dX12_rank_108 rfl hQ
      · rw [if_pos (show a2 = 3 from g)] at h
        refine q_iload dX12_rank_102 rfl rfl ?_
        refine q_goto (pc' := 108) dX12_rank_104 (by decide) ?_
        cases h
        exact q_ireturn dX12_rank_108 rfl hQ
    · rw [if_pos (show q3838.1 = 0 from g)] at h
      refine q_iconst dX12_rank_24 rfl rfl ?_
      cases h
      exact q_ireturn dX12_rank_25 rfl hQ
set_option maxRecDepth 20000 in
theorem M_nextLeaver_L5_ok {X : qX} (hL : ∀ c, c < 93 → c ∈ qLs X) (d : Nat) {Q : Option qV → qSto → Prop} : ∀ (n : Nat) (x1 : Int) (x2 : Int) (x3 : Int) (x4 : Int) (S : qSto) (o : (Int × qSto)), M_nextLeaver_L5 n x1 x2 x3 x4 S = some o → (qW X (d + 1) yX12_nextLeaver cX12_nextLeaver 6 (some .int) 103 [(3, qi o.1)] [] o.2 Q) → qW X (d + 1) yX12_nextLeaver cX12_nextLeaver 6 (some .int) 5 [(0, qr 70), (1, qi x1), (2, qi x2), (3, qi x3), (4, qi x4)] [] S Q := by
  intro n
  induction n with
  | zero =>
    intro x1 x2 x3 x4 S o h
    simp [M_nextLeaver_L5] at h
  | succ n ih =>
    intro x1 x2 x3 x4 S o h hE
    rw [M_nextLeaver_L5] at h
    refine q_iload dX12_nextLeaver_5 rfl rfl ?_
    refine q_aload_n dX12_nextLeaver_7 rfl rfl ?_
    refine q_getA dX12_nextLeaver_8 fl_X12_13 (hL 70 (by decide)) sh_70 (by decide) rfl rfl ?_
    refine q_bipush dX12_nextLeaver_11 (by decide) rfl ?_
    refine q_iaload dX12_nextLeaver_13 (hL 72 (by decide)) sh_72 (by decide) (by decide) rfl ?_
    obtain ⟨c3867, h⟩ := qk_some h
    obtain ⟨c3868, h⟩ := qk_some h
    refine q_icmp_ge (tgt := 103) dX12_nextLeaver_14 (by decide) rfl (qRb_R c3867) (qRb_R c3868) (fun g => ?_) (fun g => ?_)
    · rw [if_pos (show (S 72 9) ≤ x4 from g)] at h
      cases h
      exact q_pick [3] rfl (hE)
    · rw [if_neg (show ¬ ((S 72 9) ≤ x4) from g)] at h
      refine q_aload_n dX12_nextLeaver_17 rfl rfl ?_
      refine q_getA dX12_nextLeaver_18 fl_X12_48 (hL 70 (by decide)) sh_70 (by decide) rfl rfl ?_
      refine q_iload dX12_nextLeaver_21 rfl rfl ?_
      obtain ⟨c3869, h⟩ := qk_some h
      refine q_iaload dX12_nextLeaver_23 (hL 82 (by decide)) sh_82 (qIx_0 c3869) (qIx_1 c3869) rfl ?_
      refine q_iload_n dX12_nextLeaver_24 rfl rfl ?_
      refine q_jn (G := fun (t3877 : Int) => qW X (d + 1) yX12_nextLeaver cX12_nextLeaver 6 (some .int) 50 [(0, qr 70), (1, qi x1), (2, qi x2), (3, qi x3), (4, qi x4)] [qi t3877] S Q) h (fun t3877 h => ?_) (fun t3877 h hk4283 => ?_)
      · try dsimp only at h
        refine q_istore (lv' := [(5, qi t3877), (0, qr 70), (1, qi x1), (2, qi x2), (3, qi x3), (4, qi x4)]) dX12_nextLeaver_50 (by decide) rfl rfl ?_
        refine q_aload_n dX12_nextLeaver_52 rfl rfl ?_
        refine q_iload dX12_nextLeaver_53 rfl rfl ?_
        obtain ⟨q3878, h3879, h⟩ := Option.bind_eq_some_iff.mp h
        refine q_callVi (as := [qi x4]) (c := 70) dX12_nextLeaver_55 ml_X12_326 rfl rfl (hL 70 (by decide)) sh_70 rfl rfl (Nat.le_of_ble_eq_true rfl) (M_stays_ok hL d x4 _ _ h3879) rfl ?_
        refine q_jn (G := fun (t3888 : Int) => qW X (d + 1) yX12_nextLeaver cX12_nextLeaver 6 (some .int) 97 [(0, qr 70), (1, qi x1), (2, qi x2), (3, qi t3888), (4, qi x4)] [] q3878.2 Q) h (fun t3888 h => ?_) (fun t3888 h hk4284 => ?_)
        · try dsimp only at h
          refine q_iinc (lv' := [(4, qi (x4 + 1)), (0, qr 70), (1, qi x1), (2, qi x2), (3, qi t3888)]) dX12_nextLeaver_97 (by decide) rfl rfl rfl ?_
          refine q_goto (pc' := 5) dX12_nextLeaver_100 (by decide) ?_
          exact q_pick [1, 2, 3, 4, 0] rfl (ih x1 x2 t3888 (x4 + 1) _ _ h hE)
        · skip
          obtain ⟨c3880, h⟩ := qk_some h
          refine q_if_eq (tgt := 97) dX12_nextLeaver_58 (by decide) rfl (qRb_R c3880)  (fun g => ?_) (fun g => ?_)
          · rw [if_pos (show q3878.1 = 0 from g)] at h
            cases h
            exact q_pick [1, 2, 3, 4, 5] rfl hk4284
          · rw [if_neg (show ¬ (q3878.1 = 0) from g)] at h
            refine q_iload dX12_nextLeaver_61 rfl rfl ?_
            obtain ⟨c3881, h⟩ := qk_some h
            refine q_if_ne (tgt := 69) dX12_nextLeaver_63 (by decide) rfl (qRb_R c3881)  (fun g => ?_) (fun g => ?_)
            · rw [if_neg (show ¬ (t3877 = 0) from g)] at h
              refine q_iload_n dX12_nextLeaver_69 rfl rfl ?_
              refine q_iconst dX12_nextLeaver_70 rfl rfl ?_
              refine q_jn (G := fun (t3887 : Int) => qW X (d + 1) yX12_nextLeaver cX12_nextLeaver 6 (some .int) 96 [(0, qr 70), (1, qi x1), (2, qi x2), (4, qi x4)] [qi t3887] q3878.2 Q) h (fun t3887 h => ?_) (fun t3887 h hk4285 => ?_)
              · try dsimp only at h
                refine q_istore_n (lv' := [(3, qi t3887), (0, qr 70), (1, qi x1), (2, qi x2), (4, qi x4)]) dX12_nextLeaver_96 (by decide) rfl rfl ?_
                cases h
                exact q_pick [1, 2, 3, 0, 4] rfl hk4284
              · skip
                obtain ⟨c3882, h⟩ := qk_some h
                refine q_icmp_eq (tgt := 90) dX12_nextLeaver_71 (by decide) rfl (qRb_R c3882) ⟨by decide, by decide⟩ (fun g => ?_) (fun g => ?_)
                · rw [if_pos (show x3 = (-1) from g)] at h
                  refine q_iload dX12_nextLeaver_90 rfl rfl ?_
                  refine q_goto (pc' := 96) dX12_nextLeaver_92 (by decide) ?_
                  cases h
                  exact q_pick [1, 2, 3, 5] rfl hk4285
                · rw [if_neg (show ¬ (x3 = (-1)) from g)] at h
                  refine q_aload_n dX12_nextLeaver_74 rfl rfl ?_
                  refine q_getA dX12_nextLeaver_75 fl_X12_48 (hL 70 (by decide)) sh_70 (by decide) rfl rfl ?_
                  refine q_iload dX12_nextLeaver_78 rfl rfl ?_
                  obtain ⟨c3883, h⟩ := qk_some h
                  refine q_iaload dX12_nextLeaver_80 (hL 82 (by decide)) sh_82 (qIx_0 c3883) (qIx_1 c3883) rfl ?_
                  refine q_aload_n dX12_nextLeaver_81 rfl rfl ?_
                  refine q_getA dX12_nextLeaver_82 fl_X12_48 (hL 70 (by decide)) sh_70 (by decide) rfl rfl ?_
                  refine q_iload_n dX12_nextLeaver_85 rfl rfl ?_
                  obtain ⟨c3884, h⟩ := qk_some h
                  refine q_iaload dX12_nextLeaver_86 (hL 82 (by decide)) sh_82 (qIx_0 c3884) (qIx_1 c3884) rfl ?_
                  obtain ⟨c3885, h⟩ := qk_some h
                  obtain ⟨c3886, h⟩ := qk_some h
                  refine q_icmp_ge (tgt := 95) dX12_nextLeaver_87 (by decide) rfl (qRb_R c3885) (qRb_R c3886) (fun g => ?_) (fun g => ?_)
                  · rw [if_pos (show (q3878.2 82 (Int.toNat x3)) ≤ (q3878.2 82 (Int.toNat x4)) from g)] at h
                    refine q_iload_n dX12_nextLeaver_95 rfl rfl ?_
                    cases h
                    exact q_pick [1, 2, 3, 5] rfl hk4285
                  · rw [if_neg (show ¬ ((q3878.2 82 (Int.toNat x3)) ≤ (q3878.2 82 (Int.toNat x4))) from g)] at h
                    refine q_iload dX12_nextLeaver_90 rfl rfl ?_
                    refine q_goto (pc' := 96) dX12_nextLeaver_92 (by decide) ?_
                    cases h
                    exact q_pick [1, 2, 3, 5] rfl hk4285
            · rw [if_pos (show t3877 = 0 from g)] at h
              refine q_goto (pc' := 97) dX12_nextLeaver_66 (by decide) ?_
              cases h
              exact q_pick [1, 2, 3, 4, 5] rfl hk4284
      · skip
        obtain ⟨c3870, h⟩ := qk_some h
        obtain ⟨c3871, h⟩ := qk_some h
        refine q_icmp_gt (tgt := 45) dX12_nextLeaver_25 (by decide) rfl (qRb_R c3870) (qRb_R c3871) (fun g => ?_) (fun g => ?_)
        · rw [if_pos (show x1 < (S 82 (Int.toNat x4)) from g)] at h
          refine q_iconst dX12_nextLeaver_45 rfl rfl ?_
          refine q_goto (pc' := 50) dX12_nextLeaver_46 (by decide) ?_
          cases h
          exact q_pick [0, 1, 2, 3, 4] rfl hk4283
        · rw [if_neg (show ¬ (x1 < (S 82 (Int.toNat x4))) from g)] at h
          refine q_aload_n dX12_nextLeaver_28 rfl rfl ?_
          refine q_getA dX12_nextLeaver_29 fl_X12_48 (hL 70 (by decide)) sh_70 (by decide) rfl rfl ?_
          refine q_iload dX12_nextLeaver_32 rfl rfl ?_
          obtain ⟨c3872, h⟩ := qk_some h
          refine q_iaload dX12_nextLeaver_34 (hL 82 (by decide)) sh_82 (qIx_0 c3872) (qIx_1 c3872) rfl ?_
          refine q_iload_n dX12_nextLeaver_35 rfl rfl ?_
          obtain ⟨c3873, h⟩ := qk_some h
          obtain ⟨c3874, h⟩ := qk_some h
          refine q_icmp_ne (tgt := 49) dX12_nextLeaver_36 (by decide) rfl (qRb_R c3873) (qRb_R c3874) (fun g => ?_) (fun g => ?_)
          · rw [if_neg (show ¬ ((S 82 (Int.toNat x4)) = x1) from g)] at h
            refine q_iconst dX12_nextLeaver_49 rfl rfl ?_
            cases h
            exact q_pick [0, 1, 2, 3, 4] rfl hk4283
          · rw [if_pos (show (S 82 (Int.toNat x4)) = x1 from g)] at h
            refine q_iload dX12_nextLeaver_39 rfl rfl ?_
            refine q_iload_n dX12_nextLeaver_41 rfl rfl ?_
            obtain ⟨c3875, h⟩ := qk_some h
            obtain ⟨c3876, h⟩ := qk_some h
            refine q_icmp_le (tgt := 49) dX12_nextLeaver_42 (by decide) rfl (qRb_R c3875) (qRb_R c3876) (fun g => ?_) (fun g => ?_)
            · rw [if_pos (show x4 ≤ x2 from g)] at h
              refine q_iconst dX12_nextLeaver_49 rfl rfl ?_
              cases h
              exact q_pick [0, 1, 2, 3, 4] rfl hk4283
            · rw [if_neg (show ¬ (x4 ≤ x2) from g)] at h
              refine q_iconst dX12_nextLeaver_45 rfl rfl ?_
              refine q_goto (pc' := 50) dX12_nextLeaver_46 (by decide) ?_
              cases h
              exact q_pick [0, 1, 2, 3, 4] rfl hk4283
set_option maxRecDepth 20000 in
theorem M_nextLeaver_ok {X : qX} (hL : ∀ c, c < 93 → c ∈ qLs X) (d : Nat) (a1 : Int) (a2 : Int) (S : qSto) (o : (Int × qSto)) (h : M_nextLeaver a1 a2 S = some o) (Q : Option qV → qSto → Prop) (hQ : Q (some (qi o.1)) o.2) : qC X (d + 1) yX12_nextLeaver cX12_nextLeaver 6 (some .int) [qr 70, qi a1, qi a2] S Q := by
  refine q_entry (lv := [(0, qr 70), (1, qi a1), (2, qi a2)]) pn_X12 (Nat.le_of_ble_eq_true rfl) rfl ?_
  unfold M_nextLeaver at h
  refine q_iconst dX12_nextLeaver_0 rfl rfl ?_
  refine q_istore_n (lv' := [(3, qi (-1)), (0, qr 70), (1, qi a1), (2, qi a2)]) dX12_nextLeaver_1 (by decide) rfl rfl ?_
  refine q_iconst dX12_nextLeaver_2 rfl rfl ?_
  refine q_istore (lv' := [(4, qi 0), (3, qi (-1)), (0, qr 70), (1, qi a1), (2, qi a2)]) dX12_nextLeaver_3 (by decide) rfl rfl ?_
  obtain ⟨q3889, h3890, h⟩ := Option.bind_eq_some_iff.mp h
  refine q_pick [2, 3, 4, 1, 0] rfl (M_nextLeaver_L5_ok hL d qF a1 a2 (-1) 0 _ _ h3890 ?_)
  refine q_iload_n dX12_nextLeaver_103 rfl rfl ?_
  cases h
  exact q_ireturn dX12_nextLeaver_104 rfl hQ
set_option maxRecDepth 20000 in
theorem M_leaver_L15_ok {X : qX} (hL : ∀ c, c < 93 → c ∈ qLs X) (d : Nat) {Q : Option qV → qSto → Prop} : ∀ (n : Nat) (x1 : Int) (x2 : Int) (x3 : Int) (S : qSto) (o : (Int × qSto)), M_leaver_L15 n x1 x2 x3 S = some o → (qW X (d + 2) yX12_leaver cX12_leaver 4 (some .int) 43 [(2, qi o.1)] [] o.2 Q) → qW X (d + 2) yX12_leaver cX12_leaver 4 (some .int) 15 [(0, qr 70), (1, qi x1), (2, qi x2), (3, qi x3)] [] S Q := by
  intro n
  induction n with
  | zero =>
    intro x1 x2 x3 S o h
    simp [M_leaver_L15] at h
  | succ n ih =>
    intro x1 x2 x3 S o h hE
    rw [M_leaver_L15] at h
    refine q_iload_n dX12_leaver_15 rfl rfl ?_
    refine q_iload_n dX12_leaver_16 rfl rfl ?_
    obtain ⟨c3893, h⟩ := qk_some h
    obtain ⟨c3894, h⟩ := qk_some h
    refine q_icmp_ge (tgt := 43) dX12_leaver_17 (by decide) rfl (qRb_R c3893) (qRb_R c3894) (fun g => ?_) (fun g => ?_)
    · rw [if_pos (show x1 ≤ x3 from g)] at h
      cases h
      exact q_pick [2] rfl (hE)
    · rw [if_neg (show ¬ (x1 ≤ x3) from g)] at h
      refine q_iload_n dX12_leaver_20 rfl rfl ?_
      refine q_iconst dX12_leaver_21 rfl rfl ?_
      obtain ⟨c3895, h⟩ := qk_some h
      refine q_icmp_eq (tgt := 43) dX12_leaver_22 (by decide) rfl (qRb_R c3895) ⟨by decide, by decide⟩ (fun g => ?_) (fun g => ?_)
      · rw [if_pos (show x2 = (-1) from g)] at h
        cases h
        exact q_pick [2] rfl (hE)
      · rw [if_neg (show ¬ (x2 = (-1)) from g)] at h
        refine q_aload_n dX12_leaver_25 rfl rfl ?_
        refine q_aload_n dX12_leaver_26 rfl rfl ?_
        refine q_getA dX12_leaver_27 fl_X12_48 (hL 70 (by decide)) sh_70 (by decide) rfl rfl ?_
        refine q_iload_n dX12_leaver_30 rfl rfl ?_
        obtain ⟨c3896, h⟩ := qk_some h
        refine q_iaload dX12_leaver_31 (hL 82 (by decide)) sh_82 (qIx_0 c3896) (qIx_1 c3896) rfl ?_
        refine q_iload_n dX12_leaver_32 rfl rfl ?_
        obtain ⟨q3897, h3898, h⟩ := Option.bind_eq_some_iff.mp h
        refine q_callVi (as := [qi (S 82 (Int.toNat x2)), qi x2]) (c := 70) dX12_leaver_33 ml_X12_503 rfl rfl (hL 70 (by decide)) sh_70 rfl rfl (Nat.le_of_ble_eq_true rfl) (M_nextLeaver_ok hL d (S 82 (Int.toNat x2)) x2 _ _ h3898) rfl ?_
        refine q_istore_n (lv' := [(2, qi q3897.1), (0, qr 70), (1, qi x1), (3, qi x3)]) dX12_leaver_36 (by decide) rfl rfl ?_
        refine q_iinc (lv' := [(3, qi (x3 + 1)), (2, qi q3897.1), (0, qr 70), (1, qi x1)]) dX12_leaver_37 (by decide) rfl rfl rfl ?_
        refine q_goto (pc' := 15) dX12_leaver_40 (by decide) ?_
        exact q_pick [2, 3, 1, 0] rfl (ih x1 q3897.1 (x3 + 1) _ _ h hE)
set_option maxRecDepth 20000 in
theorem M_leaver_ok {X : qX} (hL : ∀ c, c < 93 → c ∈ qLs X) (d : Nat) (a1 : Int) (S : qSto) (o : (Int × qSto)) (h : M_leaver a1 S = some o) (Q : Option qV → qSto → Prop) (hQ : Q (some (qi o.1)) o.2) : qC X (d + 2) yX12_leaver cX12_leaver 4 (some .int) [qr 70, qi a1] S Q := by
  refine q_entry (lv := [(0, qr 70), (1, qi a1)]) pn_X12 (Nat.le_of_ble_eq_true rfl) rfl ?_
  unfold M_leaver at h
  refine q_iload_n dX12_leaver_0 rfl rfl ?_
  obtain ⟨c3866, h⟩ := qk_some h
  refine q_if_ge (tgt := 6) dX12_leaver_1 (by decide) rfl (qRb_R c3866)  (fun g => ?_) (fun g => ?_)
  · rw [if_pos (show 0 ≤ a1 from g)] at h
    refine q_aload_n dX12_leaver_6 rfl rfl ?_
    refine q_iconst dX12_leaver_7 rfl rfl ?_
    refine q_iconst dX12_leaver_8 rfl rfl ?_
    obtain ⟨q3891, h3892, h⟩ := Option.bind_eq_some_iff.mp h
    refine q_callVi (as := [qi (-1), qi (-1)]) (c := 70) dX12_leaver_9 ml_X12_503 rfl rfl (hL 70 (by decide)) sh_70 rfl rfl (Nat.le_of_ble_eq_true rfl) (M_nextLeaver_ok hL d (-1) (-1) _ _ h3892) rfl ?_
    refine q_istore_n (lv' := [(2, qi q3891.1), (0, qr 70), (1, qi a1)]) dX12_leaver_12 (by decide) rfl rfl ?_
    refine q_iconst dX12_leaver_13 rfl rfl ?_
    refine q_istore_n (lv' := [(3, qi 0), (2, qi q3891.1), (0, qr 70), (1, qi a1)]) dX12_leaver_14 (by decide) rfl rfl ?_
    obtain ⟨q3899, h3900, h⟩ := Option.bind_eq_some_iff.mp h
    refine q_pick [2, 3, 1, 0] rfl (M_leaver_L15_ok hL d qF a1 q3891.1 0 _ _ h3900 ?_)
    refine q_iload_n dX12_leaver_43 rfl rfl ?_
    refine q_iconst dX12_leaver_44 rfl rfl ?_
    obtain ⟨c3901, h⟩ := qk_some h
    refine q_icmp_ne (tgt := 53) dX12_leaver_45 (by decide) rfl (qRb_R c3901) ⟨by decide, by decide⟩ (fun g => ?_) (fun g => ?_)
    · rw [if_neg (show ¬ (q3899.1 = (-1)) from g)] at h
      refine q_iload_n dX12_leaver_53 rfl rfl ?_
      cases h
      exact q_ireturn dX12_leaver_54 rfl hQ
    · rw [if_pos (show q3899.1 = (-1) from g)] at h
      refine q_bipush dX12_leaver_48 (by decide) rfl ?_
      refine q_goto (pc' := 54) dX12_leaver_50 (by decide) ?_
      cases h
      exact q_ireturn dX12_leaver_54 rfl hQ
  · rw [if_neg (show ¬ (0 ≤ a1) from g)] at h
    refine q_iconst dX12_leaver_4 rfl rfl ?_
    cases h
    exact q_ireturn dX12_leaver_5 rfl hQ
set_option maxRecDepth 20000 in
theorem M_meet_L28_ok {X : qX} (hL : ∀ c, c < 93 → c ∈ qLs X) (d : Nat) {Q : Option qV → qSto → Prop} : ∀ (n : Nat) (x1 : Int) (x2 : Int) (x3 : Int) (x4 : Int) (S : qSto) (o : (Int × qSto)), M_meet_L28 n x1 x2 x3 x4 S = some o → (qW X (d + 2) yX12_meet cX12_meet 5 (some .int) 70 [(3, qi o.1)] [] o.2 Q) → qW X (d + 2) yX12_meet cX12_meet 5 (some .int) 28 [(0, qr 70), (1, qi x1), (2, qi x2), (3, qi x3), (4, qi x4)] [] S Q := by
  intro n
  induction n with
  | zero =>
    intro x1 x2 x3 x4 S o h
    simp [M_meet_L28] at h
  | succ n ih =>
    intro x1 x2 x3 x4 S o h hE
    rw [M_meet_L28] at h
    refine q_iload dX12_meet_28 rfl rfl ?_
    refine q_sipush dX12_meet_30 (by decide) rfl ?_
    obtain ⟨c3910, h⟩ := qk_some h
    refine q_icmp_ge (tgt := 70) dX12_meet_33 (by decide) rfl (qRb_R c3910) ⟨by decide, by decide⟩ (fun g => ?_) (fun g => ?_)
    · rw [if_pos (show 336 ≤ x4 from g)] at h
      cases h
      exact q_pick [3] rfl (hE)
    · rw [if_neg (show ¬ (336 ≤ x4) from g)] at h
      refine q_aload_n dX12_meet_36 rfl rfl ?_
      refine q_iload_n dX12_meet_37 rfl rfl ?_
      refine q_iload dX12_meet_38 rfl rfl ?_
      obtain ⟨q3911, h3912, h⟩ := Option.bind_eq_some_iff.mp h
      refine q_callVi (as := [qi x1, qi x4]) (c := 70) dX12_meet_40 ml_X12_471 rfl rfl (hL 70 (by decide)) sh_70 rfl rfl (Nat.le_of_ble_eq_true rfl) (M_isLying_ok hL d x1 x4 _ _ h3912) rfl ?_
      refine q_jn (G := fun (t3917 : (Int × qSto)) => qW X (d + 2) yX12_meet cX12_meet 5 (some .int) 63 [(0, qr 70), (1, qi x1), (2, qi x2), (4, qi x4)] [qi t3917.1] t3917.2 Q) h (fun t3917 h => ?_) (fun t3917 h hk4286 => ?_)
      · try dsimp only at h
        refine q_istore_n (lv' := [(3, qi t3917.1), (0, qr 70), (1, qi x1), (2, qi x2), (4, qi x4)]) dX12_meet_63 (by decide) rfl rfl ?_
        refine q_iinc (lv' := [(4, qi (x4 + 1)), (3, qi t3917.1), (0, qr 70), (1, qi x1), (2, qi x2)]) dX12_meet_64 (by decide) rfl rfl rfl ?_
        refine q_goto (pc' := 28) dX12_meet_67 (by decide) ?_
        exact q_pick [2, 3, 4, 1, 0] rfl (ih x1 x2 t3917.1 (x4 + 1) _ _ h hE)
      · skip
        obtain ⟨c3913, h⟩ := qk_some h
        refine q_if_eq (tgt := 62) dX12_meet_43 (by decide) rfl (qRb_R c3913)  (fun g => ?_) (fun g => ?_)
        · rw [if_pos (show q3911.1 = 0 from g)] at h
          refine q_iload_n dX12_meet_62 rfl rfl ?_
          cases h
          exact q_pick [0, 1, 2, 4] rfl hk4286
        · rw [if_neg (show ¬ (q3911.1 = 0) from g)] at h
          refine q_aload_n dX12_meet_46 rfl rfl ?_
          refine q_iload_n dX12_meet_47 rfl rfl ?_
          refine q_iload dX12_meet_48 rfl rfl ?_
          obtain ⟨q3914, h3915, h⟩ := Option.bind_eq_some_iff.mp h
          refine q_callVi (as := [qi x2, qi x4]) (c := 70) dX12_meet_50 ml_X12_471 rfl rfl (hL 70 (by decide)) sh_70 rfl rfl (Nat.le_of_ble_eq_true rfl) (M_isLying_ok hL d x2 x4 _ _ h3915) rfl ?_
          obtain ⟨c3916, h⟩ := qk_some h
          refine q_if_eq (tgt := 62) dX12_meet_53 (by decide) rfl (qRb_R c3916)  (fun g => ?_) (fun g => ?_)
          · rw [if_pos (show q3914.1 = 0 from g)] at h
            refine q_iload_n dX12_meet_62 rfl rfl ?_
            cases h
            exact q_pick [0, 1, 2, 4] rfl hk4286
          · rw [if_neg (show ¬ (q3914.1 = 0) from g)] at h
            refine q_iload_n dX12_meet_56 rfl rfl ?_
            refine q_iconst dX12_meet_57 rfl rfl ?_
            refine q_iadd dX12_meet_58 rfl ?_
            refine q_goto (pc' := 63) dX12_meet_59 (by decide) ?_
            cases h
            exact q_pick [0, 1, 2, 4] rfl hk4286
set_option maxRecDepth 20000 in
theorem M_meet_ok {X : qX} (hL : ∀ c, c < 93 → c ∈ qLs X) (d : Nat) (a1 : Int) (a2 : Int) (S : qSto) (o : (Int × qSto)) (h : M_meet a1 a2 S = some o) (Q : Option qV → qSto → Prop) (hQ : Q (some (qi o.1)) o.2) : qC X (d + 2) yX12_meet cX12_meet 5 (some .int) [qr 70, qi a1, qi a2] S Q := by
  refine q_entry (lv := [(0, qr 70), (1, qi a1), (2, qi a2)]) pn_X12 (Nat.le_of_ble_eq_true rfl) rfl ?_
  unfold M_meet at h
  refine q_aload_n dX12_meet_0 rfl rfl ?_
  refine q_iload_n dX12_meet_1 rfl rfl ?_
  obtain ⟨q3902, h3903, h⟩ := Option.bind_eq_some_iff.mp h
  refine q_callVi (as := [qi a1]) (c := 70) dX12_meet_2 ml_X12_297 rfl rfl (hL 70 (by decide)) sh_70 rfl rfl (Nat.le_of_ble_eq_true rfl) (M_isShip_ok hL d a1 _ _ h3903) rfl ?_
  obtain ⟨c3904, h⟩ := qk_some h
  refine q_if_eq (tgt := 21) dX12_meet_5 (by decide) rfl (qRb_R c3904)  (fun g => ?_) (fun g => ?_)
  · rw [if_pos (show q3902.1 = 0 from g)] at h
    refine q_iconst dX12_meet_21 rfl rfl ?_
    cases h
    exact q_ireturn dX12_meet_22 rfl hQ
  · rw [if_neg (show ¬ (q3902.1 = 0) from g)] at h
    refine q_aload_n dX12_meet_8 rfl rfl ?_
    refine q_iload_n dX12_meet_9 rfl rfl ?_
    obtain ⟨q3905, h3906, h⟩ := Option.bind_eq_some_iff.mp h
    refine q_callVi (as := [qi a2]) (c := 70) dX12_meet_10 ml_X12_297 rfl rfl (hL 70 (by decide)) sh_70 rfl rfl (Nat.le_of_ble_eq_true rfl) (M_isShip_ok hL d a2 _ _ h3906) rfl ?_
    obtain ⟨c3907, h⟩ := qk_some h
    refine q_if_eq (tgt := 21) dX12_meet_13 (by decide) rfl (qRb_R c3907)  (fun g => ?_) (fun g => ?_)
    · rw [if_pos (show q3905.1 = 0 from g)] at h
      refine q_iconst dX12_meet_21 rfl rfl ?_
      cases h
      exact q_ireturn dX12_meet_22 rfl hQ
    · rw [if_neg (show ¬ (q3905.1 = 0) from g)] at h
      refine q_iload_n dX12_meet_16 rfl rfl ?_
      refine q_iload_n dX12_meet_17 rfl rfl ?_
      obtain ⟨c3908, h⟩ := qk_some h
      obtain ⟨c3909, h⟩ := qk_some h
      refine q_icmp_ne (tgt := 23) dX12_meet_18 (by decide) rfl (qRb_R c3908) (qRb_R c3909) (fun g => ?_) (fun g => ?_)
      · rw [if_neg (show ¬ (a1 = a2) from g)] at h
        refine q_iconst dX12_meet_23 rfl rfl ?_
        refine q_istore_n (lv' := [(3, qi 0), (0, qr 70), (1, qi a1), (2, qi a2)]) dX12_meet_24 (by decide) rfl rfl ?_
        refine q_iconst dX12_meet_25 rfl rfl ?_
        refine q_istore (lv' := [(4, qi 0), (3, qi 0), (0, qr 70), (1, qi a1), (2, qi a2)]) dX12_meet_26 (by decide) rfl rfl ?_
        obtain ⟨q3918, h3919, h⟩ := Option.bind_eq_some_iff.mp h
        refine q_pick [2, 3, 4, 1, 0] rfl (M_meet_L28_ok hL d qF a1 a2 0 0 _ _ h3919 ?_)
        refine q_iload_n dX12_meet_70 rfl rfl ?_
        cases h
        exact q_ireturn dX12_meet_71 rfl hQ
      · rw [if_pos (show a1 = a2 from g)] at h
        refine q_iconst dX12_meet_21 rfl rfl ?_
        cases h
        exact q_ireturn dX12_meet_22 rfl hQ
set_option maxRecDepth 20000 in
theorem M_writes_ok {X : qX} (hL : ∀ c, c < 93 → c ∈ qLs X) (d : Nat) (a1 : Int) (S : qSto) (o : qSto) (h : M_writes a1 S = some o) (Q : Option qV → qSto → Prop) (hQ : Q none o) : qC X d yX12_writes cX12_writes 2 none [qr 70, qi a1] S Q := by
  refine q_entry (lv := [(0, qr 70), (1, qi a1)]) pn_X12 (Nat.le_of_ble_eq_true rfl) rfl ?_
  unfold M_writes at h
  refine q_aload_n dX12_writes_0 rfl rfl ?_
  refine q_getA dX12_writes_1 fl_X12_79 (hL 70 (by decide)) sh_70 (by decide) rfl rfl ?_
  refine q_aload_n dX12_writes_4 rfl rfl ?_
  refine q_getI dX12_writes_5 fl_X12_506 (hL 70 (by decide)) sh_70 (by decide) rfl rfl ?_
  refine q_iload_n dX12_writes_8 rfl rfl ?_
  obtain ⟨c3931, h⟩ := qk_some h
  refine q_iastore dX12_writes_9 (hL 92 (by decide)) sh_92 (qIx_0 c3931) (qIx_1 c3931) rfl ?_
  refine q_aload_n dX12_writes_10 rfl rfl ?_
  refine q_aload_n dX12_writes_11 rfl rfl ?_
  refine q_getI dX12_writes_12 fl_X12_506 (hL 70 (by decide)) sh_70 (by decide) rfl rfl ?_
  refine q_iconst dX12_writes_15 rfl rfl ?_
  refine q_iadd dX12_writes_16 rfl ?_
  refine q_putI dX12_writes_17 fl_X12_506 (hL 70 (by decide)) sh_70 (by decide) pf_12_41 pt_12_41 rfl rfl ?_
  cases h
  exact q_return dX12_writes_20 rfl hQ
set_option maxRecDepth 20000 in
theorem M_writesName_L2_ok {X : qX} (hL : ∀ c, c < 93 → c ∈ qLs X) (d : Nat) {Q : Option qV → qSto → Prop} : ∀ (n : Nat) (x1 : Int) (x2 : Int) (S : qSto) (o : qSto), M_writesName_L2 n x1 x2 S = some o → (qW X (d + 3) yX12_writesName cX12_writesName 3 none 30 [] [] o Q) → qW X (d + 3) yX12_writesName cX12_writesName 3 none 2 [(0, qr 70), (1, qi x1), (2, qi x2)] [] S Q := by
  intro n
  induction n with
  | zero =>
    intro x1 x2 S o h
    simp [M_writesName_L2] at h
  | succ n ih =>
    intro x1 x2 S o h hE
    rw [M_writesName_L2] at h
    refine q_iload_n dX12_writesName_2 rfl rfl ?_
    refine q_aload_n dX12_writesName_3 rfl rfl ?_
    refine q_iload_n dX12_writesName_4 rfl rfl ?_
    obtain ⟨q3925, h3926, h⟩ := Option.bind_eq_some_iff.mp h
    refine q_callVi (as := [qi x1]) (c := 70) dX12_writesName_5 ml_X12_302 rfl rfl (hL 70 (by decide)) sh_70 rfl rfl (Nat.le_of_ble_eq_true rfl) (M_lettersOf_ok hL (d + 2) x1 _ _ h3926) rfl ?_
    obtain ⟨c3927, h⟩ := qk_some h
    obtain ⟨c3928, h⟩ := qk_some h
    refine q_icmp_ge (tgt := 30) dX12_writesName_8 (by decide) rfl (qRb_R c3927) (qRb_R c3928) (fun g => ?_) (fun g => ?_)
    · rw [if_pos (show q3925.1 ≤ x2 from g)] at h
      cases h
      exact q_pick [] rfl (hE)
    · rw [if_neg (show ¬ (q3925.1 ≤ x2) from g)] at h
      refine q_aload_n dX12_writesName_11 rfl rfl ?_
      refine q_bipush dX12_writesName_12 (by decide) rfl ?_
      refine q_aload_n dX12_writesName_14 rfl rfl ?_
      refine q_iload_n dX12_writesName_15 rfl rfl ?_
      refine q_iload_n dX12_writesName_16 rfl rfl ?_
      obtain ⟨q3929, h3930, h⟩ := Option.bind_eq_some_iff.mp h
      refine q_callVi (as := [qi x1, qi x2]) (c := 70) dX12_writesName_17 ml_X12_512 rfl rfl (hL 70 (by decide)) sh_70 rfl rfl (Nat.le_of_ble_eq_true rfl) (M_letter_ok hL d x1 x2 _ _ h3930) rfl ?_
      refine q_iadd dX12_writesName_20 rfl ?_
      obtain ⟨q3932, h3933, h⟩ := Option.bind_eq_some_iff.mp h
      refine q_callVv (as := [qi (96 + q3929.1)]) (c := 70) dX12_writesName_21 ml_X12_509 rfl rfl (hL 70 (by decide)) sh_70 rfl rfl (Nat.le_of_ble_eq_true rfl) (M_writes_ok hL (d + 2) (96 + q3929.1) _ _ h3933) rfl ?_
      refine q_iinc (lv' := [(2, qi (x2 + 1)), (0, qr 70), (1, qi x1)]) dX12_writesName_24 (by decide) rfl rfl rfl ?_
      refine q_goto (pc' := 2) dX12_writesName_27 (by decide) ?_
      exact q_pick [1, 2, 0] rfl (ih x1 (x2 + 1) _ _ h hE)
set_option maxRecDepth 20000 in
theorem M_writesName_ok {X : qX} (hL : ∀ c, c < 93 → c ∈ qLs X) (d : Nat) (a1 : Int) (S : qSto) (o : qSto) (h : M_writesName a1 S = some o) (Q : Option qV → qSto → Prop) (hQ : Q none o) : qC X (d + 3) yX12_writesName cX12_writesName 3 none [qr 70, qi a1] S Q := by
  refine q_entry (lv := [(0, qr 70), (1, qi a1)]) pn_X12 (Nat.le_of_ble_eq_true rfl) rfl ?_
  unfold M_writesName at h
  refine q_iconst dX12_writesName_0 rfl rfl ?_
  refine q_istore_n (lv' := [(2, qi 0), (0, qr 70), (1, qi a1)]) dX12_writesName_1 (by decide) rfl rfl ?_
  obtain ⟨q3934, h3935, h⟩ := Option.bind_eq_some_iff.mp h
  refine q_pick [1, 2, 0] rfl (M_writesName_L2_ok hL d qF a1 0 _ _ h3935 ?_)
  cases h
  exact q_return dX12_writesName_30 rfl hQ
set_option maxRecDepth 20000 in
theorem M_writesNumber_L8_ok {X : qX} (hL : ∀ c, c < 93 → c ∈ qLs X) (d : Nat) {Q : Option qV → qSto → Prop} : ∀ (n : Nat) (x1 : Int) (x2 : Int) (S : qSto) (o : (Int × qSto)), M_writesNumber_L8 n x1 x2 S = some o → (qW X (d + 1) yX12_writesNumber cX12_writesNumber 3 none 24 [(0, qr 70), (1, qi x1), (2, qi o.1)] [] o.2 Q) → qW X (d + 1) yX12_writesNumber cX12_writesNumber 3 none 8 [(0, qr 70), (1, qi x1), (2, qi x2)] [] S Q := by
  intro n
  induction n with
  | zero =>
    intro x1 x2 S o h
    simp [M_writesNumber_L8] at h
  | succ n ih =>
    intro x1 x2 S o h hE
    rw [M_writesNumber_L8] at h
    refine q_iload_n dX12_writesNumber_8 rfl rfl ?_
    refine q_iload_n dX12_writesNumber_9 rfl rfl ?_
    obtain ⟨c3941, h⟩ := qk_some h
    obtain ⟨c3942, h⟩ := qk_some h
    obtain ⟨c3943, h⟩ := qk_some h
    refine q_idiv dX12_writesNumber_10 (qRb_R c3941) (qRb_R c3942) (qNz_ne c3943) rfl ?_
    refine q_bipush dX12_writesNumber_11 (by decide) rfl ?_
    obtain ⟨c3944, h⟩ := qk_some h
    refine q_icmp_le (tgt := 24) dX12_writesNumber_13 (by decide) rfl (qRb_R c3944) ⟨by decide, by decide⟩ (fun g => ?_) (fun g => ?_)
    · rw [if_pos (show (Int.tdiv x1 x2) ≤ 9 from g)] at h
      cases h
      exact q_pick [0, 1, 2] rfl (hE)
    · rw [if_neg (show ¬ ((Int.tdiv x1 x2) ≤ 9) from g)] at h
      refine q_bipush dX12_writesNumber_16 (by decide) rfl ?_
      refine q_iload_n dX12_writesNumber_18 rfl rfl ?_
      refine q_imul dX12_writesNumber_19 rfl ?_
      refine q_istore_n (lv' := [(2, qi (10 * x2)), (0, qr 70), (1, qi x1)]) dX12_writesNumber_20 (by decide) rfl rfl ?_
      refine q_goto (pc' := 8) dX12_writesNumber_21 (by decide) ?_
      exact q_pick [1, 2, 0] rfl (ih x1 (10 * x2) _ _ h hE)
set_option maxRecDepth 20000 in
theorem M_writesNumber_L24_ok {X : qX} (hL : ∀ c, c < 93 → c ∈ qLs X) (d : Nat) {Q : Option qV → qSto → Prop} : ∀ (n : Nat) (x1 : Int) (x2 : Int) (S : qSto) (o : qSto), M_writesNumber_L24 n x1 x2 S = some o → (qW X (d + 1) yX12_writesNumber cX12_writesNumber 3 none 49 [] [] o Q) → qW X (d + 1) yX12_writesNumber cX12_writesNumber 3 none 24 [(0, qr 70), (1, qi x1), (2, qi x2)] [] S Q := by
  intro n
  induction n with
  | zero =>
    intro x1 x2 S o h
    simp [M_writesNumber_L24] at h
  | succ n ih =>
    intro x1 x2 S o h hE
    rw [M_writesNumber_L24] at h
    refine q_iload_n dX12_writesNumber_24 rfl rfl ?_
    obtain ⟨c3947, h⟩ := qk_some h
    refine q_if_le (tgt := 49) dX12_writesNumber_25 (by decide) rfl (qRb_R c3947)  (fun g => ?_) (fun g => ?_)
    · rw [if_pos (show x2 ≤ 0 from g)] at h
      cases h
      exact q_pick [] rfl (hE)
    · rw [if_neg (show ¬ (x2 ≤ 0) from g)] at h
      refine q_aload_n dX12_writesNumber_28 rfl rfl ?_
      refine q_bipush dX12_writesNumber_29 (by decide) rfl ?_
      refine q_iload_n dX12_writesNumber_31 rfl rfl ?_
      refine q_iload_n dX12_writesNumber_32 rfl rfl ?_
      obtain ⟨c3948, h⟩ := qk_some h
      obtain ⟨c3949, h⟩ := qk_some h
      obtain ⟨c3950, h⟩ := qk_some h
      refine q_idiv dX12_writesNumber_33 (qRb_R c3948) (qRb_R c3949) (qNz_ne c3950) rfl ?_
      refine q_bipush dX12_writesNumber_34 (by decide) rfl ?_
      obtain ⟨c3951, h⟩ := qk_some h
      refine q_irem dX12_writesNumber_36 (qRb_R c3951) ⟨by decide, by decide⟩ (by decide) rfl ?_
      refine q_iadd dX12_writesNumber_37 rfl ?_
      obtain ⟨q3952, h3953, h⟩ := Option.bind_eq_some_iff.mp h
      refine q_callVv (as := [qi (48 + (Int.tmod (Int.tdiv x1 x2) 10))]) (c := 70) dX12_writesNumber_38 ml_X12_509 rfl rfl (hL 70 (by decide)) sh_70 rfl rfl (Nat.le_of_ble_eq_true rfl) (M_writes_ok hL d (48 + (Int.tmod (Int.tdiv x1 x2) 10)) _ _ h3953) rfl ?_
      refine q_iload_n dX12_writesNumber_41 rfl rfl ?_
      refine q_bipush dX12_writesNumber_42 (by decide) rfl ?_
      obtain ⟨c3954, h⟩ := qk_some h
      refine q_idiv dX12_writesNumber_44 (qRb_R c3954) ⟨by decide, by decide⟩ (by decide) rfl ?_
      refine q_istore_n (lv' := [(2, qi (Int.tdiv x2 10)), (0, qr 70), (1, qi x1)]) dX12_writesNumber_45 (by decide) rfl rfl ?_
      refine q_goto (pc' := 24) dX12_writesNumber_46 (by decide) ?_
      exact q_pick [1, 2, 0] rfl (ih x1 (Int.tdiv x2 10) _ _ h hE)
set_option maxRecDepth 20000 in
theorem M_writesNumber_ok {X : qX} (hL : ∀ c, c < 93 → c ∈ qLs X) (d : Nat) (a1 : Int) (S : qSto) (o : qSto) (h : M_writesNumber a1 S = some o) (Q : Option qV → qSto → Prop) (hQ : Q none o) : qC X (d + 1) yX12_writesNumber cX12_writesNumber 3 none [qr 70, qi a1] S Q := by
  refine q_entry (lv := [(0, qr 70), (1, qi a1)]) pn_X12 (Nat.le_of_ble_eq_true rfl) rfl ?_
  unfold M_writesNumber at h
  refine q_aload_n dX12_writesNumber_0 rfl rfl ?_
  refine q_bipush dX12_writesNumber_1 (by decide) rfl ?_
  obtain ⟨q3939, h3940, h⟩ := Option.bind_eq_some_iff.mp h
  refine q_callVv (as := [qi 32]) (c := 70) dX12_writesNumber_3 ml_X12_509 rfl rfl (hL 70 (by decide)) sh_70 rfl rfl (Nat.le_of_ble_eq_true rfl) (M_writes_ok hL d 32 _ _ h3940) rfl ?_
  refine q_iconst dX12_writesNumber_6 rfl rfl ?_
  refine q_istore_n (lv' := [(2, qi 1), (0, qr 70), (1, qi a1)]) dX12_writesNumber_7 (by decide) rfl rfl ?_
  obtain ⟨q3945, h3946, h⟩ := Option.bind_eq_some_iff.mp h
  refine q_pick [1, 2, 0] rfl (M_writesNumber_L8_ok hL d qF a1 1 _ _ h3946 ?_)
  obtain ⟨q3955, h3956, h⟩ := Option.bind_eq_some_iff.mp h
  refine q_pick [0, 1, 2] rfl (M_writesNumber_L24_ok hL d qF a1 q3945.1 _ _ h3956 ?_)
  cases h
  exact q_return dX12_writesNumber_49 rfl hQ
