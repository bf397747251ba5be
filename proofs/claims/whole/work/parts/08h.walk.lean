set_option maxRecDepth 20000 in
theorem M_shallow_ok {X : qX} (hL : ∀ c, c < 93 → c ∈ qLs X) (d : Nat) (a1 : Int) (a2 : Int) (S : qSto) (o : (Int × qSto)) (h : M_shallow a1 a2 S = some o) (Q : Option qV → qSto → Prop) (hQ : Q (some (qi o.1)) o.2) : qC X (d + 2) yX12_shallow cX12_shallow 3 (some .int) [qr 70, qi a1, qi a2] S Q := by
  refine q_entry (lv := [(0, qr 70), (1, qi a1), (2, qi a2)]) pn_X12 (Nat.le_of_ble_eq_true rfl) rfl ?_
  unfold M_shallow at h
  refine q_aload_n dX12_shallow_0 rfl rfl ?_
  refine q_iload_n dX12_shallow_1 rfl rfl ?_
  obtain ⟨q2227, h2228, h⟩ := Option.bind_eq_some_iff.mp h
  refine q_callVi (as := [qi a1]) (c := 70) dX12_shallow_2 ml_X12_277 rfl rfl (hL 70 (by decide)) sh_70 rfl rfl (Nat.le_of_ble_eq_true rfl) (M_isMetre_ok hL d a1 _ _ h2228) rfl ?_
  obtain ⟨c2229, h⟩ := qk_some h
  refine q_if_eq (tgt := 21) dX12_shallow_5 (by decide) rfl (qRb_R c2229)  (fun g => ?_) (fun g => ?_)
  · rw [if_pos (show q2227.1 = 0 from g)] at h
    refine q_iconst dX12_shallow_21 rfl rfl ?_
    cases h
    exact q_ireturn dX12_shallow_22 rfl hQ
  · rw [if_neg (show ¬ (q2227.1 = 0) from g)] at h
    refine q_aload_n dX12_shallow_8 rfl rfl ?_
    refine q_iload_n dX12_shallow_9 rfl rfl ?_
    obtain ⟨q2230, h2231, h⟩ := Option.bind_eq_some_iff.mp h
    refine q_callVi (as := [qi a2]) (c := 70) dX12_shallow_10 ml_X12_277 rfl rfl (hL 70 (by decide)) sh_70 rfl rfl (Nat.le_of_ble_eq_true rfl) (M_isMetre_ok hL d a2 _ _ h2231) rfl ?_
    obtain ⟨c2232, h⟩ := qk_some h
    refine q_if_eq (tgt := 21) dX12_shallow_13 (by decide) rfl (qRb_R c2232)  (fun g => ?_) (fun g => ?_)
    · rw [if_pos (show q2230.1 = 0 from g)] at h
      refine q_iconst dX12_shallow_21 rfl rfl ?_
      cases h
      exact q_ireturn dX12_shallow_22 rfl hQ
    · rw [if_neg (show ¬ (q2230.1 = 0) from g)] at h
      refine q_iload_n dX12_shallow_16 rfl rfl ?_
      refine q_iload_n dX12_shallow_17 rfl rfl ?_
      obtain ⟨c2233, h⟩ := qk_some h
      obtain ⟨c2234, h⟩ := qk_some h
      refine q_icmp_ge (tgt := 23) dX12_shallow_18 (by decide) rfl (qRb_R c2233) (qRb_R c2234) (fun g => ?_) (fun g => ?_)
      · rw [if_pos (show a1 ≤ a2 from g)] at h
        refine q_aload_n dX12_shallow_23 rfl rfl ?_
        refine q_iload_n dX12_shallow_24 rfl rfl ?_
        refine q_iload_n dX12_shallow_25 rfl rfl ?_
        obtain ⟨q2245, h2246, h⟩ := Option.bind_eq_some_iff.mp h
        refine q_callVi (as := [qi a1, qi a2]) (c := 70) dX12_shallow_26 ml_X12_280 rfl rfl (hL 70 (by decide)) sh_70 rfl rfl (Nat.le_of_ble_eq_true rfl) (M_leastDepth_ok hL (d + 1) a1 a2 _ _ h2246) rfl ?_
        cases h
        exact q_ireturn dX12_shallow_29 rfl hQ
      · rw [if_neg (show ¬ (a1 ≤ a2) from g)] at h
        refine q_iconst dX12_shallow_21 rfl rfl ?_
        cases h
        exact q_ireturn dX12_shallow_22 rfl hQ
set_option maxRecDepth 20000 in
theorem M_isSlot_ok {X : qX} (hL : ∀ c, c < 93 → c ∈ qLs X) (d : Nat) (a0 : Int) (S : qSto) (o : (Int × qSto)) (h : M_isSlot a0 S = some o) (Q : Option qV → qSto → Prop) (hQ : Q (some (qi o.1)) o.2) : qC X (d + 1) yX12_isSlot cX12_isSlot 1 (some .boolean) [qi a0] S Q := by
  refine q_entry (lv := [(0, qi a0)]) pn_X12 (Nat.le_of_ble_eq_true rfl) rfl ?_
  unfold M_isSlot at h
  refine q_iload_n dX12_isSlot_0 rfl rfl ?_
  obtain ⟨c2247, h⟩ := qk_some h
  refine q_i2l dX12_isSlot_1 (qRb_R c2247) rfl ?_
  refine q_lconst (v := 0) dX12_isSlot_2 rfl rfl ?_
  refine q_ldc2 (v := 335) dX12_isSlot_3 qw_1661 rfl ?_
  obtain ⟨q2248, h2249, h⟩ := Option.bind_eq_some_iff.mp h
  refine q_callSi (as := [ql a0, ql 0, ql 335]) dX12_isSlot_6 ml_X12_99 rfl rfl (Nat.le_of_ble_eq_true rfl) (M_in_ok hL d a0 0 335 _ _ h2249) rfl ?_
  obtain ⟨c2250, h⟩ := qk_some h
  cases h
  exact q_zreturn dX12_isSlot_9 rfl (qZb_Z c2250) hQ
set_option maxRecDepth 20000 in
theorem M_level_ok {X : qX} (hL : ∀ c, c < 93 → c ∈ qLs X) (d : Nat) (a1 : Int) (S : qSto) (o : (Int × qSto)) (h : M_level a1 S = some o) (Q : Option qV → qSto → Prop) (hQ : Q (some (qi o.1)) o.2) : qC X (d + 2) yX12_level cX12_level 2 (some .int) [qr 70, qi a1] S Q := by
  refine q_entry (lv := [(0, qr 70), (1, qi a1)]) pn_X12 (Nat.le_of_ble_eq_true rfl) rfl ?_
  unfold M_level at h
  refine q_iload_n dX12_level_0 rfl rfl ?_
  obtain ⟨q2251, h2252, h⟩ := Option.bind_eq_some_iff.mp h
  refine q_callSi (as := [qi a1]) dX12_level_1 ml_X12_283 rfl rfl (Nat.le_of_ble_eq_true rfl) (M_isSlot_ok hL d a1 _ _ h2252) rfl ?_
  obtain ⟨c2253, h⟩ := qk_some h
  refine q_if_eq (tgt := 16) dX12_level_4 (by decide) rfl (qRb_R c2253)  (fun g => ?_) (fun g => ?_)
  · rw [if_pos (show q2251.1 = 0 from g)] at h
    refine q_iconst dX12_level_16 rfl rfl ?_
    cases h
    exact q_ireturn dX12_level_17 rfl hQ
  · rw [if_neg (show ¬ (q2251.1 = 0) from g)] at h
    refine q_aload_n dX12_level_7 rfl rfl ?_
    refine q_getA dX12_level_8 fl_X12_33 (hL 70 (by decide)) sh_70 (by decide) rfl rfl ?_
    refine q_iload_n dX12_level_11 rfl rfl ?_
    obtain ⟨c2254, h⟩ := qk_some h
    refine q_iaload dX12_level_12 (hL 77 (by decide)) sh_77 (qIx_0 c2254) (qIx_1 c2254) rfl ?_
    refine q_goto (pc' := 17) dX12_level_13 (by decide) ?_
    cases h
    exact q_ireturn dX12_level_17 rfl hQ
set_option maxRecDepth 20000 in
theorem M_isShift_ok {X : qX} (hL : ∀ c, c < 93 → c ∈ qLs X) (d : Nat) (a0 : Int) (a1 : Int) (S : qSto) (o : (Int × qSto)) (h : M_isShift a0 a1 S = some o) (Q : Option qV → qSto → Prop) (hQ : Q (some (qi o.1)) o.2) : qC X (d + 1) yX12_isShift cX12_isShift 2 (some .boolean) [qi a0, qi a1] S Q := by
  refine q_entry (lv := [(0, qi a0), (1, qi a1)]) pn_X12 (Nat.le_of_ble_eq_true rfl) rfl ?_
  unfold M_isShift at h
  refine q_iload_n dX12_isShift_0 rfl rfl ?_
  obtain ⟨c2255, h⟩ := qk_some h
  refine q_i2l dX12_isShift_1 (qRb_R c2255) rfl ?_
  refine q_lconst (v := 0) dX12_isShift_2 rfl rfl ?_
  refine q_ldc2 (v := 6) dX12_isShift_3 qw_1669 rfl ?_
  obtain ⟨q2256, h2257, h⟩ := Option.bind_eq_some_iff.mp h
  refine q_callSi (as := [ql a0, ql 0, ql 6]) dX12_isShift_6 ml_X12_99 rfl rfl (Nat.le_of_ble_eq_true rfl) (M_in_ok hL d a0 0 6 _ _ h2257) rfl ?_
  obtain ⟨c2258, h⟩ := qk_some h
  refine q_if_eq (tgt := 28) dX12_isShift_9 (by decide) rfl (qRb_R c2258)  (fun g => ?_) (fun g => ?_)
  · rw [if_pos (show q2256.1 = 0 from g)] at h
    refine q_iconst dX12_isShift_28 rfl rfl ?_
    cases h
    exact q_zreturn dX12_isShift_29 rfl (by decide) hQ
  · rw [if_neg (show ¬ (q2256.1 = 0) from g)] at h
    refine q_iload_n dX12_isShift_12 rfl rfl ?_
    obtain ⟨c2259, h⟩ := qk_some h
    refine q_i2l dX12_isShift_13 (qRb_R c2259) rfl ?_
    refine q_lconst (v := 0) dX12_isShift_14 rfl rfl ?_
    refine q_ldc2 (v := 2) dX12_isShift_15 qw_1670 rfl ?_
    obtain ⟨q2260, h2261, h⟩ := Option.bind_eq_some_iff.mp h
    refine q_callSi (as := [ql a1, ql 0, ql 2]) dX12_isShift_18 ml_X12_99 rfl rfl (Nat.le_of_ble_eq_true rfl) (M_in_ok hL d a1 0 2 _ _ h2261) rfl ?_
    obtain ⟨c2262, h⟩ := qk_some h
    refine q_if_eq (tgt := 28) dX12_isShift_21 (by decide) rfl (qRb_R c2262)  (fun g => ?_) (fun g => ?_)
    · rw [if_pos (show q2260.1 = 0 from g)] at h
      refine q_iconst dX12_isShift_28 rfl rfl ?_
      cases h
      exact q_zreturn dX12_isShift_29 rfl (by decide) hQ
    · rw [if_neg (show ¬ (q2260.1 = 0) from g)] at h
      refine q_iconst dX12_isShift_24 rfl rfl ?_
      refine q_goto (pc' := 29) dX12_isShift_25 (by decide) ?_
      cases h
      exact q_zreturn dX12_isShift_29 rfl (by decide) hQ
set_option maxRecDepth 20000 in
theorem M_gangsBy_ok {X : qX} (hL : ∀ c, c < 93 → c ∈ qLs X) (d : Nat) (a1 : Int) (S : qSto) (o : (Int × qSto)) (h : M_gangsBy a1 S = some o) (Q : Option qV → qSto → Prop) (hQ : Q (some (qi o.1)) o.2) : qC X d yX12_gangsBy cX12_gangsBy 3 (some .int) [qr 70, qi a1] S Q := by
  refine q_entry (lv := [(0, qr 70), (1, qi a1)]) pn_X12 (Nat.le_of_ble_eq_true rfl) rfl ?_
  unfold M_gangsBy at h
  refine q_aload_n dX12_gangsBy_0 rfl rfl ?_
  refine q_getA dX12_gangsBy_1 fl_X12_13 (hL 70 (by decide)) sh_70 (by decide) rfl rfl ?_
  refine q_bipush dX12_gangsBy_4 (by decide) rfl ?_
  refine q_iload_n dX12_gangsBy_6 rfl rfl ?_
  refine q_iadd dX12_gangsBy_7 rfl ?_
  obtain ⟨c2266, h⟩ := qk_some h
  refine q_iaload dX12_gangsBy_8 (hL 72 (by decide)) sh_72 (qIx_0 c2266) (qIx_1 c2266) rfl ?_
  refine q_istore_n (lv' := [(2, qi (S 72 (Int.toNat (103 + a1)))), (0, qr 70), (1, qi a1)]) dX12_gangsBy_9 (by decide) rfl rfl ?_
  refine q_iload_n dX12_gangsBy_10 rfl rfl ?_
  refine q_iconst dX12_gangsBy_11 rfl rfl ?_
  obtain ⟨c2267, h⟩ := qk_some h
  refine q_icmp_ne (tgt := 25) dX12_gangsBy_12 (by decide) rfl (qRb_R c2267) ⟨by decide, by decide⟩ (fun g => ?_) (fun g => ?_)
  · rw [if_neg (show ¬ ((S 72 (Int.toNat (103 + a1))) = (-1)) from g)] at h
    refine q_iload_n dX12_gangsBy_25 rfl rfl ?_
    cases h
    exact q_ireturn dX12_gangsBy_26 rfl hQ
  · rw [if_pos (show (S 72 (Int.toNat (103 + a1))) = (-1) from g)] at h
    refine q_aload_n dX12_gangsBy_15 rfl rfl ?_
    refine q_getA dX12_gangsBy_16 fl_X12_13 (hL 70 (by decide)) sh_70 (by decide) rfl rfl ?_
    refine q_bipush dX12_gangsBy_19 (by decide) rfl ?_
    refine q_iaload dX12_gangsBy_21 (hL 72 (by decide)) sh_72 (by decide) (by decide) rfl ?_
    refine q_goto (pc' := 26) dX12_gangsBy_22 (by decide) ?_
    cases h
    exact q_ireturn dX12_gangsBy_26 rfl hQ
set_option maxRecDepth 20000 in
theorem M_gangs_ok {X : qX} (hL : ∀ c, c < 93 → c ∈ qLs X) (d : Nat) (a1 : Int) (a2 : Int) (S : qSto) (o : (Int × qSto)) (h : M_gangs a1 a2 S = some o) (Q : Option qV → qSto → Prop) (hQ : Q (some (qi o.1)) o.2) : qC X (d + 2) yX12_gangs cX12_gangs 3 (some .int) [qr 70, qi a1, qi a2] S Q := by
  refine q_entry (lv := [(0, qr 70), (1, qi a1), (2, qi a2)]) pn_X12 (Nat.le_of_ble_eq_true rfl) rfl ?_
  unfold M_gangs at h
  refine q_iload_n dX12_gangs_0 rfl rfl ?_
  refine q_iload_n dX12_gangs_1 rfl rfl ?_
  obtain ⟨q2263, h2264, h⟩ := Option.bind_eq_some_iff.mp h
  refine q_callSi (as := [qi a1, qi a2]) dX12_gangs_2 ml_X12_286 rfl rfl (Nat.le_of_ble_eq_true rfl) (M_isShift_ok hL d a1 a2 _ _ h2264) rfl ?_
  obtain ⟨c2265, h⟩ := qk_some h
  refine q_if_eq (tgt := 20) dX12_gangs_5 (by decide) rfl (qRb_R c2265)  (fun g => ?_) (fun g => ?_)
  · rw [if_pos (show q2263.1 = 0 from g)] at h
    refine q_iconst dX12_gangs_20 rfl rfl ?_
    cases h
    exact q_ireturn dX12_gangs_21 rfl hQ
  · rw [if_neg (show ¬ (q2263.1 = 0) from g)] at h
    refine q_aload_n dX12_gangs_8 rfl rfl ?_
    refine q_iconst dX12_gangs_9 rfl rfl ?_
    refine q_iload_n dX12_gangs_10 rfl rfl ?_
    refine q_imul dX12_gangs_11 rfl ?_
    refine q_iload_n dX12_gangs_12 rfl rfl ?_
    refine q_iadd dX12_gangs_13 rfl ?_
    obtain ⟨q2268, h2269, h⟩ := Option.bind_eq_some_iff.mp h
    refine q_callVi (as := [qi ((3 * a1) + a2)]) (c := 70) dX12_gangs_14 ml_X12_289 rfl rfl (hL 70 (by decide)) sh_70 rfl rfl (Nat.le_of_ble_eq_true rfl) (M_gangsBy_ok hL (d + 1) ((3 * a1) + a2) _ _ h2269) rfl ?_
    refine q_goto (pc' := 21) dX12_gangs_17 (by decide) ?_
    cases h
    exact q_ireturn dX12_gangs_21 rfl hQ
set_option maxRecDepth 20000 in
theorem M_crane_ok {X : qX} (hL : ∀ c, c < 93 → c ∈ qLs X) (d : Nat) (a1 : Int) (a2 : Int) (S : qSto) (o : (Int × qSto)) (h : M_crane a1 a2 S = some o) (Q : Option qV → qSto → Prop) (hQ : Q (some (qi o.1)) o.2) : qC X (d + 1) yX12_crane cX12_crane 3 (some .int) [qr 70, qi a1, qi a2] S Q := by
  refine q_entry (lv := [(0, qr 70), (1, qi a1), (2, qi a2)]) pn_X12 (Nat.le_of_ble_eq_true rfl) rfl ?_
  unfold M_crane at h
  refine q_iload_n dX12_crane_0 rfl rfl ?_
  obtain ⟨c2270, h⟩ := qk_some h
  refine q_i2l dX12_crane_1 (qRb_R c2270) rfl ?_
  refine q_lconst (v := 0) dX12_crane_2 rfl rfl ?_
  refine q_aload_n dX12_crane_3 rfl rfl ?_
  refine q_getA dX12_crane_4 fl_X12_13 (hL 70 (by decide)) sh_70 (by decide) rfl rfl ?_
  refine q_bipush dX12_crane_7 (by decide) rfl ?_
  refine q_iaload dX12_crane_9 (hL 72 (by decide)) sh_72 (by decide) (by decide) rfl ?_
  refine q_iconst dX12_crane_10 rfl rfl ?_
  refine q_isub dX12_crane_11 rfl ?_
  obtain ⟨c2271, h⟩ := qk_some h
  refine q_i2l dX12_crane_12 (qRb_R c2271) rfl ?_
  obtain ⟨q2272, h2273, h⟩ := Option.bind_eq_some_iff.mp h
  refine q_callSi (as := [ql a1, ql 0, ql ((S 72 7) - 1)]) dX12_crane_13 ml_X12_99 rfl rfl (Nat.le_of_ble_eq_true rfl) (M_in_ok hL d a1 0 ((S 72 7) - 1) _ _ h2273) rfl ?_
  obtain ⟨c2274, h⟩ := qk_some h
  refine q_if_eq (tgt := 29) dX12_crane_16 (by decide) rfl (qRb_R c2274)  (fun g => ?_) (fun g => ?_)
  · rw [if_pos (show q2272.1 = 0 from g)] at h
    refine q_iconst dX12_crane_29 rfl rfl ?_
    cases h
    exact q_ireturn dX12_crane_30 rfl hQ
  · rw [if_neg (show ¬ (q2272.1 = 0) from g)] at h
    refine q_iload_n dX12_crane_19 rfl rfl ?_
    obtain ⟨c2275, h⟩ := qk_some h
    refine q_i2l dX12_crane_20 (qRb_R c2275) rfl ?_
    refine q_lconst (v := 0) dX12_crane_21 rfl rfl ?_
    refine q_lconst (v := 1) dX12_crane_22 rfl rfl ?_
    obtain ⟨q2276, h2277, h⟩ := Option.bind_eq_some_iff.mp h
    refine q_callSi (as := [ql a2, ql 0, ql 1]) dX12_crane_23 ml_X12_99 rfl rfl (Nat.le_of_ble_eq_true rfl) (M_in_ok hL d a2 0 1 _ _ h2277) rfl ?_
    obtain ⟨c2278, h⟩ := qk_some h
    refine q_if_ne (tgt := 31) dX12_crane_26 (by decide) rfl (qRb_R c2278)  (fun g => ?_) (fun g => ?_)
    · rw [if_neg (show ¬ (q2276.1 = 0) from g)] at h
      refine q_iload_n dX12_crane_31 rfl rfl ?_
      obtain ⟨c2279, h⟩ := qk_some h
      refine q_if_ne (tgt := 47) dX12_crane_32 (by decide) rfl (qRb_R c2279)  (fun g => ?_) (fun g => ?_)
      · rw [if_neg (show ¬ (a2 = 0) from g)] at h
        refine q_aload_n dX12_crane_47 rfl rfl ?_
        refine q_getA dX12_crane_48 fl_X12_13 (hL 70 (by decide)) sh_70 (by decide) rfl rfl ?_
        refine q_bipush dX12_crane_51 (by decide) rfl ?_
        refine q_iload_n dX12_crane_53 rfl rfl ?_
        refine q_iadd dX12_crane_54 rfl ?_
        obtain ⟨c2280, h⟩ := qk_some h
        refine q_iaload dX12_crane_55 (hL 72 (by decide)) sh_72 (qIx_0 c2280) (qIx_1 c2280) rfl ?_
        cases h
        exact q_ireturn dX12_crane_56 rfl hQ
      · rw [if_pos (show a2 = 0 from g)] at h
        refine q_aload_n dX12_crane_35 rfl rfl ?_
        refine q_getA dX12_crane_36 fl_X12_13 (hL 70 (by decide)) sh_70 (by decide) rfl rfl ?_
        refine q_bipush dX12_crane_39 (by decide) rfl ?_
        refine q_iload_n dX12_crane_41 rfl rfl ?_
        refine q_iadd dX12_crane_42 rfl ?_
        obtain ⟨c2281, h⟩ := qk_some h
        refine q_iaload dX12_crane_43 (hL 72 (by decide)) sh_72 (qIx_0 c2281) (qIx_1 c2281) rfl ?_
        refine q_goto (pc' := 56) dX12_crane_44 (by decide) ?_
        cases h
        exact q_ireturn dX12_crane_56 rfl hQ
    · rw [if_pos (show q2276.1 = 0 from g)] at h
      refine q_iconst dX12_crane_29 rfl rfl ?_
      cases h
      exact q_ireturn dX12_crane_30 rfl hQ
set_option maxRecDepth 20000 in
theorem M_isShip_ok {X : qX} (hL : ∀ c, c < 93 → c ∈ qLs X) (d : Nat) (a1 : Int) (S : qSto) (o : (Int × qSto)) (h : M_isShip a1 S = some o) (Q : Option qV → qSto → Prop) (hQ : Q (some (qi o.1)) o.2) : qC X (d + 1) yX12_isShip cX12_isShip 2 (some .boolean) [qr 70, qi a1] S Q := by
  refine q_entry (lv := [(0, qr 70), (1, qi a1)]) pn_X12 (Nat.le_of_ble_eq_true rfl) rfl ?_
  unfold M_isShip at h
  refine q_iload_n dX12_isShip_0 rfl rfl ?_
  obtain ⟨c2282, h⟩ := qk_some h
  refine q_i2l dX12_isShip_1 (qRb_R c2282) rfl ?_
  refine q_lconst (v := 0) dX12_isShip_2 rfl rfl ?_
  refine q_aload_n dX12_isShip_3 rfl rfl ?_
  refine q_getA dX12_isShip_4 fl_X12_13 (hL 70 (by decide)) sh_70 (by decide) rfl rfl ?_
  refine q_bipush dX12_isShip_7 (by decide) rfl ?_
  refine q_iaload dX12_isShip_9 (hL 72 (by decide)) sh_72 (by decide) (by decide) rfl ?_
  refine q_iconst dX12_isShip_10 rfl rfl ?_
  refine q_isub dX12_isShip_11 rfl ?_
  obtain ⟨c2283, h⟩ := qk_some h
  refine q_i2l dX12_isShip_12 (qRb_R c2283) rfl ?_
  obtain ⟨q2284, h2285, h⟩ := Option.bind_eq_some_iff.mp h
  refine q_callSi (as := [ql a1, ql 0, ql ((S 72 9) - 1)]) dX12_isShip_13 ml_X12_99 rfl rfl (Nat.le_of_ble_eq_true rfl) (M_in_ok hL d a1 0 ((S 72 9) - 1) _ _ h2285) rfl ?_
  obtain ⟨c2286, h⟩ := qk_some h
  cases h
  exact q_zreturn dX12_isShip_16 rfl (qZb_Z c2286) hQ
set_option maxRecDepth 20000 in
theorem M_ship_ok {X : qX} (hL : ∀ c, c < 93 → c ∈ qLs X) (d : Nat) (a1 : Int) (a2 : Int) (S : qSto) (o : (Int × qSto)) (h : M_ship a1 a2 S = some o) (Q : Option qV → qSto → Prop) (hQ : Q (some (qi o.1)) o.2) : qC X (d + 3) yX12_ship cX12_ship 3 (some .int) [qr 70, qi a1, qi a2] S Q := by
  refine q_entry (lv := [(0, qr 70), (1, qi a1), (2, qi a2)]) pn_X12 (Nat.le_of_ble_eq_true rfl) rfl ?_
  unfold M_ship at h
  refine q_aload_n dX12_ship_0 rfl rfl ?_
  refine q_iload_n dX12_ship_1 rfl rfl ?_
  obtain ⟨q2287, h2288, h⟩ := Option.bind_eq_some_iff.mp h
  refine q_callVi (as := [qi a1]) (c := 70) dX12_ship_2 ml_X12_297 rfl rfl (hL 70 (by decide)) sh_70 rfl rfl (Nat.le_of_ble_eq_true rfl) (M_isShip_ok hL (d + 1) a1 _ _ h2288) rfl ?_
  obtain ⟨c2289, h⟩ := qk_some h
  refine q_if_eq (tgt := 20) dX12_ship_5 (by decide) rfl (qRb_R c2289)  (fun g => ?_) (fun g => ?_)
  · rw [if_pos (show q2287.1 = 0 from g)] at h
    refine q_iconst dX12_ship_20 rfl rfl ?_
    cases h
    exact q_ireturn dX12_ship_21 rfl hQ
  · rw [if_neg (show ¬ (q2287.1 = 0) from g)] at h
    refine q_iload_n dX12_ship_8 rfl rfl ?_
    obtain ⟨c2290, h⟩ := qk_some h
    refine q_i2l dX12_ship_9 (qRb_R c2290) rfl ?_
    refine q_lconst (v := 0) dX12_ship_10 rfl rfl ?_
    refine q_ldc2 (v := 17) dX12_ship_11 qw_1734 rfl ?_
    obtain ⟨q2291, h2292, h⟩ := Option.bind_eq_some_iff.mp h
    refine q_callSi (as := [ql a2, ql 0, ql 17]) dX12_ship_14 ml_X12_99 rfl rfl (Nat.le_of_ble_eq_true rfl) (M_in_ok hL (d + 2) a2 0 17 _ _ h2292) rfl ?_
    obtain ⟨c2293, h⟩ := qk_some h
    refine q_if_ne (tgt := 22) dX12_ship_17 (by decide) rfl (qRb_R c2293)  (fun g => ?_) (fun g => ?_)
    · rw [if_neg (show ¬ (q2291.1 = 0) from g)] at h
      refine q_iload_n dX12_ship_22 rfl rfl ?_
      refine q_bipush dX12_ship_23 (by decide) rfl ?_
      obtain ⟨c2294, h⟩ := qk_some h
      refine q_icmp_ge (tgt := 35) dX12_ship_25 (by decide) rfl (qRb_R c2294) ⟨by decide, by decide⟩ (fun g => ?_) (fun g => ?_)
      · rw [if_pos (show 9 ≤ a2 from g)] at h
        refine q_aload_n dX12_ship_35 rfl rfl ?_
        refine q_iload_n dX12_ship_36 rfl rfl ?_
        obtain ⟨q2295, h2296, h⟩ := Option.bind_eq_some_iff.mp h
        refine q_callVi (as := [qi a1]) (c := 70) dX12_ship_37 ml_X12_326 rfl rfl (hL 70 (by decide)) sh_70 rfl rfl (Nat.le_of_ble_eq_true rfl) (M_stays_ok hL (d + 2) a1 _ _ h2296) rfl ?_
        obtain ⟨c2297, h⟩ := qk_some h
        refine q_if_ne (tgt := 46) dX12_ship_40 (by decide) rfl (qRb_R c2297)  (fun g => ?_) (fun g => ?_)
        · rw [if_neg (show ¬ (q2295.1 = 0) from g)] at h
          refine q_iload_n dX12_ship_46 rfl rfl ?_
          obtain ⟨c2298, h⟩ := qk_some h
          by_cases e3879 : a2 = 9
          · rw [if_pos e3879] at h
            refine q_tsw (tgt := 168) dX12_ship_47 (qRb_R c2298) (by decide) (fun g => absurd g (by rw [e3879]; decide)) (fun _ _ => ⟨45, 92, by rw [e3879]; rfl, by decide, ?_⟩)
            refine q_aload_n dX12_ship_92 rfl rfl ?_
            refine q_getA dX12_ship_93 fl_X12_36 (hL 70 (by decide)) sh_70 (by decide) rfl rfl ?_
            refine q_iload_n dX12_ship_96 rfl rfl ?_
            obtain ⟨c2299, h⟩ := qk_some h
            refine q_iaload dX12_ship_97 (hL 78 (by decide)) sh_78 (qIx_0 c2299) (qIx_1 c2299) rfl ?_
            cases h
            exact q_ireturn dX12_ship_98 rfl hQ
          · rw [if_neg e3879] at h
            by_cases e3880 : a2 = 10
            · rw [if_pos e3880] at h
              refine q_tsw (tgt := 168) dX12_ship_47 (qRb_R c2298) (by decide) (fun g => absurd g (by rw [e3880]; decide)) (fun _ _ => ⟨52, 99, by rw [e3880]; rfl, by decide, ?_⟩)
              refine q_aload_n dX12_ship_99 rfl rfl ?_
              refine q_getA dX12_ship_100 fl_X12_39 (hL 70 (by decide)) sh_70 (by decide) rfl rfl ?_
              refine q_iload_n dX12_ship_103 rfl rfl ?_
              obtain ⟨c2300, h⟩ := qk_some h
              refine q_iaload dX12_ship_104 (hL 79 (by decide)) sh_79 (qIx_0 c2300) (qIx_1 c2300) rfl ?_
              cases h
              exact q_ireturn dX12_ship_105 rfl hQ
            · rw [if_neg e3880] at h
              by_cases e3881 : a2 = 11
              · rw [if_pos e3881] at h
                refine q_tsw (tgt := 168) dX12_ship_47 (qRb_R c2298) (by decide) (fun g => absurd g (by rw [e3881]; decide)) (fun _ _ => ⟨59, 106, by rw [e3881]; rfl, by decide, ?_⟩)
                refine q_aload_n dX12_ship_106 rfl rfl ?_
                refine q_getA dX12_ship_107 fl_X12_42 (hL 70 (by decide)) sh_70 (by decide) rfl rfl ?_
                refine q_iload_n dX12_ship_110 rfl rfl ?_
                obtain ⟨c2301, h⟩ := qk_some h
                refine q_iaload dX12_ship_111 (hL 80 (by decide)) sh_80 (qIx_0 c2301) (qIx_1 c2301) rfl ?_
                cases h
                exact q_ireturn dX12_ship_112 rfl hQ
              · rw [if_neg e3881] at h
                by_cases e3882 : a2 = 12
                · rw [if_pos e3882] at h
                  refine q_tsw (tgt := 168) dX12_ship_47 (qRb_R c2298) (by decide) (fun g => absurd g (by rw [e3882]; decide)) (fun _ _ => ⟨66, 113, by rw [e3882]; rfl, by decide, ?_⟩)
                  refine q_aload_n dX12_ship_113 rfl rfl ?_
                  refine q_getA dX12_ship_114 fl_X12_45 (hL 70 (by decide)) sh_70 (by decide) rfl rfl ?_
                  refine q_iload_n dX12_ship_117 rfl rfl ?_
                  obtain ⟨c2302, h⟩ := qk_some h
                  refine q_iaload dX12_ship_118 (hL 81 (by decide)) sh_81 (qIx_0 c2302) (qIx_1 c2302) rfl ?_
                  cases h
                  exact q_ireturn dX12_ship_119 rfl hQ
                · rw [if_neg e3882] at h
                  by_cases e3883 : a2 = 13
                  · rw [if_pos e3883] at h
                    refine q_tsw (tgt := 168) dX12_ship_47 (qRb_R c2298) (by decide) (fun g => absurd g (by rw [e3883]; decide)) (fun _ _ => ⟨73, 120, by rw [e3883]; rfl, by decide, ?_⟩)
                    refine q_aload_n dX12_ship_120 rfl rfl ?_
                    refine q_getA dX12_ship_121 fl_X12_48 (hL 70 (by decide)) sh_70 (by decide) rfl rfl ?_
                    refine q_iload_n dX12_ship_124 rfl rfl ?_
                    obtain ⟨c2303, h⟩ := qk_some h
                    refine q_iaload dX12_ship_125 (hL 82 (by decide)) sh_82 (qIx_0 c2303) (qIx_1 c2303) rfl ?_
                    cases h
                    exact q_ireturn dX12_ship_126 rfl hQ
                  · rw [if_neg e3883] at h
                    by_cases e3884 : a2 = 14
                    · rw [if_pos e3884] at h
                      refine q_tsw (tgt := 168) dX12_ship_47 (qRb_R c2298) (by decide) (fun g => absurd g (by rw [e3884]; decide)) (fun _ _ => ⟨80, 127, by rw [e3884]; rfl, by decide, ?_⟩)
                      refine q_aload_n dX12_ship_127 rfl rfl ?_
                      refine q_getA dX12_ship_128 fl_X12_39 (hL 70 (by decide)) sh_70 (by decide) rfl rfl ?_
                      refine q_iload_n dX12_ship_131 rfl rfl ?_
                      obtain ⟨c2304, h⟩ := qk_some h
                      refine q_iaload dX12_ship_132 (hL 79 (by decide)) sh_79 (qIx_0 c2304) (qIx_1 c2304) rfl ?_
                      refine q_aload_n dX12_ship_133 rfl rfl ?_
                      refine q_iload_n dX12_ship_134 rfl rfl ?_
                      refine q_iconst dX12_ship_135 rfl rfl ?_
                      obtain ⟨q2305, h2306, h⟩ := Option.bind_eq_some_iff.mp h
                      refine q_callVi (as := [qi a1, qi 4]) (c := 70) dX12_ship_136 ml_X12_316 rfl rfl (hL 70 (by decide)) sh_70 rfl rfl (Nat.le_of_ble_eq_true rfl) (M_of_ok hL (d + 2) a1 4 _ _ h2306) rfl ?_
                      refine q_isub dX12_ship_139 rfl ?_
                      cases h
                      exact q_ireturn dX12_ship_140 rfl hQ
                    · rw [if_neg e3884] at h
                      by_cases e3885 : a2 = 15
                      · rw [if_pos e3885] at h
                        refine q_tsw (tgt := 168) dX12_ship_47 (qRb_R c2298) (by decide) (fun g => absurd g (by rw [e3885]; decide)) (fun _ _ => ⟨94, 141, by rw [e3885]; rfl, by decide, ?_⟩)
                        refine q_aload_n dX12_ship_141 rfl rfl ?_
                        refine q_getA dX12_ship_142 fl_X12_48 (hL 70 (by decide)) sh_70 (by decide) rfl rfl ?_
                        refine q_iload_n dX12_ship_145 rfl rfl ?_
                        obtain ⟨c2307, h⟩ := qk_some h
                        refine q_iaload dX12_ship_146 (hL 82 (by decide)) sh_82 (qIx_0 c2307) (qIx_1 c2307) rfl ?_
                        refine q_aload_n dX12_ship_147 rfl rfl ?_
                        refine q_getA dX12_ship_148 fl_X12_39 (hL 70 (by decide)) sh_70 (by decide) rfl rfl ?_
                        refine q_iload_n dX12_ship_151 rfl rfl ?_
                        obtain ⟨c2308, h⟩ := qk_some h
                        refine q_iaload dX12_ship_152 (hL 79 (by decide)) sh_79 (qIx_0 c2308) (qIx_1 c2308) rfl ?_
                        refine q_isub dX12_ship_153 rfl ?_
                        refine q_aload_n dX12_ship_154 rfl rfl ?_
                        refine q_getA dX12_ship_155 fl_X12_45 (hL 70 (by decide)) sh_70 (by decide) rfl rfl ?_
                        refine q_iload_n dX12_ship_158 rfl rfl ?_
                        obtain ⟨c2309, h⟩ := qk_some h
                        refine q_iaload dX12_ship_159 (hL 81 (by decide)) sh_81 (qIx_0 c2309) (qIx_1 c2309) rfl ?_
                        refine q_isub dX12_ship_160 rfl ?_
                        cases h
                        exact q_ireturn dX12_ship_161 rfl hQ
                      · rw [if_neg e3885] at h
                        by_cases e3886 : a2 = 16
                        · rw [if_pos e3886] at h
                          refine q_tsw (tgt := 168) dX12_ship_47 (qRb_R c2298) (by decide) (fun g => absurd g (by rw [e3886]; decide)) (fun _ _ => ⟨115, 162, by rw [e3886]; rfl, by decide, ?_⟩)
                          refine q_aload_n dX12_ship_162 rfl rfl ?_
                          refine q_iload_n dX12_ship_163 rfl rfl ?_
                          obtain ⟨q2310, h2311, h⟩ := Option.bind_eq_some_iff.mp h
                          refine q_callVi (as := [qi a1]) (c := 70) dX12_ship_164 ml_X12_329 rfl rfl (hL 70 (by decide)) sh_70 rfl rfl (Nat.le_of_ble_eq_true rfl) (M_lateOf_ok hL (d + 1) a1 _ _ h2311) rfl ?_
                          cases h
                          exact q_ireturn dX12_ship_167 rfl hQ
                        · rw [if_neg e3886] at h
                          refine q_tsw (tgt := 168) dX12_ship_47 (qRb_R c2298) (by decide) (fun _ => ?_) (fun g1 g2 => absurd g1 (by omega))
                          refine q_aload_n dX12_ship_168 rfl rfl ?_
                          refine q_iload_n dX12_ship_169 rfl rfl ?_
                          obtain ⟨q2312, h2313, h⟩ := Option.bind_eq_some_iff.mp h
                          refine q_callVi (as := [qi a1]) (c := 70) dX12_ship_170 ml_X12_332 rfl rfl (hL 70 (by decide)) sh_70 rfl rfl (Nat.le_of_ble_eq_true rfl) (M_costOf_ok hL d a1 _ _ h2313) rfl ?_
                          cases h
                          exact q_ireturn dX12_ship_173 rfl hQ
        · rw [if_pos (show q2295.1 = 0 from g)] at h
          refine q_bipush dX12_ship_43 (by decide) rfl ?_
          cases h
          exact q_ireturn dX12_ship_45 rfl hQ
      · rw [if_neg (show ¬ (9 ≤ a2) from g)] at h
        refine q_aload_n dX12_ship_28 rfl rfl ?_
        refine q_iload_n dX12_ship_29 rfl rfl ?_
        refine q_iload_n dX12_ship_30 rfl rfl ?_
        obtain ⟨q2314, h2315, h⟩ := Option.bind_eq_some_iff.mp h
        refine q_callVi (as := [qi a1, qi a2]) (c := 70) dX12_ship_31 ml_X12_316 rfl rfl (hL 70 (by decide)) sh_70 rfl rfl (Nat.le_of_ble_eq_true rfl) (M_of_ok hL (d + 2) a1 a2 _ _ h2315) rfl ?_
        cases h
        exact q_ireturn dX12_ship_34 rfl hQ
    · rw [if_pos (show q2291.1 = 0 from g)] at h
      refine q_iconst dX12_ship_20 rfl rfl ?_
      cases h
      exact q_ireturn dX12_ship_21 rfl hQ
set_option maxRecDepth 20000 in
theorem M_lettersOf_L9_ok {X : qX} (hL : ∀ c, c < 93 → c ∈ qLs X) (d : Nat) {Q : Option qV → qSto → Prop} : ∀ (n : Nat) (x2 : Int) (x3 : Int) (S : qSto) (o : (Int × qSto)), M_lettersOf_L9 n x2 x3 S = some o → (qW X d yX12_lettersOf cX12_lettersOf 5 (some .int) 28 [(2, qi o.1)] [] o.2 Q) → qW X d yX12_lettersOf cX12_lettersOf 5 (some .int) 9 [(2, qi x2), (3, ql x3)] [] S Q := by
  intro n
  induction n with
  | zero =>
    intro x2 x3 S o h
    simp [M_lettersOf_L9] at h
  | succ n ih =>
    intro x2 x3 S o h hE
    rw [M_lettersOf_L9] at h
    refine q_lload_n dX12_lettersOf_9 rfl rfl ?_
    refine q_lconst (v := 0) dX12_lettersOf_10 rfl rfl ?_
    obtain ⟨c2324, h⟩ := qk_some h
    refine q_lcmp dX12_lettersOf_11 (qRLb_R c2324) ⟨by decide, by decide⟩ rfl ?_
    refine q_if_le (tgt := 28) dX12_lettersOf_12 (by decide) rfl (q3_R _ _)  (fun g => ?_) (fun g => ?_)
    · rw [if_pos (show x3 ≤ 0 from (q3_le _ _).mp g)] at h
      cases h
      exact q_pick [0] rfl (hE)
    · rw [if_neg (show ¬ (x3 ≤ 0) from fun e => g ((q3_le _ _).mpr e))] at h
      refine q_iload_n dX12_lettersOf_15 rfl rfl ?_
      refine q_iconst dX12_lettersOf_16 rfl rfl ?_
      refine q_iadd dX12_lettersOf_17 rfl ?_
      refine q_istore_n (lv' := [(2, qi (x2 + 1)), (3, ql x3)]) dX12_lettersOf_18 (by decide) rfl rfl ?_
      refine q_lload_n dX12_lettersOf_19 rfl rfl ?_
      refine q_ldc2 (v := 32) dX12_lettersOf_20 qw_1513 rfl ?_
      obtain ⟨c2325, h⟩ := qk_some h
      refine q_ldiv dX12_lettersOf_23 (qRLb_R c2325) ⟨by decide, by decide⟩ (by decide) rfl ?_
      refine q_lstore_n (lv' := [(3, ql (Int.tdiv x3 32)), (2, qi (x2 + 1))]) dX12_lettersOf_24 (by decide) rfl rfl ?_
      refine q_goto (pc' := 9) dX12_lettersOf_25 (by decide) ?_
      exact q_pick [1, 0] rfl (ih (x2 + 1) (Int.tdiv x3 32) _ _ h hE)
set_option maxRecDepth 20000 in
theorem M_lettersOf_ok {X : qX} (hL : ∀ c, c < 93 → c ∈ qLs X) (d : Nat) (a1 : Int) (S : qSto) (o : (Int × qSto)) (h : M_lettersOf a1 S = some o) (Q : Option qV → qSto → Prop) (hQ : Q (some (qi o.1)) o.2) : qC X d yX12_lettersOf cX12_lettersOf 5 (some .int) [qr 70, qi a1] S Q := by
  refine q_entry (lv := [(0, qr 70), (1, qi a1)]) pn_X12 (Nat.le_of_ble_eq_true rfl) rfl ?_
  unfold M_lettersOf at h
  refine q_iconst dX12_lettersOf_0 rfl rfl ?_
  refine q_istore_n (lv' := [(2, qi 0), (0, qr 70), (1, qi a1)]) dX12_lettersOf_1 (by decide) rfl rfl ?_
  refine q_aload_n dX12_lettersOf_2 rfl rfl ?_
  refine q_getA dX12_lettersOf_3 fl_X12_20 (hL 70 (by decide)) sh_70 (by decide) rfl rfl ?_
  refine q_iload_n dX12_lettersOf_6 rfl rfl ?_
  obtain ⟨c2323, h⟩ := qk_some h
  refine q_laload dX12_lettersOf_7 (hL 74 (by decide)) sh_74 (qIx_0 c2323) (qIx_1 c2323) rfl ?_
  refine q_lstore_n (lv' := [(3, ql (S 74 (Int.toNat a1))), (2, qi 0), (0, qr 70), (1, qi a1)]) dX12_lettersOf_8 (by decide) rfl rfl ?_
  obtain ⟨q2326, h2327, h⟩ := Option.bind_eq_some_iff.mp h
  refine q_pick [1, 0] rfl (M_lettersOf_L9_ok hL d qF 0 (S 74 (Int.toNat a1)) _ _ h2327 ?_)
  refine q_iload_n dX12_lettersOf_28 rfl rfl ?_
  cases h
  exact q_ireturn dX12_lettersOf_29 rfl hQ
set_option maxRecDepth 20000 in
theorem M_letter_L48_ok {X : qX} (hL : ∀ c, c < 93 → c ∈ qLs X) (d : Nat) {Q : Option qV → qSto → Prop} : ∀ (n : Nat) (x2 : Int) (x4 : Int) (x6 : Int) (S : qSto) (o : (Int × qSto)), M_letter_L48 n x2 x4 x6 S = some o → (qW X (d + 2) yX12_letter cX12_letter 7 (some .int) 68 [(4, ql o.1)] [] o.2 Q) → qW X (d + 2) yX12_letter cX12_letter 7 (some .int) 48 [(2, qi x2), (4, ql x4), (6, qi x6)] [] S Q := by
  intro n
  induction n with
  | zero =>
    intro x2 x4 x6 S o h
    simp [M_letter_L48] at h
  | succ n ih =>
    intro x2 x4 x6 S o h hE
    rw [M_letter_L48] at h
    refine q_iload dX12_letter_48 rfl rfl ?_
    refine q_iload_n dX12_letter_50 rfl rfl ?_
    obtain ⟨c2333, h⟩ := qk_some h
    obtain ⟨c2334, h⟩ := qk_some h
    refine q_icmp_le (tgt := 68) dX12_letter_51 (by decide) rfl (qRb_R c2333) (qRb_R c2334) (fun g => ?_) (fun g => ?_)
    · rw [if_pos (show x6 ≤ x2 from g)] at h
      cases h
      exact q_pick [1] rfl (hE)
    · rw [if_neg (show ¬ (x6 ≤ x2) from g)] at h
      refine q_lload dX12_letter_54 rfl rfl ?_
      refine q_ldc2 (v := 32) dX12_letter_56 qw_1513 rfl ?_
      obtain ⟨c2335, h⟩ := qk_some h
      refine q_ldiv dX12_letter_59 (qRLb_R c2335) ⟨by decide, by decide⟩ (by decide) rfl ?_
      refine q_lstore (lv' := [(4, ql (Int.tdiv x4 32)), (2, qi x2), (6, qi x6)]) dX12_letter_60 (by decide) rfl rfl ?_
      refine q_iinc (lv' := [(6, qi (x6 + (-1))), (4, ql (Int.tdiv x4 32)), (2, qi x2)]) dX12_letter_62 (by decide) rfl rfl rfl ?_
      refine q_goto (pc' := 48) dX12_letter_65 (by decide) ?_
      exact q_pick [2, 1, 0] rfl (ih x2 (Int.tdiv x4 32) (x6 + (-1)) _ _ h hE)
set_option maxRecDepth 20000 in
theorem M_letter_ok {X : qX} (hL : ∀ c, c < 93 → c ∈ qLs X) (d : Nat) (a1 : Int) (a2 : Int) (S : qSto) (o : (Int × qSto)) (h : M_letter a1 a2 S = some o) (Q : Option qV → qSto → Prop) (hQ : Q (some (qi o.1)) o.2) : qC X (d + 2) yX12_letter cX12_letter 7 (some .int) [qr 70, qi a1, qi a2] S Q := by
  refine q_entry (lv := [(0, qr 70), (1, qi a1), (2, qi a2)]) pn_X12 (Nat.le_of_ble_eq_true rfl) rfl ?_
  unfold M_letter at h
  refine q_aload_n dX12_letter_0 rfl rfl ?_
  refine q_iload_n dX12_letter_1 rfl rfl ?_
  obtain ⟨q2316, h2317, h⟩ := Option.bind_eq_some_iff.mp h
  refine q_callVi (as := [qi a1]) (c := 70) dX12_letter_2 ml_X12_297 rfl rfl (hL 70 (by decide)) sh_70 rfl rfl (Nat.le_of_ble_eq_true rfl) (M_isShip_ok hL d a1 _ _ h2317) rfl ?_
  obtain ⟨c2318, h⟩ := qk_some h
  refine q_if_eq (tgt := 20) dX12_letter_5 (by decide) rfl (qRb_R c2318)  (fun g => ?_) (fun g => ?_)
  · rw [if_pos (show q2316.1 = 0 from g)] at h
    refine q_iconst dX12_letter_20 rfl rfl ?_
    cases h
    exact q_ireturn dX12_letter_21 rfl hQ
  · rw [if_neg (show ¬ (q2316.1 = 0) from g)] at h
    refine q_iload_n dX12_letter_8 rfl rfl ?_
    obtain ⟨c2319, h⟩ := qk_some h
    refine q_i2l dX12_letter_9 (qRb_R c2319) rfl ?_
    refine q_lconst (v := 0) dX12_letter_10 rfl rfl ?_
    refine q_ldc2 (v := 7) dX12_letter_11 qw_1696 rfl ?_
    obtain ⟨q2320, h2321, h⟩ := Option.bind_eq_some_iff.mp h
    refine q_callSi (as := [ql a2, ql 0, ql 7]) dX12_letter_14 ml_X12_99 rfl rfl (Nat.le_of_ble_eq_true rfl) (M_in_ok hL (d + 1) a2 0 7 _ _ h2321) rfl ?_
    obtain ⟨c2322, h⟩ := qk_some h
    refine q_if_ne (tgt := 22) dX12_letter_17 (by decide) rfl (qRb_R c2322)  (fun g => ?_) (fun g => ?_)
    · rw [if_neg (show ¬ (q2320.1 = 0) from g)] at h
      refine q_aload_n dX12_letter_22 rfl rfl ?_
      refine q_iload_n dX12_letter_23 rfl rfl ?_
      obtain ⟨q2328, h2329, h⟩ := Option.bind_eq_some_iff.mp h
      refine q_callVi (as := [qi a1]) (c := 70) dX12_letter_24 ml_X12_302 rfl rfl (hL 70 (by decide)) sh_70 rfl rfl (Nat.le_of_ble_eq_true rfl) (M_lettersOf_ok hL (d + 1) a1 _ _ h2329) rfl ?_
      refine q_istore_n (lv' := [(3, qi q2328.1), (0, qr 70), (1, qi a1), (2, qi a2)]) dX12_letter_27 (by decide) rfl rfl ?_
      refine q_iload_n dX12_letter_28 rfl rfl ?_
      refine q_iload_n dX12_letter_29 rfl rfl ?_
      obtain ⟨c2330, h⟩ := qk_some h
      obtain ⟨c2331, h⟩ := qk_some h
      refine q_icmp_lt (tgt := 35) dX12_letter_30 (by decide) rfl (qRb_R c2330) (qRb_R c2331) (fun g => ?_) (fun g => ?_)
      · rw [if_pos (show a2 < q2328.1 from g)] at h
        refine q_aload_n dX12_letter_35 rfl rfl ?_
        refine q_getA dX12_letter_36 fl_X12_20 (hL 70 (by decide)) sh_70 (by decide) rfl rfl ?_
        refine q_iload_n dX12_letter_39 rfl rfl ?_
        obtain ⟨c2332, h⟩ := qk_some h
        refine q_laload dX12_letter_40 (hL 74 (by decide)) sh_74 (qIx_0 c2332) (qIx_1 c2332) rfl ?_
        refine q_lstore (lv' := [(4, ql (q2328.2 74 (Int.toNat a1))), (3, qi q2328.1), (0, qr 70), (1, qi a1), (2, qi a2)]) dX12_letter_41 (by decide) rfl rfl ?_
        refine q_iload_n dX12_letter_43 rfl rfl ?_
        refine q_iconst dX12_letter_44 rfl rfl ?_
        refine q_isub dX12_letter_45 rfl ?_
        refine q_istore (lv' := [(6, qi (q2328.1 - 1)), (4, ql (q2328.2 74 (Int.toNat a1))), (3, qi q2328.1), (0, qr 70), (1, qi a1), (2, qi a2)]) dX12_letter_46 (by decide) rfl rfl ?_
        obtain ⟨q2336, h2337, h⟩ := Option.bind_eq_some_iff.mp h
        refine q_pick [5, 1, 0] rfl (M_letter_L48_ok hL d qF a2 (q2328.2 74 (Int.toNat a1)) (q2328.1 - 1) _ _ h2337 ?_)
        refine q_lload dX12_letter_68 rfl rfl ?_
        refine q_ldc2 (v := 32) dX12_letter_70 qw_1513 rfl ?_
        obtain ⟨c2338, h⟩ := qk_some h
        refine q_lrem dX12_letter_73 (qRLb_R c2338) ⟨by decide, by decide⟩ (by decide) rfl ?_
        refine q_l2i dX12_letter_74 rfl ?_
        cases h
        exact q_ireturn dX12_letter_75 rfl hQ
      · rw [if_neg (show ¬ (a2 < q2328.1) from g)] at h
        refine q_iconst dX12_letter_33 rfl rfl ?_
        cases h
        exact q_ireturn dX12_letter_34 rfl hQ
    · rw [if_pos (show q2320.1 = 0 from g)] at h
      refine q_iconst dX12_letter_20 rfl rfl ?_
      cases h
      exact q_ireturn dX12_letter_21 rfl hQ
set_option maxRecDepth 20000 in
theorem M_movesBy_ok {X : qX} (hL : ∀ c, c < 93 → c ∈ qLs X) (d : Nat) (a1 : Int) (S : qSto) (o : (Int × qSto)) (h : M_movesBy a1 S = some o) (Q : Option qV → qSto → Prop) (hQ : Q (some (qi o.1)) o.2) : qC X d yX12_movesBy cX12_movesBy 3 (some .int) [qr 70, qi a1] S Q := by
  refine q_entry (lv := [(0, qr 70), (1, qi a1)]) pn_X12 (Nat.le_of_ble_eq_true rfl) rfl ?_
  unfold M_movesBy at h
  refine q_iload_n dX12_movesBy_0 rfl rfl ?_
  refine q_aload_n dX12_movesBy_1 rfl rfl ?_
  refine q_getA dX12_movesBy_2 fl_X12_13 (hL 70 (by decide)) sh_70 (by decide) rfl rfl ?_
  refine q_iconst dX12_movesBy_5 rfl rfl ?_
  refine q_iaload dX12_movesBy_6 (hL 72 (by decide)) sh_72 (by decide) (by decide) rfl ?_
  refine q_imul dX12_movesBy_7 rfl ?_
  refine q_bipush dX12_movesBy_8 (by decide) rfl ?_
  refine q_aload_n dX12_movesBy_10 rfl rfl ?_
  refine q_getA dX12_movesBy_11 fl_X12_13 (hL 70 (by decide)) sh_70 (by decide) rfl rfl ?_
  refine q_iconst dX12_movesBy_14 rfl rfl ?_
  refine q_iaload dX12_movesBy_15 (hL 72 (by decide)) sh_72 (by decide) (by decide) rfl ?_
  refine q_iload_n dX12_movesBy_16 rfl rfl ?_
  refine q_iconst dX12_movesBy_17 rfl rfl ?_
  refine q_isub dX12_movesBy_18 rfl ?_
  refine q_imul dX12_movesBy_19 rfl ?_
  refine q_isub dX12_movesBy_20 rfl ?_
  refine q_imul dX12_movesBy_21 rfl ?_
  refine q_bipush dX12_movesBy_22 (by decide) rfl ?_
  obtain ⟨c2343, h⟩ := qk_some h
  refine q_idiv dX12_movesBy_24 (qRb_R c2343) ⟨by decide, by decide⟩ (by decide) rfl ?_
  refine q_istore_n (lv' := [(2, qi (Int.tdiv ((a1 * (S 72 4)) * (100 - ((S 72 5) * (a1 - 1)))) 100)), (0, qr 70), (1, qi a1)]) dX12_movesBy_25 (by decide) rfl rfl ?_
  refine q_iload_n dX12_movesBy_26 rfl rfl ?_
  refine q_iload_n dX12_movesBy_27 rfl rfl ?_
  obtain ⟨c2344, h⟩ := qk_some h
  obtain ⟨c2345, h⟩ := qk_some h
  refine q_icmp_ge (tgt := 35) dX12_movesBy_28 (by decide) rfl (qRb_R c2344) (qRb_R c2345) (fun g => ?_) (fun g => ?_)
  · rw [if_pos (show a1 ≤ (Int.tdiv ((a1 * (S 72 4)) * (100 - ((S 72 5) * (a1 - 1)))) 100) from g)] at h
    refine q_iload_n dX12_movesBy_35 rfl rfl ?_
    cases h
    exact q_ireturn dX12_movesBy_36 rfl hQ
  · rw [if_neg (show ¬ (a1 ≤ (Int.tdiv ((a1 * (S 72 4)) * (100 - ((S 72 5) * (a1 - 1)))) 100)) from g)] at h
    refine q_iload_n dX12_movesBy_31 rfl rfl ?_
    refine q_goto (pc' := 36) dX12_movesBy_32 (by decide) ?_
    cases h
    exact q_ireturn dX12_movesBy_36 rfl hQ
set_option maxRecDepth 20000 in
theorem M_moves_ok {X : qX} (hL : ∀ c, c < 93 → c ∈ qLs X) (d : Nat) (a1 : Int) (S : qSto) (o : (Int × qSto)) (h : M_moves a1 S = some o) (Q : Option qV → qSto → Prop) (hQ : Q (some (qi o.1)) o.2) : qC X (d + 1) yX12_moves cX12_moves 2 (some .int) [qr 70, qi a1] S Q := by
  refine q_entry (lv := [(0, qr 70), (1, qi a1)]) pn_X12 (Nat.le_of_ble_eq_true rfl) rfl ?_
  unfold M_moves at h
  refine q_iload_n dX12_moves_0 rfl rfl ?_
  obtain ⟨c2339, h⟩ := qk_some h
  refine q_i2l dX12_moves_1 (qRb_R c2339) rfl ?_
  refine q_lconst (v := 1) dX12_moves_2 rfl rfl ?_
  refine q_ldc2 (v := 8) dX12_moves_3 qw_1683 rfl ?_
  obtain ⟨q2340, h2341, h⟩ := Option.bind_eq_some_iff.mp h
  refine q_callSi (as := [ql a1, ql 1, ql 8]) dX12_moves_6 ml_X12_99 rfl rfl (Nat.le_of_ble_eq_true rfl) (M_in_ok hL d a1 1 8 _ _ h2341) rfl ?_
  obtain ⟨c2342, h⟩ := qk_some h
  refine q_if_eq (tgt := 20) dX12_moves_9 (by decide) rfl (qRb_R c2342)  (fun g => ?_) (fun g => ?_)
  · rw [if_pos (show q2340.1 = 0 from g)] at h
    refine q_iconst dX12_moves_20 rfl rfl ?_
    cases h
    exact q_ireturn dX12_moves_21 rfl hQ
  · rw [if_neg (show ¬ (q2340.1 = 0) from g)] at h
    refine q_aload_n dX12_moves_12 rfl rfl ?_
    refine q_iload_n dX12_moves_13 rfl rfl ?_
    obtain ⟨q2346, h2347, h⟩ := Option.bind_eq_some_iff.mp h
    refine q_callVi (as := [qi a1]) (c := 70) dX12_moves_14 ml_X12_294 rfl rfl (hL 70 (by decide)) sh_70 rfl rfl (Nat.le_of_ble_eq_true rfl) (M_movesBy_ok hL d a1 _ _ h2347) rfl ?_
    refine q_goto (pc' := 21) dX12_moves_17 (by decide) ?_
    cases h
    exact q_ireturn dX12_moves_21 rfl hQ
set_option maxRecDepth 20000 in
theorem M_isWater_ok {X : qX} (hL : ∀ c, c < 93 → c ∈ qLs X) (d : Nat) (a0 : Int) (S : qSto) (o : (Int × qSto)) (h : M_isWater a0 S = some o) (Q : Option qV → qSto → Prop) (hQ : Q (some (qi o.1)) o.2) : qC X (d + 1) yX12_isWater cX12_isWater 1 (some .boolean) [qi a0] S Q := by
  refine q_entry (lv := [(0, qi a0)]) pn_X12 (Nat.le_of_ble_eq_true rfl) rfl ?_
  unfold M_isWater at h
  refine q_iload_n dX12_isWater_0 rfl rfl ?_
  obtain ⟨c2348, h⟩ := qk_some h
  refine q_i2l dX12_isWater_1 (qRb_R c2348) rfl ?_
  refine q_lconst (v := 0) dX12_isWater_2 rfl rfl ?_
  refine q_ldc2 (v := 300) dX12_isWater_3 qw_1708 rfl ?_
  obtain ⟨q2349, h2350, h⟩ := Option.bind_eq_some_iff.mp h
  refine q_callSi (as := [ql a0, ql 0, ql 300]) dX12_isWater_6 ml_X12_99 rfl rfl (Nat.le_of_ble_eq_true rfl) (M_in_ok hL d a0 0 300 _ _ h2350) rfl ?_
  obtain ⟨c2351, h⟩ := qk_some h
  cases h
  exact q_zreturn dX12_isWater_9 rfl (qZb_Z c2351) hQ
set_option maxRecDepth 20000 in
theorem M_isOpen_ok {X : qX} (hL : ∀ c, c < 93 → c ∈ qLs X) (d : Nat) (a1 : Int) (a2 : Int) (S : qSto) (o : (Int × qSto)) (h : M_isOpen a1 a2 S = some o) (Q : Option qV → qSto → Prop) (hQ : Q (some (qi o.1)) o.2) : qC X d yX12_isOpen cX12_isOpen 3 (some .boolean) [qr 70, qi a1, qi a2] S Q := by
  refine q_entry (lv := [(0, qr 70), (1, qi a1), (2, qi a2)]) pn_X12 (Nat.le_of_ble_eq_true rfl) rfl ?_
  unfold M_isOpen at h
  refine q_aload_n dX12_isOpen_0 rfl rfl ?_
  refine q_getA dX12_isOpen_1 fl_X12_13 (hL 70 (by decide)) sh_70 (by decide) rfl rfl ?_
  refine q_iconst dX12_isOpen_4 rfl rfl ?_
  refine q_iaload dX12_isOpen_5 (hL 72 (by decide)) sh_72 (by decide) (by decide) rfl ?_
  refine q_aload_n dX12_isOpen_6 rfl rfl ?_
  refine q_getA dX12_isOpen_7 fl_X12_33 (hL 70 (by decide)) sh_70 (by decide) rfl rfl ?_
  refine q_iload_n dX12_isOpen_10 rfl rfl ?_
  obtain ⟨c2358, h⟩ := qk_some h
  refine q_iaload dX12_isOpen_11 (hL 77 (by decide)) sh_77 (qIx_0 c2358) (qIx_1 c2358) rfl ?_
  refine q_iadd dX12_isOpen_12 rfl ?_
  refine q_iload_n dX12_isOpen_13 rfl rfl ?_
  refine q_aload_n dX12_isOpen_14 rfl rfl ?_
  refine q_getA dX12_isOpen_15 fl_X12_13 (hL 70 (by decide)) sh_70 (by decide) rfl rfl ?_
  refine q_iconst dX12_isOpen_18 rfl rfl ?_
  refine q_iaload dX12_isOpen_19 (hL 72 (by decide)) sh_72 (by decide) (by decide) rfl ?_
  refine q_iadd dX12_isOpen_20 rfl ?_
  obtain ⟨c2359, h⟩ := qk_some h
  obtain ⟨c2360, h⟩ := qk_some h
  refine q_icmp_lt (tgt := 28) dX12_isOpen_21 (by decide) rfl (qRb_R c2359) (qRb_R c2360) (fun g => ?_) (fun g => ?_)
  · rw [if_pos (show ((S 72 3) + (S 77 (Int.toNat a2))) < (a1 + (S 72 2)) from g)] at h
    refine q_iconst dX12_isOpen_28 rfl rfl ?_
    cases h
    exact q_zreturn dX12_isOpen_29 rfl (by decide) hQ
  · rw [if_neg (show ¬ (((S 72 3) + (S 77 (Int.toNat a2))) < (a1 + (S 72 2))) from g)] at h
    refine q_iconst dX12_isOpen_24 rfl rfl ?_
    refine q_goto (pc' := 29) dX12_isOpen_25 (by decide) ?_
    cases h
    exact q_zreturn dX12_isOpen_29 rfl (by decide) hQ
set_option maxRecDepth 20000 in
theorem M_open_ok {X : qX} (hL : ∀ c, c < 93 → c ∈ qLs X) (d : Nat) (a1 : Int) (a2 : Int) (S : qSto) (o : (Int × qSto)) (h : M_open a1 a2 S = some o) (Q : Option qV → qSto → Prop) (hQ : Q (some (qi o.1)) o.2) : qC X (d + 2) yX12_open cX12_open 3 (some .int) [qr 70, qi a1, qi a2] S Q := by
  refine q_entry (lv := [(0, qr 70), (1, qi a1), (2, qi a2)]) pn_X12 (Nat.le_of_ble_eq_true rfl) rfl ?_
  unfold M_open at h
  refine q_iload_n dX12_open_0 rfl rfl ?_
  obtain ⟨q2352, h2353, h⟩ := Option.bind_eq_some_iff.mp h
  refine q_callSi (as := [qi a1]) dX12_open_1 ml_X12_305 rfl rfl (Nat.le_of_ble_eq_true rfl) (M_isWater_ok hL d a1 _ _ h2353) rfl ?_
  obtain ⟨c2354, h⟩ := qk_some h
  refine q_if_eq (tgt := 14) dX12_open_4 (by decide) rfl (qRb_R c2354)  (fun g => ?_) (fun g => ?_)
  · rw [if_pos (show q2352.1 = 0 from g)] at h
    refine q_iconst dX12_open_14 rfl rfl ?_
    cases h
    exact q_ireturn dX12_open_15 rfl hQ
  · rw [if_neg (show ¬ (q2352.1 = 0) from g)] at h
    refine q_iload_n dX12_open_7 rfl rfl ?_
    obtain ⟨q2355, h2356, h⟩ := Option.bind_eq_some_iff.mp h
    refine q_callSi (as := [qi a2]) dX12_open_8 ml_X12_283 rfl rfl (Nat.le_of_ble_eq_true rfl) (M_isSlot_ok hL d a2 _ _ h2356) rfl ?_
    obtain ⟨c2357, h⟩ := qk_some h
    refine q_if_ne (tgt := 16) dX12_open_11 (by decide) rfl (qRb_R c2357)  (fun g => ?_) (fun g => ?_)
    · rw [if_neg (show ¬ (q2355.1 = 0) from g)] at h
      refine q_aload_n dX12_open_16 rfl rfl ?_
      refine q_iload_n dX12_open_17 rfl rfl ?_
      refine q_iload_n dX12_open_18 rfl rfl ?_
      obtain ⟨q2361, h2362, h⟩ := Option.bind_eq_some_iff.mp h
      refine q_callVi (as := [qi a1, qi a2]) (c := 70) dX12_open_19 ml_X12_308 rfl rfl (hL 70 (by decide)) sh_70 rfl rfl (Nat.le_of_ble_eq_true rfl) (M_isOpen_ok hL (d + 1) a1 a2 _ _ h2362) rfl ?_
      obtain ⟨c2363, h⟩ := qk_some h
      refine q_if_eq (tgt := 29) dX12_open_22 (by decide) rfl (qRb_R c2363)  (fun g => ?_) (fun g => ?_)
      · rw [if_pos (show q2361.1 = 0 from g)] at h
        refine q_iconst dX12_open_29 rfl rfl ?_
        cases h
        exact q_ireturn dX12_open_30 rfl hQ
      · rw [if_neg (show ¬ (q2361.1 = 0) from g)] at h
        refine q_iconst dX12_open_25 rfl rfl ?_
        refine q_goto (pc' := 30) dX12_open_26 (by decide) ?_
        cases h
        exact q_ireturn dX12_open_30 rfl hQ
    · rw [if_pos (show q2355.1 = 0 from g)] at h
      refine q_iconst dX12_open_14 rfl rfl ?_
      cases h
      exact q_ireturn dX12_open_15 rfl hQ
set_option maxRecDepth 20000 in
theorem M_nextOpen_L2_ok {X : qX} (hL : ∀ c, c < 93 → c ∈ qLs X) (d : Nat) {Q : Option qV → qSto → Prop} : ∀ (n : Nat) (x1 : Int) (x3 : Int) (S : qSto) (o : (qSto ⊕ (Int × qSto))), M_nextOpen_L2 n x1 x3 S = some o → (∀ t, o = Sum.inl t → qW X (d + 1) yX12_nextOpen cX12_nextOpen 4 (some .int) 26 [] [] t Q) → (∀ w, o = Sum.inr w → Q (some (qi w.1)) w.2) → qW X (d + 1) yX12_nextOpen cX12_nextOpen 4 (some .int) 2 [(0, qr 70), (1, qi x1), (3, qi x3)] [] S Q := by
  intro n
  induction n with
  | zero =>
    intro x1 x3 S o h
    simp [M_nextOpen_L2] at h
  | succ n ih =>
    intro x1 x3 S o h hE hR
    rw [M_nextOpen_L2] at h
    refine q_iload_n dX12_nextOpen_2 rfl rfl ?_
    refine q_sipush dX12_nextOpen_3 (by decide) rfl ?_
    obtain ⟨c2370, h⟩ := qk_some h
    refine q_icmp_ge (tgt := 26) dX12_nextOpen_6 (by decide) rfl (qRb_R c2370) ⟨by decide, by decide⟩ (fun g => ?_) (fun g => ?_)
    · rw [if_pos (show 336 ≤ x3 from g)] at h
      cases h
      exact q_pick [] rfl (hE _ rfl)
    · rw [if_neg (show ¬ (336 ≤ x3) from g)] at h
      refine q_aload_n dX12_nextOpen_9 rfl rfl ?_
      refine q_iload_n dX12_nextOpen_10 rfl rfl ?_
      refine q_iload_n dX12_nextOpen_11 rfl rfl ?_
      obtain ⟨q2371, h2372, h⟩ := Option.bind_eq_some_iff.mp h
      refine q_callVi (as := [qi x1, qi x3]) (c := 70) dX12_nextOpen_12 ml_X12_308 rfl rfl (hL 70 (by decide)) sh_70 rfl rfl (Nat.le_of_ble_eq_true rfl) (M_isOpen_ok hL d x1 x3 _ _ h2372) rfl ?_
      obtain ⟨c2373, h⟩ := qk_some h
      refine q_if_eq (tgt := 20) dX12_nextOpen_15 (by decide) rfl (qRb_R c2373)  (fun g => ?_) (fun g => ?_)
      · rw [if_pos (show q2371.1 = 0 from g)] at h
        refine q_iinc (lv' := [(3, qi (x3 + 1)), (0, qr 70), (1, qi x1)]) dX12_nextOpen_20 (by decide) rfl rfl rfl ?_
        refine q_goto (pc' := 2) dX12_nextOpen_23 (by decide) ?_
        exact q_pick [1, 2, 0] rfl (ih x1 (x3 + 1) _ _ h hE hR)
      · rw [if_neg (show ¬ (q2371.1 = 0) from g)] at h
        refine q_iload_n dX12_nextOpen_18 rfl rfl ?_
        cases h
        exact q_ireturn dX12_nextOpen_19 rfl (hR _ rfl)
set_option maxRecDepth 20000 in
theorem M_nextOpen_ok {X : qX} (hL : ∀ c, c < 93 → c ∈ qLs X) (d : Nat) (a1 : Int) (a2 : Int) (S : qSto) (o : (Int × qSto)) (h : M_nextOpen a1 a2 S = some o) (Q : Option qV → qSto → Prop) (hQ : Q (some (qi o.1)) o.2) : qC X (d + 1) yX12_nextOpen cX12_nextOpen 4 (some .int) [qr 70, qi a1, qi a2] S Q := by
  refine q_entry (lv := [(0, qr 70), (1, qi a1), (2, qi a2)]) pn_X12 (Nat.le_of_ble_eq_true rfl) rfl ?_
  unfold M_nextOpen at h
  refine q_iload_n dX12_nextOpen_0 rfl rfl ?_
  refine q_istore_n (lv' := [(3, qi a2), (0, qr 70), (1, qi a1), (2, qi a2)]) dX12_nextOpen_1 (by decide) rfl rfl ?_
  obtain ⟨q2374, h2375, h⟩ := Option.bind_eq_some_iff.mp h
  refine q_pick [1, 2, 0] rfl (M_nextOpen_L2_ok hL d qF a1 a2 _ _ h2375 (fun t2376 e3887 => ?_) (fun w e3887 => ?_))
  · subst e3887
    simp only [Sum.elim_inl] at h
    refine q_iconst dX12_nextOpen_26 rfl rfl ?_
    cases h
    exact q_ireturn dX12_nextOpen_27 rfl hQ
  · subst e3887
    simp only [Sum.elim_inr] at h
    cases h
    exact hQ
set_option maxRecDepth 20000 in
theorem M_next_ok {X : qX} (hL : ∀ c, c < 93 → c ∈ qLs X) (d : Nat) (a1 : Int) (a2 : Int) (S : qSto) (o : (Int × qSto)) (h : M_next a1 a2 S = some o) (Q : Option qV → qSto → Prop) (hQ : Q (some (qi o.1)) o.2) : qC X (d + 2) yX12_next cX12_next 4 (some .int) [qr 70, qi a1, qi a2] S Q := by
  refine q_entry (lv := [(0, qr 70), (1, qi a1), (2, qi a2)]) pn_X12 (Nat.le_of_ble_eq_true rfl) rfl ?_
  unfold M_next at h
  refine q_iload_n dX12_next_0 rfl rfl ?_
  obtain ⟨q2364, h2365, h⟩ := Option.bind_eq_some_iff.mp h
  refine q_callSi (as := [qi a1]) dX12_next_1 ml_X12_305 rfl rfl (Nat.le_of_ble_eq_true rfl) (M_isWater_ok hL d a1 _ _ h2365) rfl ?_
  obtain ⟨c2366, h⟩ := qk_some h
  refine q_if_eq (tgt := 14) dX12_next_4 (by decide) rfl (qRb_R c2366)  (fun g => ?_) (fun g => ?_)
  · rw [if_pos (show q2364.1 = 0 from g)] at h
    refine q_iconst dX12_next_14 rfl rfl ?_
    cases h
    exact q_ireturn dX12_next_15 rfl hQ
  · rw [if_neg (show ¬ (q2364.1 = 0) from g)] at h
    refine q_iload_n dX12_next_7 rfl rfl ?_
    obtain ⟨q2367, h2368, h⟩ := Option.bind_eq_some_iff.mp h
    refine q_callSi (as := [qi a2]) dX12_next_8 ml_X12_283 rfl rfl (Nat.le_of_ble_eq_true rfl) (M_isSlot_ok hL d a2 _ _ h2368) rfl ?_
    obtain ⟨c2369, h⟩ := qk_some h
    refine q_if_ne (tgt := 16) dX12_next_11 (by decide) rfl (qRb_R c2369)  (fun g => ?_) (fun g => ?_)
    · rw [if_neg (show ¬ (q2367.1 = 0) from g)] at h
      refine q_aload_n dX12_next_16 rfl rfl ?_
      refine q_iload_n dX12_next_17 rfl rfl ?_
      refine q_iload_n dX12_next_18 rfl rfl ?_
      obtain ⟨q2377, h2378, h⟩ := Option.bind_eq_some_iff.mp h
      refine q_callVi (as := [qi a1, qi a2]) (c := 70) dX12_next_19 ml_X12_311 rfl rfl (hL 70 (by decide)) sh_70 rfl rfl (Nat.le_of_ble_eq_true rfl) (M_nextOpen_ok hL d a1 a2 _ _ h2378) rfl ?_
      refine q_istore_n (lv' := [(3, qi q2377.1), (0, qr 70), (1, qi a1), (2, qi a2)]) dX12_next_22 (by decide) rfl rfl ?_
      refine q_iload_n dX12_next_23 rfl rfl ?_
      refine q_iconst dX12_next_24 rfl rfl ?_
      obtain ⟨c2379, h⟩ := qk_some h
      refine q_icmp_ne (tgt := 33) dX12_next_25 (by decide) rfl (qRb_R c2379) ⟨by decide, by decide⟩ (fun g => ?_) (fun g => ?_)
      · rw [if_neg (show ¬ (q2377.1 = (-1)) from g)] at h
        refine q_iload_n dX12_next_33 rfl rfl ?_
        cases h
        exact q_ireturn dX12_next_34 rfl hQ
      · rw [if_pos (show q2377.1 = (-1) from g)] at h
        refine q_bipush dX12_next_28 (by decide) rfl ?_
        refine q_goto (pc' := 34) dX12_next_30 (by decide) ?_
        cases h
        exact q_ireturn dX12_next_34 rfl hQ
    · rw [if_pos (show q2367.1 = 0 from g)] at h
      refine q_iconst dX12_next_14 rfl rfl ?_
      cases h
      exact q_ireturn dX12_next_15 rfl hQ
set_option maxRecDepth 20000 in
theorem M_shut_L31_ok {X : qX} (hL : ∀ c, c < 93 → c ∈ qLs X) (d : Nat) {Q : Option qV → qSto → Prop} : ∀ (n : Nat) (x1 : Int) (x2 : Int) (x3 : Int) (x4 : Int) (x5 : Int) (x6 : Int) (S : qSto) (o : (Int × Int × qSto)), M_shut_L31 n x1 x3 x4 x5 x6 S = some o → (qW X (d + 2) yX12_shut cX12_shut 7 (some .int) 86 [(2, qi x2), (3, qi o.1), (4, qi o.2.1)] [] o.2.2 Q) → qW X (d + 2) yX12_shut cX12_shut 7 (some .int) 31 [(0, qr 70), (1, qi x1), (2, qi x2), (3, qi x3), (4, qi x4), (5, qi x5), (6, qi x6)] [] S Q := by
  intro n
  induction n with
  | zero =>
    intro x1 x2 x3 x4 x5 x6 S o h
    simp [M_shut_L31] at h
  | succ n ih =>
    intro x1 x2 x3 x4 x5 x6 S o h hE
    rw [M_shut_L31] at h
    refine q_iload dX12_shut_31 rfl rfl ?_
    refine q_sipush dX12_shut_33 (by decide) rfl ?_
    obtain ⟨c2387, h⟩ := qk_some h
    refine q_icmp_ge (tgt := 86) dX12_shut_36 (by decide) rfl (qRb_R c2387) ⟨by decide, by decide⟩ (fun g => ?_) (fun g => ?_)
    · rw [if_pos (show 336 ≤ x6 from g)] at h
      cases h
      exact q_pick [2, 3, 4] rfl (hE)
    · rw [if_neg (show ¬ (336 ≤ x6) from g)] at h
      refine q_aload_n dX12_shut_39 rfl rfl ?_
      refine q_iload_n dX12_shut_40 rfl rfl ?_
      refine q_iload dX12_shut_41 rfl rfl ?_
      obtain ⟨q2388, h2389, h⟩ := Option.bind_eq_some_iff.mp h
      refine q_callVi (as := [qi x1, qi x6]) (c := 70) dX12_shut_43 ml_X12_308 rfl rfl (hL 70 (by decide)) sh_70 rfl rfl (Nat.le_of_ble_eq_true rfl) (M_isOpen_ok hL (d + 1) x1 x6 _ _ h2389) rfl ?_
      refine q_jn (G := fun (t2391 : Int) => qW X (d + 2) yX12_shut cX12_shut 7 (some .int) 57 [(0, qr 70), (1, qi x1), (2, qi x2), (3, qi x3), (4, qi x4), (6, qi x6)] [qi t2391] q2388.2 Q) h (fun t2391 h => ?_) (fun t2391 h hk3888 => ?_)
      · try dsimp only at h
        refine q_istore (lv' := [(5, qi t2391), (0, qr 70), (1, qi x1), (2, qi x2), (3, qi x3), (4, qi x4), (6, qi x6)]) dX12_shut_57 (by decide) rfl rfl ?_
        refine q_iload dX12_shut_59 rfl rfl ?_
        refine q_iload_n dX12_shut_61 rfl rfl ?_
        refine q_jn (G := fun (t2394 : (Int × Int)) => qW X (d + 2) yX12_shut cX12_shut 7 (some .int) 80 [(0, qr 70), (1, qi x1), (2, qi x2), (3, qi t2394.1), (4, qi t2394.2), (5, qi t2391), (6, qi x6)] [] q2388.2 Q) h (fun t2394 h => ?_) (fun t2394 h hk3889 => ?_)
        · try dsimp only at h
          refine q_iinc (lv' := [(6, qi (x6 + 1)), (0, qr 70), (1, qi x1), (2, qi x2), (3, qi t2394.1), (4, qi t2394.2), (5, qi t2391)]) dX12_shut_80 (by decide) rfl rfl rfl ?_
          refine q_goto (pc' := 31) dX12_shut_83 (by decide) ?_
          exact q_pick [1, 2, 3, 4, 5, 6, 0] rfl (ih x1 x2 t2394.1 t2394.2 t2391 (x6 + 1) _ _ h hE)
        · skip
          obtain ⟨c2392, h⟩ := qk_some h
          obtain ⟨c2393, h⟩ := qk_some h
          refine q_icmp_gt (tgt := 68) dX12_shut_62 (by decide) rfl (qRb_R c2392) (qRb_R c2393) (fun g => ?_) (fun g => ?_)
          · rw [if_pos (show x3 < t2391 from g)] at h
            refine q_iload dX12_shut_68 rfl rfl ?_
            refine q_istore_n (lv' := [(3, qi t2391), (5, qi t2391), (0, qr 70), (1, qi x1), (2, qi x2), (4, qi x4), (6, qi x6)]) dX12_shut_70 (by decide) rfl rfl ?_
            refine q_iload dX12_shut_71 rfl rfl ?_
            refine q_iload dX12_shut_73 rfl rfl ?_
            refine q_isub dX12_shut_75 rfl ?_
            refine q_iconst dX12_shut_76 rfl rfl ?_
            refine q_iadd dX12_shut_77 rfl ?_
            refine q_istore (lv' := [(4, qi ((x6 - t2391) + 1)), (3, qi t2391), (5, qi t2391), (0, qr 70), (1, qi x1), (2, qi x2), (6, qi x6)]) dX12_shut_78 (by decide) rfl rfl ?_
            cases h
            exact q_pick [3, 4, 5, 1, 0, 2, 6] rfl hk3889
          · rw [if_neg (show ¬ (x3 < t2391) from g)] at h
            refine q_goto (pc' := 80) dX12_shut_65 (by decide) ?_
            cases h
            exact q_pick [1, 2, 3, 4, 5, 0, 6] rfl hk3889
      · skip
        obtain ⟨c2390, h⟩ := qk_some h
        refine q_if_eq (tgt := 53) dX12_shut_46 (by decide) rfl (qRb_R c2390)  (fun g => ?_) (fun g => ?_)
        · rw [if_pos (show q2388.1 = 0 from g)] at h
          refine q_iload dX12_shut_53 rfl rfl ?_
          refine q_iconst dX12_shut_55 rfl rfl ?_
          refine q_iadd dX12_shut_56 rfl ?_
          cases h
          exact q_pick [0, 1, 2, 3, 4, 6] rfl hk3888
        · rw [if_neg (show ¬ (q2388.1 = 0) from g)] at h
          refine q_iconst dX12_shut_49 rfl rfl ?_
          refine q_goto (pc' := 57) dX12_shut_50 (by decide) ?_
          cases h
          exact q_pick [0, 1, 2, 3, 4, 6] rfl hk3888
set_option maxRecDepth 20000 in
theorem M_shut_ok {X : qX} (hL : ∀ c, c < 93 → c ∈ qLs X) (d : Nat) (a1 : Int) (a2 : Int) (S : qSto) (o : (Int × qSto)) (h : M_shut a1 a2 S = some o) (Q : Option qV → qSto → Prop) (hQ : Q (some (qi o.1)) o.2) : qC X (d + 2) yX12_shut cX12_shut 7 (some .int) [qr 70, qi a1, qi a2] S Q := by
  refine q_entry (lv := [(0, qr 70), (1, qi a1), (2, qi a2)]) pn_X12 (Nat.le_of_ble_eq_true rfl) rfl ?_
  unfold M_shut at h
  refine q_iload_n dX12_shut_0 rfl rfl ?_
  obtain ⟨q2380, h2381, h⟩ := Option.bind_eq_some_iff.mp h
  refine q_callSi (as := [qi a1]) dX12_shut_1 ml_X12_305 rfl rfl (Nat.le_of_ble_eq_true rfl) (M_isWater_ok hL d a1 _ _ h2381) rfl ?_
  obtain ⟨c2382, h⟩ := qk_some h
  refine q_if_eq (tgt := 17) dX12_shut_4 (by decide) rfl (qRb_R c2382)  (fun g => ?_) (fun g => ?_)
  · rw [if_pos (show q2380.1 = 0 from g)] at h
    refine q_iconst dX12_shut_17 rfl rfl ?_
    cases h
    exact q_ireturn dX12_shut_18 rfl hQ
  · rw [if_neg (show ¬ (q2380.1 = 0) from g)] at h
    refine q_iload_n dX12_shut_7 rfl rfl ?_
    obtain ⟨c2383, h⟩ := qk_some h
    refine q_i2l dX12_shut_8 (qRb_R c2383) rfl ?_
    refine q_lconst (v := 0) dX12_shut_9 rfl rfl ?_
    refine q_lconst (v := 1) dX12_shut_10 rfl rfl ?_
    obtain ⟨q2384, h2385, h⟩ := Option.bind_eq_some_iff.mp h
    refine q_callSi (as := [ql a2, ql 0, ql 1]) dX12_shut_11 ml_X12_99 rfl rfl (Nat.le_of_ble_eq_true rfl) (M_in_ok hL (d + 1) a2 0 1 _ _ h2385) rfl ?_
    obtain ⟨c2386, h⟩ := qk_some h
    refine q_if_ne (tgt := 19) dX12_shut_14 (by decide) rfl (qRb_R c2386)  (fun g => ?_) (fun g => ?_)
    · rw [if_neg (show ¬ (q2384.1 = 0) from g)] at h
      refine q_iconst dX12_shut_19 rfl rfl ?_
      refine q_istore_n (lv' := [(3, qi 0), (0, qr 70), (1, qi a1), (2, qi a2)]) dX12_shut_20 (by decide) rfl rfl ?_
      refine q_bipush dX12_shut_21 (by decide) rfl ?_
      refine q_istore (lv' := [(4, qi (-2)), (3, qi 0), (0, qr 70), (1, qi a1), (2, qi a2)]) dX12_shut_23 (by decide) rfl rfl ?_
      refine q_iconst dX12_shut_25 rfl rfl ?_
      refine q_istore (lv' := [(5, qi 0), (4, qi (-2)), (3, qi 0), (0, qr 70), (1, qi a1), (2, qi a2)]) dX12_shut_26 (by decide) rfl rfl ?_
      refine q_iconst dX12_shut_28 rfl rfl ?_
      refine q_istore (lv' := [(6, qi 0), (5, qi 0), (4, qi (-2)), (3, qi 0), (0, qr 70), (1, qi a1), (2, qi a2)]) dX12_shut_29 (by decide) rfl rfl ?_
      obtain ⟨q2395, h2396, h⟩ := Option.bind_eq_some_iff.mp h
      refine q_pick [4, 5, 6, 3, 2, 1, 0] rfl (M_shut_L31_ok hL d qF a1 a2 0 (-2) 0 0 _ _ h2396 ?_)
      refine q_iload_n dX12_shut_86 rfl rfl ?_
      obtain ⟨c2397, h⟩ := qk_some h
      refine q_if_ne (tgt := 94) dX12_shut_87 (by decide) rfl (qRb_R c2397)  (fun g => ?_) (fun g => ?_)
      · rw [if_neg (show ¬ (a2 = 0) from g)] at h
        refine q_iload dX12_shut_94 rfl rfl ?_
        cases h
        exact q_ireturn dX12_shut_96 rfl hQ
      · rw [if_pos (show a2 = 0 from g)] at h
        refine q_iload_n dX12_shut_90 rfl rfl ?_
        refine q_goto (pc' := 96) dX12_shut_91 (by decide) ?_
        cases h
        exact q_ireturn dX12_shut_96 rfl hQ
    · rw [if_pos (show q2384.1 = 0 from g)] at h
      refine q_iconst dX12_shut_17 rfl rfl ?_
      cases h
      exact q_ireturn dX12_shut_18 rfl hQ
set_option maxRecDepth 20000 in
theorem M_tide_L42_ok {X : qX} (hL : ∀ c, c < 93 → c ∈ qLs X) (d : Nat) {Q : Option qV → qSto → Prop} : ∀ (n : Nat) (x2 : Int) (x3 : Int) (x4 : Int) (x5 : Int) (x6 : Int) (S : qSto) (o : (Int × Int × qSto)), M_tide_L42 n x2 x4 x5 x6 S = some o → (qW X (d + 2) yX12_tide cX12_tide 7 (some .int) 106 [(0, qr 70), (3, qi x3), (4, qi o.1), (5, qi o.2.1)] [] o.2.2 Q) → qW X (d + 2) yX12_tide cX12_tide 7 (some .int) 42 [(0, qr 70), (2, qi x2), (3, qi x3), (4, qi x4), (5, qi x5), (6, qi x6)] [] S Q := by
  intro n
  induction n with
  | zero =>
    intro x2 x3 x4 x5 x6 S o h
    simp [M_tide_L42] at h
  | succ n ih =>
    intro x2 x3 x4 x5 x6 S o h hE
    rw [M_tide_L42] at h
    refine q_iload dX12_tide_42 rfl rfl ?_
    refine q_iload_n dX12_tide_44 rfl rfl ?_
    obtain ⟨c2410, h⟩ := qk_some h
    obtain ⟨c2411, h⟩ := qk_some h
    refine q_icmp_gt (tgt := 106) dX12_tide_45 (by decide) rfl (qRb_R c2410) (qRb_R c2411) (fun g => ?_) (fun g => ?_)
    · rw [if_pos (show x2 < x6 from g)] at h
      cases h
      exact q_pick [0, 2, 3, 4] rfl (hE)
    · rw [if_neg (show ¬ (x2 < x6) from g)] at h
      refine q_aload_n dX12_tide_48 rfl rfl ?_
      refine q_getA dX12_tide_49 fl_X12_33 (hL 70 (by decide)) sh_70 (by decide) rfl rfl ?_
      refine q_iload dX12_tide_52 rfl rfl ?_
      obtain ⟨c2412, h⟩ := qk_some h
      refine q_iaload dX12_tide_54 (hL 77 (by decide)) sh_77 (qIx_0 c2412) (qIx_1 c2412) rfl ?_
      refine q_aload_n dX12_tide_55 rfl rfl ?_
      refine q_getA dX12_tide_56 fl_X12_33 (hL 70 (by decide)) sh_70 (by decide) rfl rfl ?_
      refine q_iload dX12_tide_59 rfl rfl ?_
      obtain ⟨c2413, h⟩ := qk_some h
      refine q_iaload dX12_tide_61 (hL 77 (by decide)) sh_77 (qIx_0 c2413) (qIx_1 c2413) rfl ?_
      refine q_jn (G := fun (t2416 : Int) => qW X (d + 2) yX12_tide cX12_tide 7 (some .int) 72 [(0, qr 70), (2, qi x2), (3, qi x3), (5, qi x5), (6, qi x6)] [qi t2416] S Q) h (fun t2416 h => ?_) (fun t2416 h hk3890 => ?_)
      · try dsimp only at h
        refine q_istore (lv' := [(4, qi t2416), (0, qr 70), (2, qi x2), (3, qi x3), (5, qi x5), (6, qi x6)]) dX12_tide_72 (by decide) rfl rfl ?_
        refine q_aload_n dX12_tide_74 rfl rfl ?_
        refine q_getA dX12_tide_75 fl_X12_33 (hL 70 (by decide)) sh_70 (by decide) rfl rfl ?_
        refine q_iload dX12_tide_78 rfl rfl ?_
        obtain ⟨c2417, h⟩ := qk_some h
        refine q_iaload dX12_tide_80 (hL 77 (by decide)) sh_77 (qIx_0 c2417) (qIx_1 c2417) rfl ?_
        refine q_aload_n dX12_tide_81 rfl rfl ?_
        refine q_getA dX12_tide_82 fl_X12_33 (hL 70 (by decide)) sh_70 (by decide) rfl rfl ?_
        refine q_iload dX12_tide_85 rfl rfl ?_
        obtain ⟨c2418, h⟩ := qk_some h
        refine q_iaload dX12_tide_87 (hL 77 (by decide)) sh_77 (qIx_0 c2418) (qIx_1 c2418) rfl ?_
        refine q_jn (G := fun (t2421 : Int) => qW X (d + 2) yX12_tide cX12_tide 7 (some .int) 98 [(0, qr 70), (2, qi x2), (3, qi x3), (4, qi t2416), (6, qi x6)] [qi t2421] S Q) h (fun t2421 h => ?_) (fun t2421 h hk3891 => ?_)
        · try dsimp only at h
          refine q_istore (lv' := [(5, qi t2421), (0, qr 70), (2, qi x2), (3, qi x3), (4, qi t2416), (6, qi x6)]) dX12_tide_98 (by decide) rfl rfl ?_
          refine q_iinc (lv' := [(6, qi (x6 + 1)), (5, qi t2421), (0, qr 70), (2, qi x2), (3, qi x3), (4, qi t2416)]) dX12_tide_100 (by decide) rfl rfl rfl ?_
          refine q_goto (pc' := 42) dX12_tide_103 (by decide) ?_
          exact q_pick [2, 3, 4, 5, 1, 0] rfl (ih x2 x3 t2416 t2421 (x6 + 1) _ _ h hE)
        · skip
          obtain ⟨c2419, h⟩ := qk_some h
          obtain ⟨c2420, h⟩ := qk_some h
          refine q_icmp_ge (tgt := 96) dX12_tide_88 (by decide) rfl (qRb_R c2419) (qRb_R c2420) (fun g => ?_) (fun g => ?_)
          · rw [if_pos (show (S 77 (Int.toNat x5)) ≤ (S 77 (Int.toNat x6)) from g)] at h
            refine q_iload dX12_tide_96 rfl rfl ?_
            cases h
            exact q_pick [1, 2, 3, 0, 5] rfl hk3891
          · rw [if_neg (show ¬ ((S 77 (Int.toNat x5)) ≤ (S 77 (Int.toNat x6))) from g)] at h
            refine q_iload dX12_tide_91 rfl rfl ?_
            refine q_goto (pc' := 98) dX12_tide_93 (by decide) ?_
            cases h
            exact q_pick [1, 2, 3, 0, 5] rfl hk3891
      · skip
        obtain ⟨c2414, h⟩ := qk_some h
        obtain ⟨c2415, h⟩ := qk_some h
        refine q_icmp_le (tgt := 70) dX12_tide_62 (by decide) rfl (qRb_R c2414) (qRb_R c2415) (fun g => ?_) (fun g => ?_)
        · rw [if_pos (show (S 77 (Int.toNat x6)) ≤ (S 77 (Int.toNat x4)) from g)] at h
          refine q_iload dX12_tide_70 rfl rfl ?_
          cases h
          exact q_pick [0, 1, 2, 4, 5] rfl hk3890
        · rw [if_neg (show ¬ ((S 77 (Int.toNat x6)) ≤ (S 77 (Int.toNat x4))) from g)] at h
          refine q_iload dX12_tide_65 rfl rfl ?_
          refine q_goto (pc' := 72) dX12_tide_67 (by decide) ?_
          cases h
          exact q_pick [0, 1, 2, 4, 5] rfl hk3890
set_option maxRecDepth 20000 in
theorem M_tide_ok {X : qX} (hL : ∀ c, c < 93 → c ∈ qLs X) (d : Nat) (a1 : Int) (a2 : Int) (a3 : Int) (S : qSto) (o : (Int × qSto)) (h : M_tide a1 a2 a3 S = some o) (Q : Option qV → qSto → Prop) (hQ : Q (some (qi o.1)) o.2) : qC X (d + 2) yX12_tide cX12_tide 7 (some .int) [qr 70, qi a1, qi a2, qi a3] S Q := by
  refine q_entry (lv := [(0, qr 70), (1, qi a1), (2, qi a2), (3, qi a3)]) pn_X12 (Nat.le_of_ble_eq_true rfl) rfl ?_
  unfold M_tide at h
  refine q_iload_n dX12_tide_0 rfl rfl ?_
  obtain ⟨q2398, h2399, h⟩ := Option.bind_eq_some_iff.mp h
  refine q_callSi (as := [qi a1]) dX12_tide_1 ml_X12_283 rfl rfl (Nat.le_of_ble_eq_true rfl) (M_isSlot_ok hL d a1 _ _ h2399) rfl ?_
  obtain ⟨c2400, h⟩ := qk_some h
  refine q_if_eq (tgt := 31) dX12_tide_4 (by decide) rfl (qRb_R c2400)  (fun g => ?_) (fun g => ?_)
  · rw [if_pos (show q2398.1 = 0 from g)] at h
    refine q_iconst dX12_tide_31 rfl rfl ?_
    cases h
    exact q_ireturn dX12_tide_32 rfl hQ
  · rw [if_neg (show ¬ (q2398.1 = 0) from g)] at h
    refine q_iload_n dX12_tide_7 rfl rfl ?_
    obtain ⟨q2401, h2402, h⟩ := Option.bind_eq_some_iff.mp h
    refine q_callSi (as := [qi a2]) dX12_tide_8 ml_X12_283 rfl rfl (Nat.le_of_ble_eq_true rfl) (M_isSlot_ok hL d a2 _ _ h2402) rfl ?_
    obtain ⟨c2403, h⟩ := qk_some h
    refine q_if_eq (tgt := 31) dX12_tide_11 (by decide) rfl (qRb_R c2403)  (fun g => ?_) (fun g => ?_)
    · rw [if_pos (show q2401.1 = 0 from g)] at h
      refine q_iconst dX12_tide_31 rfl rfl ?_
      cases h
      exact q_ireturn dX12_tide_32 rfl hQ
    · rw [if_neg (show ¬ (q2401.1 = 0) from g)] at h
      refine q_iload_n dX12_tide_14 rfl rfl ?_
      refine q_iload_n dX12_tide_15 rfl rfl ?_
      obtain ⟨c2404, h⟩ := qk_some h
      obtain ⟨c2405, h⟩ := qk_some h
      refine q_icmp_lt (tgt := 31) dX12_tide_16 (by decide) rfl (qRb_R c2404) (qRb_R c2405) (fun g => ?_) (fun g => ?_)
      · rw [if_pos (show a2 < a1 from g)] at h
        refine q_iconst dX12_tide_31 rfl rfl ?_
        cases h
        exact q_ireturn dX12_tide_32 rfl hQ
      · rw [if_neg (show ¬ (a2 < a1) from g)] at h
        refine q_iload_n dX12_tide_19 rfl rfl ?_
        obtain ⟨c2406, h⟩ := qk_some h
        refine q_i2l dX12_tide_20 (qRb_R c2406) rfl ?_
        refine q_lconst (v := 0) dX12_tide_21 rfl rfl ?_
        refine q_ldc2 (v := 3) dX12_tide_22 qw_1729 rfl ?_
        obtain ⟨q2407, h2408, h⟩ := Option.bind_eq_some_iff.mp h
        refine q_callSi (as := [ql a3, ql 0, ql 3]) dX12_tide_25 ml_X12_99 rfl rfl (Nat.le_of_ble_eq_true rfl) (M_in_ok hL (d + 1) a3 0 3 _ _ h2408) rfl ?_
        obtain ⟨c2409, h⟩ := qk_some h
        refine q_if_ne (tgt := 33) dX12_tide_28 (by decide) rfl (qRb_R c2409)  (fun g => ?_) (fun g => ?_)
        · rw [if_neg (show ¬ (q2407.1 = 0) from g)] at h
          refine q_iload_n dX12_tide_33 rfl rfl ?_
          refine q_istore (lv' := [(4, qi a1), (0, qr 70), (1, qi a1), (2, qi a2), (3, qi a3)]) dX12_tide_34 (by decide) rfl rfl ?_
          refine q_iload_n dX12_tide_36 rfl rfl ?_
          refine q_istore (lv' := [(5, qi a1), (4, qi a1), (0, qr 70), (1, qi a1), (2, qi a2), (3, qi a3)]) dX12_tide_37 (by decide) rfl rfl ?_
          refine q_iload_n dX12_tide_39 rfl rfl ?_
          refine q_istore (lv' := [(6, qi a1), (5, qi a1), (4, qi a1), (0, qr 70), (1, qi a1), (2, qi a2), (3, qi a3)]) dX12_tide_40 (by decide) rfl rfl ?_
          obtain ⟨q2422, h2423, h⟩ := Option.bind_eq_some_iff.mp h
          refine q_pick [3, 5, 6, 2, 1, 0] rfl (M_tide_L42_ok hL d qF a2 a3 a1 a1 a1 _ _ h2423 ?_)
          refine q_iload_n dX12_tide_106 rfl rfl ?_
          obtain ⟨c2424, h⟩ := qk_some h
          by_cases e3892 : a3 = 0
          · rw [if_pos e3892] at h
            refine q_tsw (tgt := 151) dX12_tide_107 (qRb_R c2424) (by decide) (fun g => absurd g (by rw [e3892]; decide)) (fun _ _ => ⟨25, 132, by rw [e3892]; rfl, by decide, ?_⟩)
            refine q_aload_n dX12_tide_132 rfl rfl ?_
            refine q_getA dX12_tide_133 fl_X12_33 (hL 70 (by decide)) sh_70 (by decide) rfl rfl ?_
            refine q_iload dX12_tide_136 rfl rfl ?_
            obtain ⟨c2425, h⟩ := qk_some h
            refine q_iaload dX12_tide_138 (hL 77 (by decide)) sh_77 (qIx_0 c2425) (qIx_1 c2425) rfl ?_
            cases h
            exact q_ireturn dX12_tide_139 rfl hQ
          · rw [if_neg e3892] at h
            by_cases e3893 : a3 = 1
            · rw [if_pos e3893] at h
              refine q_tsw (tgt := 151) dX12_tide_107 (qRb_R c2424) (by decide) (fun g => absurd g (by rw [e3893]; decide)) (fun _ _ => ⟨33, 140, by rw [e3893]; rfl, by decide, ?_⟩)
              refine q_iload dX12_tide_140 rfl rfl ?_
              cases h
              exact q_ireturn dX12_tide_142 rfl hQ
            · rw [if_neg e3893] at h
              by_cases e3894 : a3 = 2
              · rw [if_pos e3894] at h
                refine q_tsw (tgt := 151) dX12_tide_107 (qRb_R c2424) (by decide) (fun g => absurd g (by rw [e3894]; decide)) (fun _ _ => ⟨36, 143, by rw [e3894]; rfl, by decide, ?_⟩)
                refine q_aload_n dX12_tide_143 rfl rfl ?_
                refine q_getA dX12_tide_144 fl_X12_33 (hL 70 (by decide)) sh_70 (by decide) rfl rfl ?_
                refine q_iload dX12_tide_147 rfl rfl ?_
                obtain ⟨c2426, h⟩ := qk_some h
                refine q_iaload dX12_tide_149 (hL 77 (by decide)) sh_77 (qIx_0 c2426) (qIx_1 c2426) rfl ?_
                cases h
                exact q_ireturn dX12_tide_150 rfl hQ
              · rw [if_neg e3894] at h
                refine q_tsw (tgt := 151) dX12_tide_107 (qRb_R c2424) (by decide) (fun _ => ?_) (fun g1 g2 => absurd g1 (by omega))
                refine q_iload dX12_tide_151 rfl rfl ?_
                cases h
                exact q_ireturn dX12_tide_153 rfl hQ
        · rw [if_pos (show q2407.1 = 0 from g)] at h
          refine q_iconst dX12_tide_31 rfl rfl ?_
          cases h
          exact q_ireturn dX12_tide_32 rfl hQ
set_option maxRecDepth 20000 in
theorem M_workBy_ok {X : qX} (hL : ∀ c, c < 93 → c ∈ qLs X) (d : Nat) (a1 : Int) (a2 : Int) (S : qSto) (o : (Int × qSto)) (h : M_workBy a1 a2 S = some o) (Q : Option qV → qSto → Prop) (hQ : Q (some (qi o.1)) o.2) : qC X (d + 1) yX12_workBy cX12_workBy 5 (some .int) [qr 70, qi a1, qi a2] S Q := by
  refine q_entry (lv := [(0, qr 70), (1, qi a1), (2, qi a2)]) pn_X12 (Nat.le_of_ble_eq_true rfl) rfl ?_
  unfold M_workBy at h
  refine q_aload_n dX12_workBy_0 rfl rfl ?_
  refine q_iload_n dX12_workBy_1 rfl rfl ?_
  obtain ⟨q2460, h2461, h⟩ := Option.bind_eq_some_iff.mp h
  refine q_callVi (as := [qi a2]) (c := 70) dX12_workBy_2 ml_X12_294 rfl rfl (hL 70 (by decide)) sh_70 rfl rfl (Nat.le_of_ble_eq_true rfl) (M_movesBy_ok hL d a2 _ _ h2461) rfl ?_
  refine q_istore_n (lv' := [(3, qi q2460.1), (0, qr 70), (1, qi a1), (2, qi a2)]) dX12_workBy_5 (by decide) rfl rfl ?_
  refine q_aload_n dX12_workBy_6 rfl rfl ?_
  refine q_iload_n dX12_workBy_7 rfl rfl ?_
  refine q_iconst dX12_workBy_8 rfl rfl ?_
  obtain ⟨q2462, h2463, h⟩ := Option.bind_eq_some_iff.mp h
  refine q_callVi (as := [qi a1, qi 3]) (c := 70) dX12_workBy_9 ml_X12_316 rfl rfl (hL 70 (by decide)) sh_70 rfl rfl (Nat.le_of_ble_eq_true rfl) (M_of_ok hL d a1 3 _ _ h2463) rfl ?_
  refine q_iload_n dX12_workBy_12 rfl rfl ?_
  refine q_iadd dX12_workBy_13 rfl ?_
  refine q_iconst dX12_workBy_14 rfl rfl ?_
  refine q_isub dX12_workBy_15 rfl ?_
  refine q_iload_n dX12_workBy_16 rfl rfl ?_
  obtain ⟨c2464, h⟩ := qk_some h
  obtain ⟨c2465, h⟩ := qk_some h
  obtain ⟨c2466, h⟩ := qk_some h
  refine q_idiv dX12_workBy_17 (qRb_R c2464) (qRb_R c2465) (qNz_ne c2466) rfl ?_
  refine q_istore (lv' := [(4, qi (Int.tdiv ((q2462.1 + q2460.1) - 1) q2460.1)), (3, qi q2460.1), (0, qr 70), (1, qi a1), (2, qi a2)]) dX12_workBy_18 (by decide) rfl rfl ?_
  refine q_iload dX12_workBy_20 rfl rfl ?_
  refine q_iconst dX12_workBy_22 rfl rfl ?_
  obtain ⟨c2467, h⟩ := qk_some h
  refine q_icmp_ge (tgt := 30) dX12_workBy_23 (by decide) rfl (qRb_R c2467) ⟨by decide, by decide⟩ (fun g => ?_) (fun g => ?_)
  · rw [if_pos (show 1 ≤ (Int.tdiv ((q2462.1 + q2460.1) - 1) q2460.1) from g)] at h
    refine q_iload dX12_workBy_30 rfl rfl ?_
    cases h
    exact q_ireturn dX12_workBy_32 rfl hQ
  · rw [if_neg (show ¬ (1 ≤ (Int.tdiv ((q2462.1 + q2460.1) - 1) q2460.1)) from g)] at h
    refine q_iconst dX12_workBy_26 rfl rfl ?_
    refine q_goto (pc' := 32) dX12_workBy_27 (by decide) ?_
    cases h
    exact q_ireturn dX12_workBy_32 rfl hQ
set_option maxRecDepth 20000 in
theorem M_leaveBy_ok {X : qX} (hL : ∀ c, c < 93 → c ∈ qLs X) (d : Nat) (a1 : Int) (a2 : Int) (a3 : Int) (S : qSto) (o : (Int × qSto)) (h : M_leaveBy a1 a2 a3 S = some o) (Q : Option qV → qSto → Prop) (hQ : Q (some (qi o.1)) o.2) : qC X (d + 2) yX12_leaveBy cX12_leaveBy 4 (some .int) [qr 70, qi a1, qi a2, qi a3] S Q := by
  refine q_entry (lv := [(0, qr 70), (1, qi a1), (2, qi a2), (3, qi a3)]) pn_X12 (Nat.le_of_ble_eq_true rfl) rfl ?_
  unfold M_leaveBy at h
  refine q_aload_n dX12_leaveBy_0 rfl rfl ?_
  refine q_aload_n dX12_leaveBy_1 rfl rfl ?_
  refine q_iload_n dX12_leaveBy_2 rfl rfl ?_
  refine q_iconst dX12_leaveBy_3 rfl rfl ?_
  obtain ⟨q2458, h2459, h⟩ := Option.bind_eq_some_iff.mp h
  refine q_callVi (as := [qi a1, qi 2]) (c := 70) dX12_leaveBy_4 ml_X12_316 rfl rfl (hL 70 (by decide)) sh_70 rfl rfl (Nat.le_of_ble_eq_true rfl) (M_of_ok hL (d + 1) a1 2 _ _ h2459) rfl ?_
  refine q_iload_n dX12_leaveBy_7 rfl rfl ?_
  refine q_aload_n dX12_leaveBy_8 rfl rfl ?_
  refine q_iload_n dX12_leaveBy_9 rfl rfl ?_
  refine q_iload_n dX12_leaveBy_10 rfl rfl ?_
  obtain ⟨q2468, h2469, h⟩ := Option.bind_eq_some_iff.mp h
  refine q_callVi (as := [qi a1, qi a3]) (c := 70) dX12_leaveBy_11 ml_X12_319 rfl rfl (hL 70 (by decide)) sh_70 rfl rfl (Nat.le_of_ble_eq_true rfl) (M_workBy_ok hL d a1 a3 _ _ h2469) rfl ?_
  refine q_iadd dX12_leaveBy_14 rfl ?_
  obtain ⟨q2470, h2471, h⟩ := Option.bind_eq_some_iff.mp h
  refine q_callVi (as := [qi q2458.1, qi (a2 + q2468.1)]) (c := 70) dX12_leaveBy_15 ml_X12_311 rfl rfl (hL 70 (by decide)) sh_70 rfl rfl (Nat.le_of_ble_eq_true rfl) (M_nextOpen_ok hL d q2458.1 (a2 + q2468.1) _ _ h2471) rfl ?_
  cases h
  exact q_ireturn dX12_leaveBy_18 rfl hQ
set_option maxRecDepth 20000 in
theorem M_earlyLaw_ok {X : qX} (hL : ∀ c, c < 93 → c ∈ qLs X) (d : Nat) (a1 : Int) (a2 : Int) (a4 : Int) (a6 : Int) (S : qSto) (o : (Int × qSto)) (h : M_earlyLaw a1 a2 a4 a6 S = some o) (Q : Option qV → qSto → Prop) (hQ : Q (some (qi o.1)) o.2) : qC X (d + 3) yX12_earlyLaw cX12_earlyLaw 7 (some .int) [qr 70, qi a1, ql a2, ql a4, qi a6] S Q := by
  refine q_entry (lv := [(0, qr 70), (1, qi a1), (2, ql a2), (4, ql a4), (6, qi a6)]) pn_X12 (Nat.le_of_ble_eq_true rfl) rfl ?_
  unfold M_earlyLaw at h
  refine q_lload_n dX12_earlyLaw_0 rfl rfl ?_
  refine q_lconst (v := 0) dX12_earlyLaw_1 rfl rfl ?_
  obtain ⟨c2432, h⟩ := qk_some h
  refine q_lcmp dX12_earlyLaw_2 (qRLb_R c2432) ⟨by decide, by decide⟩ rfl ?_
  refine q_if_lt (tgt := 26) dX12_earlyLaw_3 (by decide) rfl (q3_R _ _)  (fun g => ?_) (fun g => ?_)
  · rw [if_pos (show a2 < 0 from (q3_lt _ _).mp g)] at h
    refine q_iconst dX12_earlyLaw_26 rfl rfl ?_
    cases h
    exact q_ireturn dX12_earlyLaw_27 rfl hQ
  · rw [if_neg (show ¬ (a2 < 0) from fun e => g ((q3_lt _ _).mpr e))] at h
    refine q_lload_n dX12_earlyLaw_6 rfl rfl ?_
    refine q_aload_n dX12_earlyLaw_7 rfl rfl ?_
    refine q_iload_n dX12_earlyLaw_8 rfl rfl ?_
    refine q_iconst dX12_earlyLaw_9 rfl rfl ?_
    obtain ⟨q2433, h2434, h⟩ := Option.bind_eq_some_iff.mp h
    refine q_callVi (as := [qi a1, qi 0]) (c := 70) dX12_earlyLaw_10 ml_X12_316 rfl rfl (hL 70 (by decide)) sh_70 rfl rfl (Nat.le_of_ble_eq_true rfl) (M_of_ok hL (d + 2) a1 0 _ _ h2434) rfl ?_
    obtain ⟨c2435, h⟩ := qk_some h
    refine q_i2l dX12_earlyLaw_13 (qRb_R c2435) rfl ?_
    refine q_ladd dX12_earlyLaw_14 rfl ?_
    refine q_aload_n dX12_earlyLaw_15 rfl rfl ?_
    refine q_getA dX12_earlyLaw_16 fl_X12_13 (hL 70 (by decide)) sh_70 (by decide) rfl rfl ?_
    refine q_iconst dX12_earlyLaw_19 rfl rfl ?_
    refine q_iaload dX12_earlyLaw_20 (hL 72 (by decide)) sh_72 (by decide) (by decide) rfl ?_
    obtain ⟨c2436, h⟩ := qk_some h
    refine q_i2l dX12_earlyLaw_21 (qRb_R c2436) rfl ?_
    obtain ⟨c2437, h⟩ := qk_some h
    obtain ⟨c2438, h⟩ := qk_some h
    refine q_lcmp dX12_earlyLaw_22 (qRLb_R c2437) (qRLb_R c2438) rfl ?_
    refine q_if_le (tgt := 28) dX12_earlyLaw_23 (by decide) rfl (q3_R _ _)  (fun g => ?_) (fun g => ?_)
    · rw [if_pos (show (a2 + q2433.1) ≤ (q2433.2 72 0) from (q3_le _ _).mp g)] at h
      refine q_lload dX12_earlyLaw_28 rfl rfl ?_
      refine q_aload_n dX12_earlyLaw_30 rfl rfl ?_
      refine q_iload_n dX12_earlyLaw_31 rfl rfl ?_
      refine q_iconst dX12_earlyLaw_32 rfl rfl ?_
      obtain ⟨q2439, h2440, h⟩ := Option.bind_eq_some_iff.mp h
      refine q_callVi (as := [qi a1, qi 4]) (c := 70) dX12_earlyLaw_33 ml_X12_316 rfl rfl (hL 70 (by decide)) sh_70 rfl rfl (Nat.le_of_ble_eq_true rfl) (M_of_ok hL (d + 2) a1 4 _ _ h2440) rfl ?_
      obtain ⟨c2441, h⟩ := qk_some h
      refine q_i2l dX12_earlyLaw_36 (qRb_R c2441) rfl ?_
      obtain ⟨c2442, h⟩ := qk_some h
      obtain ⟨c2443, h⟩ := qk_some h
      refine q_lcmp dX12_earlyLaw_37 (qRLb_R c2442) (qRLb_R c2443) rfl ?_
      refine q_if_ge (tgt := 43) dX12_earlyLaw_38 (by decide) rfl (q3_R _ _)  (fun g => ?_) (fun g => ?_)
      · rw [if_pos (show q2439.1 ≤ a4 from (q3_ge _ _).mp g)] at h
        refine q_iload dX12_earlyLaw_43 rfl rfl ?_
        refine q_aload_n dX12_earlyLaw_45 rfl rfl ?_
        refine q_iload_n dX12_earlyLaw_46 rfl rfl ?_
        refine q_bipush dX12_earlyLaw_47 (by decide) rfl ?_
        obtain ⟨q2444, h2445, h⟩ := Option.bind_eq_some_iff.mp h
        refine q_callVi (as := [qi a1, qi 7]) (c := 70) dX12_earlyLaw_49 ml_X12_316 rfl rfl (hL 70 (by decide)) sh_70 rfl rfl (Nat.le_of_ble_eq_true rfl) (M_of_ok hL (d + 2) a1 7 _ _ h2445) rfl ?_
        obtain ⟨c2446, h⟩ := qk_some h
        obtain ⟨c2447, h⟩ := qk_some h
        refine q_icmp_lt (tgt := 67) dX12_earlyLaw_52 (by decide) rfl (qRb_R c2446) (qRb_R c2447) (fun g => ?_) (fun g => ?_)
        · rw [if_pos (show a6 < q2444.1 from g)] at h
          refine q_iconst dX12_earlyLaw_67 rfl rfl ?_
          cases h
          exact q_ireturn dX12_earlyLaw_68 rfl hQ
        · rw [if_neg (show ¬ (a6 < q2444.1) from g)] at h
          refine q_iload dX12_earlyLaw_55 rfl rfl ?_
          refine q_aload_n dX12_earlyLaw_57 rfl rfl ?_
          refine q_iload_n dX12_earlyLaw_58 rfl rfl ?_
          refine q_bipush dX12_earlyLaw_59 (by decide) rfl ?_
          obtain ⟨q2448, h2449, h⟩ := Option.bind_eq_some_iff.mp h
          refine q_callVi (as := [qi a1, qi 8]) (c := 70) dX12_earlyLaw_61 ml_X12_316 rfl rfl (hL 70 (by decide)) sh_70 rfl rfl (Nat.le_of_ble_eq_true rfl) (M_of_ok hL (d + 2) a1 8 _ _ h2449) rfl ?_
          obtain ⟨c2450, h⟩ := qk_some h
          obtain ⟨c2451, h⟩ := qk_some h
          refine q_icmp_le (tgt := 69) dX12_earlyLaw_64 (by decide) rfl (qRb_R c2450) (qRb_R c2451) (fun g => ?_) (fun g => ?_)
          · rw [if_pos (show a6 ≤ q2448.1 from g)] at h
            refine q_lload dX12_earlyLaw_69 rfl rfl ?_
            refine q_ldc2 (v := 335) dX12_earlyLaw_71 qw_1661 rfl ?_
            obtain ⟨c2452, h⟩ := qk_some h
            refine q_lcmp dX12_earlyLaw_74 (qRLb_R c2452) ⟨by decide, by decide⟩ rfl ?_
            refine q_if_gt (tgt := 94) dX12_earlyLaw_75 (by decide) rfl (q3_R _ _)  (fun g => ?_) (fun g => ?_)
            · rw [if_pos (show 335 < a4 from (q3_gt _ _).mp g)] at h
              refine q_iconst dX12_earlyLaw_94 rfl rfl ?_
              cases h
              exact q_ireturn dX12_earlyLaw_95 rfl hQ
            · rw [if_neg (show ¬ (335 < a4) from fun e => g ((q3_gt _ _).mpr e))] at h
              refine q_aload_n dX12_earlyLaw_78 rfl rfl ?_
              refine q_aload_n dX12_earlyLaw_79 rfl rfl ?_
              refine q_iload_n dX12_earlyLaw_80 rfl rfl ?_
              refine q_iconst dX12_earlyLaw_81 rfl rfl ?_
              obtain ⟨q2453, h2454, h⟩ := Option.bind_eq_some_iff.mp h
              refine q_callVi (as := [qi a1, qi 1]) (c := 70) dX12_earlyLaw_82 ml_X12_316 rfl rfl (hL 70 (by decide)) sh_70 rfl rfl (Nat.le_of_ble_eq_true rfl) (M_of_ok hL (d + 2) a1 1 _ _ h2454) rfl ?_
              refine q_lload dX12_earlyLaw_85 rfl rfl ?_
              refine q_l2i dX12_earlyLaw_87 rfl ?_
              obtain ⟨q2455, h2456, h⟩ := Option.bind_eq_some_iff.mp h
              refine q_callVi (as := [qi q2453.1, qi a4]) (c := 70) dX12_earlyLaw_88 ml_X12_308 rfl rfl (hL 70 (by decide)) sh_70 rfl rfl (Nat.le_of_ble_eq_true rfl) (M_isOpen_ok hL (d + 2) q2453.1 a4 _ _ h2456) rfl ?_
              obtain ⟨c2457, h⟩ := qk_some h
              refine q_if_ne (tgt := 96) dX12_earlyLaw_91 (by decide) rfl (qRb_R c2457)  (fun g => ?_) (fun g => ?_)
              · rw [if_neg (show ¬ (q2455.1 = 0) from g)] at h
                refine q_aload_n dX12_earlyLaw_96 rfl rfl ?_
                refine q_iload_n dX12_earlyLaw_97 rfl rfl ?_
                refine q_lload dX12_earlyLaw_98 rfl rfl ?_
                refine q_l2i dX12_earlyLaw_100 rfl ?_
                refine q_iload dX12_earlyLaw_101 rfl rfl ?_
                obtain ⟨q2472, h2473, h⟩ := Option.bind_eq_some_iff.mp h
                refine q_callVi (as := [qi a1, qi a4, qi a6]) (c := 70) dX12_earlyLaw_103 ml_X12_322 rfl rfl (hL 70 (by decide)) sh_70 rfl rfl (Nat.le_of_ble_eq_true rfl) (M_leaveBy_ok hL d a1 a4 a6 _ _ h2473) rfl ?_
                refine q_iconst dX12_earlyLaw_106 rfl rfl ?_
                obtain ⟨c2474, h⟩ := qk_some h
                refine q_icmp_ne (tgt := 114) dX12_earlyLaw_107 (by decide) rfl (qRb_R c2474) ⟨by decide, by decide⟩ (fun g => ?_) (fun g => ?_)
                · rw [if_neg (show ¬ (q2472.1 = (-1)) from g)] at h
                  refine q_iconst dX12_earlyLaw_114 rfl rfl ?_
                  cases h
                  exact q_ireturn dX12_earlyLaw_115 rfl hQ
                · rw [if_pos (show q2472.1 = (-1) from g)] at h
                  refine q_iconst dX12_earlyLaw_110 rfl rfl ?_
                  refine q_goto (pc' := 115) dX12_earlyLaw_111 (by decide) ?_
                  cases h
                  exact q_ireturn dX12_earlyLaw_115 rfl hQ
              · rw [if_pos (show q2455.1 = 0 from g)] at h
                refine q_iconst dX12_earlyLaw_94 rfl rfl ?_
                cases h
                exact q_ireturn dX12_earlyLaw_95 rfl hQ
          · rw [if_neg (show ¬ (a6 ≤ q2448.1) from g)] at h
            refine q_iconst dX12_earlyLaw_67 rfl rfl ?_
            cases h
            exact q_ireturn dX12_earlyLaw_68 rfl hQ
      · rw [if_neg (show ¬ (q2439.1 ≤ a4) from fun e => g ((q3_ge _ _).mpr e))] at h
        refine q_iconst dX12_earlyLaw_41 rfl rfl ?_
        cases h
        exact q_ireturn dX12_earlyLaw_42 rfl hQ
    · rw [if_neg (show ¬ ((a2 + q2433.1) ≤ (q2433.2 72 0)) from fun e => g ((q3_le _ _).mpr e))] at h
      refine q_iconst dX12_earlyLaw_26 rfl rfl ?_
      cases h
      exact q_ireturn dX12_earlyLaw_27 rfl hQ
set_option maxRecDepth 20000 in
theorem M_lay_ok {X : qX} (hL : ∀ c, c < 93 → c ∈ qLs X) (d : Nat) (a1 : Int) (a2 : Int) (a3 : Int) (a4 : Int) (S : qSto) (o : qSto) (h : M_lay a1 a2 a3 a4 S = some o) (Q : Option qV → qSto → Prop) (hQ : Q none o) : qC X (d + 3) yX12_lay cX12_lay 5 none [qr 70, qi a1, qi a2, qi a3, qi a4] S Q := by
  refine q_entry (lv := [(0, qr 70), (1, qi a1), (2, qi a2), (3, qi a3), (4, qi a4)]) pn_X12 (Nat.le_of_ble_eq_true rfl) rfl ?_
  unfold M_lay at h
  refine q_aload_n dX12_lay_0 rfl rfl ?_
  refine q_getA dX12_lay_1 fl_X12_36 (hL 70 (by decide)) sh_70 (by decide) rfl rfl ?_
  refine q_iload_n dX12_lay_4 rfl rfl ?_
  refine q_iload_n dX12_lay_5 rfl rfl ?_
  obtain ⟨c2481, h⟩ := qk_some h
  refine q_iastore dX12_lay_6 (hL 78 (by decide)) sh_78 (qIx_0 c2481) (qIx_1 c2481) rfl ?_
  refine q_aload_n dX12_lay_7 rfl rfl ?_
  refine q_getA dX12_lay_8 fl_X12_39 (hL 70 (by decide)) sh_70 (by decide) rfl rfl ?_
  refine q_iload_n dX12_lay_11 rfl rfl ?_
  refine q_iload_n dX12_lay_12 rfl rfl ?_
  obtain ⟨c2482, h⟩ := qk_some h
  refine q_iastore dX12_lay_13 (hL 79 (by decide)) sh_79 (qIx_0 c2482) (qIx_1 c2482) rfl ?_
  refine q_aload_n dX12_lay_14 rfl rfl ?_
  refine q_getA dX12_lay_15 fl_X12_42 (hL 70 (by decide)) sh_70 (by decide) rfl rfl ?_
  refine q_iload_n dX12_lay_18 rfl rfl ?_
  refine q_iload dX12_lay_19 rfl rfl ?_
  obtain ⟨c2483, h⟩ := qk_some h
  refine q_iastore dX12_lay_21 (hL 80 (by decide)) sh_80 (qIx_0 c2483) (qIx_1 c2483) rfl ?_
  refine q_aload_n dX12_lay_22 rfl rfl ?_
  refine q_getA dX12_lay_23 fl_X12_45 (hL 70 (by decide)) sh_70 (by decide) rfl rfl ?_
  refine q_iload_n dX12_lay_26 rfl rfl ?_
  refine q_iload dX12_lay_27 rfl rfl ?_
  refine q_jn (G := fun (t2487 : (Int × qSto)) => qW X (d + 3) yX12_lay cX12_lay 5 none 43 [(0, qr 70), (1, qi a1), (3, qi a3), (4, qi a4)] [qi t2487.1, qi a1, qr 81] t2487.2 Q) h (fun t2487 h => ?_) (fun t2487 h hk3895 => ?_)
  · try dsimp only at h
    obtain ⟨c2488, h⟩ := qk_some h
    refine q_iastore dX12_lay_43 (hL 81 (by decide)) sh_81 (qIx_0 c2488) (qIx_1 c2488) rfl ?_
    refine q_aload_n dX12_lay_44 rfl rfl ?_
    refine q_getA dX12_lay_45 fl_X12_48 (hL 70 (by decide)) sh_70 (by decide) rfl rfl ?_
    refine q_iload_n dX12_lay_48 rfl rfl ?_
    refine q_iload dX12_lay_49 rfl rfl ?_
    obtain ⟨c2489, h⟩ := qk_some h
    refine q_if_ne (tgt := 58) dX12_lay_51 (by decide) rfl (qRb_R c2489)  (fun g => ?_) (fun g => ?_)
    · rw [if_neg (show ¬ (a4 = 0) from g)] at h
      refine q_aload_n dX12_lay_58 rfl rfl ?_
      refine q_iload_n dX12_lay_59 rfl rfl ?_
      refine q_iload_n dX12_lay_60 rfl rfl ?_
      refine q_iload dX12_lay_61 rfl rfl ?_
      obtain ⟨q2490, h2491, h⟩ := Option.bind_eq_some_iff.mp h
      refine q_callVi (as := [qi a1, qi a3, qi a4]) (c := 70) dX12_lay_63 ml_X12_322 rfl rfl (hL 70 (by decide)) sh_70 rfl rfl (Nat.le_of_ble_eq_true rfl) (M_leaveBy_ok hL d a1 a3 a4 _ _ h2491) rfl ?_
      obtain ⟨c2492, h⟩ := qk_some h
      refine q_iastore dX12_lay_66 (hL 82 (by decide)) sh_82 (qIx_0 c2492) (qIx_1 c2492) rfl ?_
      cases h
      exact q_return dX12_lay_67 rfl hQ
    · rw [if_pos (show a4 = 0 from g)] at h
      refine q_iconst dX12_lay_54 rfl rfl ?_
      refine q_goto (pc' := 66) dX12_lay_55 (by decide) ?_
      obtain ⟨c2493, h⟩ := qk_some h
      refine q_iastore dX12_lay_66 (hL 82 (by decide)) sh_82 (qIx_0 c2493) (qIx_1 c2493) rfl ?_
      cases h
      exact q_return dX12_lay_67 rfl hQ
  · skip
    obtain ⟨c2484, h⟩ := qk_some h
    refine q_if_ne (tgt := 36) dX12_lay_29 (by decide) rfl (qRb_R c2484)  (fun g => ?_) (fun g => ?_)
    · rw [if_neg (show ¬ (a4 = 0) from g)] at h
      refine q_aload_n dX12_lay_36 rfl rfl ?_
      refine q_iload_n dX12_lay_37 rfl rfl ?_
      refine q_iload dX12_lay_38 rfl rfl ?_
      obtain ⟨q2485, h2486, h⟩ := Option.bind_eq_some_iff.mp h
      refine q_callVi (as := [qi a1, qi a4]) (c := 70) dX12_lay_40 ml_X12_319 rfl rfl (hL 70 (by decide)) sh_70 rfl rfl (Nat.le_of_ble_eq_true rfl) (M_workBy_ok hL (d + 1) a1 a4 _ _ h2486) rfl ?_
      cases h
      exact q_pick [0, 1, 3, 4] rfl hk3895
    · rw [if_pos (show a4 = 0 from g)] at h
      refine q_iconst dX12_lay_32 rfl rfl ?_
      refine q_goto (pc' := 43) dX12_lay_33 (by decide) ?_
      cases h
      exact q_pick [0, 1, 3, 4] rfl hk3895
set_option maxRecDepth 20000 in
theorem M_lastMetre_ok {X : qX} (hL : ∀ c, c < 93 → c ∈ qLs X) (d : Nat) (a1 : Int) (S : qSto) (o : (Int × qSto)) (h : M_lastMetre a1 S = some o) (Q : Option qV → qSto → Prop) (hQ : Q (some (qi o.1)) o.2) : qC X (d + 1) yX12_lastMetre cX12_lastMetre 2 (some .int) [qr 70, qi a1] S Q := by
  refine q_entry (lv := [(0, qr 70), (1, qi a1)]) pn_X12 (Nat.le_of_ble_eq_true rfl) rfl ?_
  unfold M_lastMetre at h
  refine q_aload_n dX12_lastMetre_0 rfl rfl ?_
  refine q_getA dX12_lastMetre_1 fl_X12_36 (hL 70 (by decide)) sh_70 (by decide) rfl rfl ?_
  refine q_iload_n dX12_lastMetre_4 rfl rfl ?_
  obtain ⟨c2497, h⟩ := qk_some h
  refine q_iaload dX12_lastMetre_5 (hL 78 (by decide)) sh_78 (qIx_0 c2497) (qIx_1 c2497) rfl ?_
  refine q_aload_n dX12_lastMetre_6 rfl rfl ?_
  refine q_iload_n dX12_lastMetre_7 rfl rfl ?_
  refine q_iconst dX12_lastMetre_8 rfl rfl ?_
  obtain ⟨q2498, h2499, h⟩ := Option.bind_eq_some_iff.mp h
  refine q_callVi (as := [qi a1, qi 0]) (c := 70) dX12_lastMetre_9 ml_X12_316 rfl rfl (hL 70 (by decide)) sh_70 rfl rfl (Nat.le_of_ble_eq_true rfl) (M_of_ok hL d a1 0 _ _ h2499) rfl ?_
  refine q_iadd dX12_lastMetre_12 rfl ?_
  refine q_iconst dX12_lastMetre_13 rfl rfl ?_
  refine q_isub dX12_lastMetre_14 rfl ?_
  cases h
  exact q_ireturn dX12_lastMetre_15 rfl hQ
set_option maxRecDepth 20000 in
theorem M_lowestIn_L19_ok {X : qX} (hL : ∀ c, c < 93 → c ∈ qLs X) (d : Nat) {Q : Option qV → qSto → Prop} : ∀ (n : Nat) (x1 : Int) (x2 : Int) (x3 : Int) (S : qSto) (o : (Int × qSto)), M_lowestIn_L19 n x1 x2 x3 S = some o → (qW X d yX12_lowestIn cX12_lowestIn 4 (some .int) 56 [(2, qi o.1)] [] o.2 Q) → qW X d yX12_lowestIn cX12_lowestIn 4 (some .int) 19 [(0, qr 70), (1, qi x1), (2, qi x2), (3, qi x3)] [] S Q := by
  intro n
  induction n with
  | zero =>
    intro x1 x2 x3 S o h
    simp [M_lowestIn_L19] at h
  | succ n ih =>
    intro x1 x2 x3 S o h hE
    rw [M_lowestIn_L19] at h
    refine q_iload_n dX12_lowestIn_19 rfl rfl ?_
    refine q_aload_n dX12_lowestIn_20 rfl rfl ?_
    refine q_getA dX12_lowestIn_21 fl_X12_48 (hL 70 (by decide)) sh_70 (by decide) rfl rfl ?_
    refine q_iload_n dX12_lowestIn_24 rfl rfl ?_
    obtain ⟨c2507, h⟩ := qk_some h
    refine q_iaload dX12_lowestIn_25 (hL 82 (by decide)) sh_82 (qIx_0 c2507) (qIx_1 c2507) rfl ?_
    obtain ⟨c2508, h⟩ := qk_some h
    obtain ⟨c2509, h⟩ := qk_some h
    refine q_icmp_ge (tgt := 56) dX12_lowestIn_26 (by decide) rfl (qRb_R c2508) (qRb_R c2509) (fun g => ?_) (fun g => ?_)
    · rw [if_pos (show (S 82 (Int.toNat x1)) ≤ x3 from g)] at h
      cases h
      exact q_pick [2] rfl (hE)
    · rw [if_neg (show ¬ ((S 82 (Int.toNat x1)) ≤ x3) from g)] at h
      refine q_aload_n dX12_lowestIn_29 rfl rfl ?_
      refine q_getA dX12_lowestIn_30 fl_X12_33 (hL 70 (by decide)) sh_70 (by decide) rfl rfl ?_
      refine q_iload_n dX12_lowestIn_33 rfl rfl ?_
      obtain ⟨c2510, h⟩ := qk_some h
      refine q_iaload dX12_lowestIn_34 (hL 77 (by decide)) sh_77 (qIx_0 c2510) (qIx_1 c2510) rfl ?_
      refine q_iload_n dX12_lowestIn_35 rfl rfl ?_
      refine q_jn (G := fun (t2514 : Int) => qW X d yX12_lowestIn cX12_lowestIn 4 (some .int) 49 [(0, qr 70), (1, qi x1), (3, qi x3)] [qi t2514] S Q) h (fun t2514 h => ?_) (fun t2514 h hk3896 => ?_)
      · try dsimp only at h
        refine q_istore_n (lv' := [(2, qi t2514), (0, qr 70), (1, qi x1), (3, qi x3)]) dX12_lowestIn_49 (by decide) rfl rfl ?_
        refine q_iinc (lv' := [(3, qi (x3 + 1)), (2, qi t2514), (0, qr 70), (1, qi x1)]) dX12_lowestIn_50 (by decide) rfl rfl rfl ?_
        refine q_goto (pc' := 19) dX12_lowestIn_53 (by decide) ?_
        exact q_pick [2, 3, 1, 0] rfl (ih x1 t2514 (x3 + 1) _ _ h hE)
      · skip
        obtain ⟨c2511, h⟩ := qk_some h
        obtain ⟨c2512, h⟩ := qk_some h
        refine q_icmp_ge (tgt := 48) dX12_lowestIn_36 (by decide) rfl (qRb_R c2511) (qRb_R c2512) (fun g => ?_) (fun g => ?_)
        · rw [if_pos (show x2 ≤ (S 77 (Int.toNat x3)) from g)] at h
          refine q_iload_n dX12_lowestIn_48 rfl rfl ?_
          cases h
          exact q_pick [0, 1, 3] rfl hk3896
        · rw [if_neg (show ¬ (x2 ≤ (S 77 (Int.toNat x3))) from g)] at h
          refine q_aload_n dX12_lowestIn_39 rfl rfl ?_
          refine q_getA dX12_lowestIn_40 fl_X12_33 (hL 70 (by decide)) sh_70 (by decide) rfl rfl ?_
          refine q_iload_n dX12_lowestIn_43 rfl rfl ?_
          obtain ⟨c2513, h⟩ := qk_some h
          refine q_iaload dX12_lowestIn_44 (hL 77 (by decide)) sh_77 (qIx_0 c2513) (qIx_1 c2513) rfl ?_
          refine q_goto (pc' := 49) dX12_lowestIn_45 (by decide) ?_
          cases h
          exact q_pick [0, 1, 3] rfl hk3896
set_option maxRecDepth 20000 in
theorem M_lowestIn_ok {X : qX} (hL : ∀ c, c < 93 → c ∈ qLs X) (d : Nat) (a1 : Int) (S : qSto) (o : (Int × qSto)) (h : M_lowestIn a1 S = some o) (Q : Option qV → qSto → Prop) (hQ : Q (some (qi o.1)) o.2) : qC X d yX12_lowestIn cX12_lowestIn 4 (some .int) [qr 70, qi a1] S Q := by
  refine q_entry (lv := [(0, qr 70), (1, qi a1)]) pn_X12 (Nat.le_of_ble_eq_true rfl) rfl ?_
  unfold M_lowestIn at h
  refine q_aload_n dX12_lowestIn_0 rfl rfl ?_
  refine q_getA dX12_lowestIn_1 fl_X12_33 (hL 70 (by decide)) sh_70 (by decide) rfl rfl ?_
  refine q_aload_n dX12_lowestIn_4 rfl rfl ?_
  refine q_getA dX12_lowestIn_5 fl_X12_39 (hL 70 (by decide)) sh_70 (by decide) rfl rfl ?_
  refine q_iload_n dX12_lowestIn_8 rfl rfl ?_
  obtain ⟨c2504, h⟩ := qk_some h
  refine q_iaload dX12_lowestIn_9 (hL 79 (by decide)) sh_79 (qIx_0 c2504) (qIx_1 c2504) rfl ?_
  obtain ⟨c2505, h⟩ := qk_some h
  refine q_iaload dX12_lowestIn_10 (hL 77 (by decide)) sh_77 (qIx_0 c2505) (qIx_1 c2505) rfl ?_
  refine q_istore_n (lv' := [(2, qi (S 77 (Int.toNat (S 79 (Int.toNat a1))))), (0, qr 70), (1, qi a1)]) dX12_lowestIn_11 (by decide) rfl rfl ?_
  refine q_aload_n dX12_lowestIn_12 rfl rfl ?_
  refine q_getA dX12_lowestIn_13 fl_X12_39 (hL 70 (by decide)) sh_70 (by decide) rfl rfl ?_
  refine q_iload_n dX12_lowestIn_16 rfl rfl ?_
  obtain ⟨c2506, h⟩ := qk_some h
  refine q_iaload dX12_lowestIn_17 (hL 79 (by decide)) sh_79 (qIx_0 c2506) (qIx_1 c2506) rfl ?_
  refine q_istore_n (lv' := [(3, qi (S 79 (Int.toNat a1))), (2, qi (S 77 (Int.toNat (S 79 (Int.toNat a1))))), (0, qr 70), (1, qi a1)]) dX12_lowestIn_18 (by decide) rfl rfl ?_
  obtain ⟨q2515, h2516, h⟩ := Option.bind_eq_some_iff.mp h
  refine q_pick [2, 3, 1, 0] rfl (M_lowestIn_L19_ok hL d qF a1 (S 77 (Int.toNat (S 79 (Int.toNat a1)))) (S 79 (Int.toNat a1)) _ _ h2516 ?_)
  refine q_iload_n dX12_lowestIn_56 rfl rfl ?_
  cases h
  exact q_ireturn dX12_lowestIn_57 rfl hQ
set_option maxRecDepth 20000 in
theorem M_needOf_ok {X : qX} (hL : ∀ c, c < 93 → c ∈ qLs X) (d : Nat) (a1 : Int) (S : qSto) (o : (Int × qSto)) (h : M_needOf a1 S = some o) (Q : Option qV → qSto → Prop) (hQ : Q (some (qi o.1)) o.2) : qC X (d + 1) yX12_needOf cX12_needOf 3 (some .int) [qr 70, qi a1] S Q := by
  refine q_entry (lv := [(0, qr 70), (1, qi a1)]) pn_X12 (Nat.le_of_ble_eq_true rfl) rfl ?_
  unfold M_needOf at h
  refine q_aload_n dX12_needOf_0 rfl rfl ?_
  refine q_iload_n dX12_needOf_1 rfl rfl ?_
  refine q_iconst dX12_needOf_2 rfl rfl ?_
  obtain ⟨q2519, h2520, h⟩ := Option.bind_eq_some_iff.mp h
  refine q_callVi (as := [qi a1, qi 1]) (c := 70) dX12_needOf_3 ml_X12_316 rfl rfl (hL 70 (by decide)) sh_70 rfl rfl (Nat.le_of_ble_eq_true rfl) (M_of_ok hL d a1 1 _ _ h2520) rfl ?_
  refine q_aload_n dX12_needOf_6 rfl rfl ?_
  refine q_iload_n dX12_needOf_7 rfl rfl ?_
  refine q_iconst dX12_needOf_8 rfl rfl ?_
  obtain ⟨q2521, h2522, h⟩ := Option.bind_eq_some_iff.mp h
  refine q_callVi (as := [qi a1, qi 2]) (c := 70) dX12_needOf_9 ml_X12_316 rfl rfl (hL 70 (by decide)) sh_70 rfl rfl (Nat.le_of_ble_eq_true rfl) (M_of_ok hL d a1 2 _ _ h2522) rfl ?_
  refine q_jn (G := fun (t2529 : (Int × qSto)) => qW X (d + 1) yX12_needOf cX12_needOf 3 (some .int) 30 [(0, qr 70)] [qi t2529.1] t2529.2 Q) h (fun t2529 h => ?_) (fun t2529 h hk3897 => ?_)
  · try dsimp only at h
    refine q_istore_n (lv' := [(2, qi t2529.1), (0, qr 70)]) dX12_needOf_30 (by decide) rfl rfl ?_
    refine q_iload_n dX12_needOf_31 rfl rfl ?_
    refine q_aload_n dX12_needOf_32 rfl rfl ?_
    refine q_getA dX12_needOf_33 fl_X12_13 (hL 70 (by decide)) sh_70 (by decide) rfl rfl ?_
    refine q_iconst dX12_needOf_36 rfl rfl ?_
    refine q_iaload dX12_needOf_37 (hL 72 (by decide)) sh_72 (by decide) (by decide) rfl ?_
    refine q_iadd dX12_needOf_38 rfl ?_
    cases h
    exact q_ireturn dX12_needOf_39 rfl hQ
  · skip
    obtain ⟨c2523, h⟩ := qk_some h
    obtain ⟨c2524, h⟩ := qk_some h
    refine q_icmp_le (tgt := 24) dX12_needOf_12 (by decide) rfl (qRb_R c2523) (qRb_R c2524) (fun g => ?_) (fun g => ?_)
    · rw [if_pos (show q2519.1 ≤ q2521.1 from g)] at h
      refine q_aload_n dX12_needOf_24 rfl rfl ?_
      refine q_iload_n dX12_needOf_25 rfl rfl ?_
      refine q_iconst dX12_needOf_26 rfl rfl ?_
      obtain ⟨q2525, h2526, h⟩ := Option.bind_eq_some_iff.mp h
      refine q_callVi (as := [qi a1, qi 2]) (c := 70) dX12_needOf_27 ml_X12_316 rfl rfl (hL 70 (by decide)) sh_70 rfl rfl (Nat.le_of_ble_eq_true rfl) (M_of_ok hL d a1 2 _ _ h2526) rfl ?_
      cases h
      exact q_pick [0] rfl hk3897
    · rw [if_neg (show ¬ (q2519.1 ≤ q2521.1) from g)] at h
      refine q_aload_n dX12_needOf_15 rfl rfl ?_
      refine q_iload_n dX12_needOf_16 rfl rfl ?_
      refine q_iconst dX12_needOf_17 rfl rfl ?_
      obtain ⟨q2527, h2528, h⟩ := Option.bind_eq_some_iff.mp h
      refine q_callVi (as := [qi a1, qi 1]) (c := 70) dX12_needOf_18 ml_X12_316 rfl rfl (hL 70 (by decide)) sh_70 rfl rfl (Nat.le_of_ble_eq_true rfl) (M_of_ok hL d a1 1 _ _ h2528) rfl ?_
      refine q_goto (pc' := 30) dX12_needOf_21 (by decide) ?_
      cases h
      exact q_pick [0] rfl hk3897
set_option maxRecDepth 20000 in
theorem M_shareSlots_ok {X : qX} (hL : ∀ c, c < 93 → c ∈ qLs X) (d : Nat) (a1 : Int) (a2 : Int) (S : qSto) (o : (Int × qSto)) (h : M_shareSlots a1 a2 S = some o) (Q : Option qV → qSto → Prop) (hQ : Q (some (qi o.1)) o.2) : qC X d yX12_shareSlots cX12_shareSlots 3 (some .boolean) [qr 70, qi a1, qi a2] S Q := by
  refine q_entry (lv := [(0, qr 70), (1, qi a1), (2, qi a2)]) pn_X12 (Nat.le_of_ble_eq_true rfl) rfl ?_
  unfold M_shareSlots at h
  refine q_aload_n dX12_shareSlots_0 rfl rfl ?_
  refine q_getA dX12_shareSlots_1 fl_X12_39 (hL 70 (by decide)) sh_70 (by decide) rfl rfl ?_
  refine q_iload_n dX12_shareSlots_4 rfl rfl ?_
  obtain ⟨c2541, h⟩ := qk_some h
  refine q_iaload dX12_shareSlots_5 (hL 79 (by decide)) sh_79 (qIx_0 c2541) (qIx_1 c2541) rfl ?_
  refine q_aload_n dX12_shareSlots_6 rfl rfl ?_
  refine q_getA dX12_shareSlots_7 fl_X12_48 (hL 70 (by decide)) sh_70 (by decide) rfl rfl ?_
  refine q_iload_n dX12_shareSlots_10 rfl rfl ?_
  obtain ⟨c2542, h⟩ := qk_some h
  refine q_iaload dX12_shareSlots_11 (hL 82 (by decide)) sh_82 (qIx_0 c2542) (qIx_1 c2542) rfl ?_
  obtain ⟨c2543, h⟩ := qk_some h
  obtain ⟨c2544, h⟩ := qk_some h
  refine q_icmp_ge (tgt := 34) dX12_shareSlots_12 (by decide) rfl (qRb_R c2543) (qRb_R c2544) (fun g => ?_) (fun g => ?_)
  · rw [if_pos (show (S 82 (Int.toNat a2)) ≤ (S 79 (Int.toNat a1)) from g)] at h
    refine q_iconst dX12_shareSlots_34 rfl rfl ?_
    cases h
    exact q_zreturn dX12_shareSlots_35 rfl (by decide) hQ
  · rw [if_neg (show ¬ ((S 82 (Int.toNat a2)) ≤ (S 79 (Int.toNat a1))) from g)] at h
    refine q_aload_n dX12_shareSlots_15 rfl rfl ?_
    refine q_getA dX12_shareSlots_16 fl_X12_39 (hL 70 (by decide)) sh_70 (by decide) rfl rfl ?_
    refine q_iload_n dX12_shareSlots_19 rfl rfl ?_
    obtain ⟨c2545, h⟩ := qk_some h
    refine q_iaload dX12_shareSlots_20 (hL 79 (by decide)) sh_79 (qIx_0 c2545) (qIx_1 c2545) rfl ?_
    refine q_aload_n dX12_shareSlots_21 rfl rfl ?_
    refine q_getA dX12_shareSlots_22 fl_X12_48 (hL 70 (by decide)) sh_70 (by decide) rfl rfl ?_
    refine q_iload_n dX12_shareSlots_25 rfl rfl ?_
    obtain ⟨c2546, h⟩ := qk_some h
    refine q_iaload dX12_shareSlots_26 (hL 82 (by decide)) sh_82 (qIx_0 c2546) (qIx_1 c2546) rfl ?_
    obtain ⟨c2547, h⟩ := qk_some h
    obtain ⟨c2548, h⟩ := qk_some h
    refine q_icmp_ge (tgt := 34) dX12_shareSlots_27 (by decide) rfl (qRb_R c2547) (qRb_R c2548) (fun g => ?_) (fun g => ?_)
    · rw [if_pos (show (S 82 (Int.toNat a1)) ≤ (S 79 (Int.toNat a2)) from g)] at h
      refine q_iconst dX12_shareSlots_34 rfl rfl ?_
      cases h
      exact q_zreturn dX12_shareSlots_35 rfl (by decide) hQ
    · rw [if_neg (show ¬ ((S 82 (Int.toNat a1)) ≤ (S 79 (Int.toNat a2))) from g)] at h
      refine q_iconst dX12_shareSlots_30 rfl rfl ?_
      refine q_goto (pc' := 35) dX12_shareSlots_31 (by decide) ?_
      cases h
      exact q_zreturn dX12_shareSlots_35 rfl (by decide) hQ
set_option maxRecDepth 20000 in
theorem M_areClose_ok {X : qX} (hL : ∀ c, c < 93 → c ∈ qLs X) (d : Nat) (a1 : Int) (a2 : Int) (S : qSto) (o : (Int × qSto)) (h : M_areClose a1 a2 S = some o) (Q : Option qV → qSto → Prop) (hQ : Q (some (qi o.1)) o.2) : qC X (d + 2) yX12_areClose cX12_areClose 3 (some .boolean) [qr 70, qi a1, qi a2] S Q := by
  refine q_entry (lv := [(0, qr 70), (1, qi a1), (2, qi a2)]) pn_X12 (Nat.le_of_ble_eq_true rfl) rfl ?_
  unfold M_areClose at h
  refine q_aload_n dX12_areClose_0 rfl rfl ?_
  refine q_getA dX12_areClose_1 fl_X12_36 (hL 70 (by decide)) sh_70 (by decide) rfl rfl ?_
  refine q_iload_n dX12_areClose_4 rfl rfl ?_
  obtain ⟨c2552, h⟩ := qk_some h
  refine q_iaload dX12_areClose_5 (hL 78 (by decide)) sh_78 (qIx_0 c2552) (qIx_1 c2552) rfl ?_
  refine q_aload_n dX12_areClose_6 rfl rfl ?_
  refine q_iload_n dX12_areClose_7 rfl rfl ?_
  obtain ⟨q2553, h2554, h⟩ := Option.bind_eq_some_iff.mp h
  refine q_callVi (as := [qi a2]) (c := 70) dX12_areClose_8 ml_X12_349 rfl rfl (hL 70 (by decide)) sh_70 rfl rfl (Nat.le_of_ble_eq_true rfl) (M_lastMetre_ok hL d a2 _ _ h2554) rfl ?_
  refine q_isub dX12_areClose_11 rfl ?_
  refine q_aload_n dX12_areClose_12 rfl rfl ?_
  refine q_getA dX12_areClose_13 fl_X12_13 (hL 70 (by decide)) sh_70 (by decide) rfl rfl ?_
  refine q_iconst dX12_areClose_16 rfl rfl ?_
  refine q_iaload dX12_areClose_17 (hL 72 (by decide)) sh_72 (by decide) (by decide) rfl ?_
  obtain ⟨c2555, h⟩ := qk_some h
  obtain ⟨c2556, h⟩ := qk_some h
  refine q_icmp_gt (tgt := 46) dX12_areClose_18 (by decide) rfl (qRb_R c2555) (qRb_R c2556) (fun g => ?_) (fun g => ?_)
  · rw [if_pos (show (q2553.2 72 1) < ((S 78 (Int.toNat a1)) - q2553.1) from g)] at h
    refine q_iconst dX12_areClose_46 rfl rfl ?_
    cases h
    exact q_zreturn dX12_areClose_47 rfl (by decide) hQ
  · rw [if_neg (show ¬ ((q2553.2 72 1) < ((S 78 (Int.toNat a1)) - q2553.1)) from g)] at h
    refine q_aload_n dX12_areClose_21 rfl rfl ?_
    refine q_getA dX12_areClose_22 fl_X12_36 (hL 70 (by decide)) sh_70 (by decide) rfl rfl ?_
    refine q_iload_n dX12_areClose_25 rfl rfl ?_
    obtain ⟨c2557, h⟩ := qk_some h
    refine q_iaload dX12_areClose_26 (hL 78 (by decide)) sh_78 (qIx_0 c2557) (qIx_1 c2557) rfl ?_
    refine q_aload_n dX12_areClose_27 rfl rfl ?_
    refine q_iload_n dX12_areClose_28 rfl rfl ?_
    obtain ⟨q2558, h2559, h⟩ := Option.bind_eq_some_iff.mp h
    refine q_callVi (as := [qi a1]) (c := 70) dX12_areClose_29 ml_X12_349 rfl rfl (hL 70 (by decide)) sh_70 rfl rfl (Nat.le_of_ble_eq_true rfl) (M_lastMetre_ok hL d a1 _ _ h2559) rfl ?_
    refine q_isub dX12_areClose_32 rfl ?_
    refine q_aload_n dX12_areClose_33 rfl rfl ?_
    refine q_getA dX12_areClose_34 fl_X12_13 (hL 70 (by decide)) sh_70 (by decide) rfl rfl ?_
    refine q_iconst dX12_areClose_37 rfl rfl ?_
    refine q_iaload dX12_areClose_38 (hL 72 (by decide)) sh_72 (by decide) (by decide) rfl ?_
    obtain ⟨c2560, h⟩ := qk_some h
    obtain ⟨c2561, h⟩ := qk_some h
    refine q_icmp_gt (tgt := 46) dX12_areClose_39 (by decide) rfl (qRb_R c2560) (qRb_R c2561) (fun g => ?_) (fun g => ?_)
    · rw [if_pos (show (q2558.2 72 1) < ((q2553.2 78 (Int.toNat a2)) - q2558.1) from g)] at h
      refine q_iconst dX12_areClose_46 rfl rfl ?_
      cases h
      exact q_zreturn dX12_areClose_47 rfl (by decide) hQ
    · rw [if_neg (show ¬ ((q2558.2 72 1) < ((q2553.2 78 (Int.toNat a2)) - q2558.1)) from g)] at h
      refine q_iconst dX12_areClose_42 rfl rfl ?_
      refine q_goto (pc' := 47) dX12_areClose_43 (by decide) ?_
      cases h
      exact q_zreturn dX12_areClose_47 rfl (by decide) hQ
set_option maxRecDepth 20000 in
theorem M_waysOf_L4_ok {X : qX} (hL : ∀ c, c < 93 → c ∈ qLs X) (d : Nat) {Q : Option qV → qSto → Prop} : ∀ (n : Nat) (x1 : Int) (x2 : Int) (x3 : Int) (S : qSto) (o : (Int × qSto)), M_waysOf_L4 n x1 x2 x3 S = some o → (qW X (d + 3) yX12_waysOf cX12_waysOf 4 (some .int) 61 [(2, qi o.1)] [] o.2 Q) → qW X (d + 3) yX12_waysOf cX12_waysOf 4 (some .int) 4 [(0, qr 70), (1, qi x1), (2, qi x2), (3, qi x3)] [] S Q := by
  intro n
  induction n with
  | zero =>
    intro x1 x2 x3 S o h
    simp [M_waysOf_L4] at h
  | succ n ih =>
    intro x1 x2 x3 S o h hE
    rw [M_waysOf_L4] at h
    refine q_iload_n dX12_waysOf_4 rfl rfl ?_
    refine q_aload_n dX12_waysOf_5 rfl rfl ?_
    refine q_getA dX12_waysOf_6 fl_X12_13 (hL 70 (by decide)) sh_70 (by decide) rfl rfl ?_
    refine q_bipush dX12_waysOf_9 (by decide) rfl ?_
    refine q_iaload dX12_waysOf_11 (hL 72 (by decide)) sh_72 (by decide) (by decide) rfl ?_
    obtain ⟨c2534, h⟩ := qk_some h
    obtain ⟨c2535, h⟩ := qk_some h
    refine q_icmp_ge (tgt := 61) dX12_waysOf_12 (by decide) rfl (qRb_R c2534) (qRb_R c2535) (fun g => ?_) (fun g => ?_)
    · rw [if_pos (show (S 72 9) ≤ x3 from g)] at h
      cases h
      exact q_pick [2] rfl (hE)
    · rw [if_neg (show ¬ ((S 72 9) ≤ x3) from g)] at h
      refine q_iload_n dX12_waysOf_15 rfl rfl ?_
      refine q_iload_n dX12_waysOf_16 rfl rfl ?_
      refine q_jn (G := fun (t2565 : (Int × qSto)) => qW X (d + 3) yX12_waysOf cX12_waysOf 4 (some .int) 55 [(0, qr 70), (1, qi x1), (2, qi t2565.1), (3, qi x3)] [] t2565.2 Q) h (fun t2565 h => ?_) (fun t2565 h hk3898 => ?_)
      · try dsimp only at h
        refine q_iinc (lv' := [(3, qi (x3 + 1)), (0, qr 70), (1, qi x1), (2, qi t2565.1)]) dX12_waysOf_55 (by decide) rfl rfl rfl ?_
        refine q_goto (pc' := 4) dX12_waysOf_58 (by decide) ?_
        exact q_pick [1, 2, 3, 0] rfl (ih x1 t2565.1 (x3 + 1) _ _ h hE)
      · skip
        obtain ⟨c2536, h⟩ := qk_some h
        obtain ⟨c2537, h⟩ := qk_some h
        refine q_icmp_eq (tgt := 55) dX12_waysOf_17 (by decide) rfl (qRb_R c2536) (qRb_R c2537) (fun g => ?_) (fun g => ?_)
        · rw [if_pos (show x3 = x1 from g)] at h
          cases h
          exact q_pick [0, 1, 2, 3] rfl hk3898
        · rw [if_neg (show ¬ (x3 = x1) from g)] at h
          refine q_aload_n dX12_waysOf_20 rfl rfl ?_
          refine q_iload_n dX12_waysOf_21 rfl rfl ?_
          obtain ⟨q2538, h2539, h⟩ := Option.bind_eq_some_iff.mp h
          refine q_callVi (as := [qi x3]) (c := 70) dX12_waysOf_22 ml_X12_326 rfl rfl (hL 70 (by decide)) sh_70 rfl rfl (Nat.le_of_ble_eq_true rfl) (M_stays_ok hL (d + 2) x3 _ _ h2539) rfl ?_
          obtain ⟨c2540, h⟩ := qk_some h
          refine q_if_eq (tgt := 55) dX12_waysOf_25 (by decide) rfl (qRb_R c2540)  (fun g => ?_) (fun g => ?_)
          · rw [if_pos (show q2538.1 = 0 from g)] at h
            cases h
            exact q_pick [0, 1, 2, 3] rfl hk3898
          · rw [if_neg (show ¬ (q2538.1 = 0) from g)] at h
            refine q_aload_n dX12_waysOf_28 rfl rfl ?_
            refine q_iload_n dX12_waysOf_29 rfl rfl ?_
            refine q_iload_n dX12_waysOf_30 rfl rfl ?_
            obtain ⟨q2549, h2550, h⟩ := Option.bind_eq_some_iff.mp h
            refine q_callVi (as := [qi x1, qi x3]) (c := 70) dX12_waysOf_31 ml_X12_352 rfl rfl (hL 70 (by decide)) sh_70 rfl rfl (Nat.le_of_ble_eq_true rfl) (M_shareSlots_ok hL (d + 2) x1 x3 _ _ h2550) rfl ?_
            obtain ⟨c2551, h⟩ := qk_some h
            refine q_if_eq (tgt := 55) dX12_waysOf_34 (by decide) rfl (qRb_R c2551)  (fun g => ?_) (fun g => ?_)
            · rw [if_pos (show q2549.1 = 0 from g)] at h
              cases h
              exact q_pick [0, 1, 2, 3] rfl hk3898
            · rw [if_neg (show ¬ (q2549.1 = 0) from g)] at h
              refine q_aload_n dX12_waysOf_37 rfl rfl ?_
              refine q_iload_n dX12_waysOf_38 rfl rfl ?_
              refine q_iload_n dX12_waysOf_39 rfl rfl ?_
              obtain ⟨q2562, h2563, h⟩ := Option.bind_eq_some_iff.mp h
              refine q_callVi (as := [qi x1, qi x3]) (c := 70) dX12_waysOf_40 ml_X12_355 rfl rfl (hL 70 (by decide)) sh_70 rfl rfl (Nat.le_of_ble_eq_true rfl) (M_areClose_ok hL d x1 x3 _ _ h2563) rfl ?_
              obtain ⟨c2564, h⟩ := qk_some h
              refine q_if_ne (tgt := 49) dX12_waysOf_43 (by decide) rfl (qRb_R c2564)  (fun g => ?_) (fun g => ?_)
              · rw [if_neg (show ¬ (q2562.1 = 0) from g)] at h
                refine q_iload_n dX12_waysOf_49 rfl rfl ?_
                refine q_iconst dX12_waysOf_50 rfl rfl ?_
                refine q_iload_n dX12_waysOf_51 rfl rfl ?_
                refine q_ishl dX12_waysOf_52 rfl ?_
                refine q_ior dX12_waysOf_53 rfl ?_
                refine q_istore_n (lv' := [(2, qi (qb_ior x2 (qb_ishl 1 x3))), (0, qr 70), (1, qi x1), (3, qi x3)]) dX12_waysOf_54 (by decide) rfl rfl ?_
                cases h
                exact q_pick [1, 2, 0, 3] rfl hk3898
              · rw [if_pos (show q2562.1 = 0 from g)] at h
                refine q_goto (pc' := 55) dX12_waysOf_46 (by decide) ?_
                cases h
                exact q_pick [0, 1, 2, 3] rfl hk3898
set_option maxRecDepth 20000 in
theorem M_waysOf_ok {X : qX} (hL : ∀ c, c < 93 → c ∈ qLs X) (d : Nat) (a1 : Int) (S : qSto) (o : (Int × qSto)) (h : M_waysOf a1 S = some o) (Q : Option qV → qSto → Prop) (hQ : Q (some (qi o.1)) o.2) : qC X (d + 3) yX12_waysOf cX12_waysOf 4 (some .int) [qr 70, qi a1] S Q := by
  refine q_entry (lv := [(0, qr 70), (1, qi a1)]) pn_X12 (Nat.le_of_ble_eq_true rfl) rfl ?_
  unfold M_waysOf at h
  refine q_iconst dX12_waysOf_0 rfl rfl ?_
  refine q_istore_n (lv' := [(2, qi 0), (0, qr 70), (1, qi a1)]) dX12_waysOf_1 (by decide) rfl rfl ?_
  refine q_iconst dX12_waysOf_2 rfl rfl ?_
  refine q_istore_n (lv' := [(3, qi 0), (2, qi 0), (0, qr 70), (1, qi a1)]) dX12_waysOf_3 (by decide) rfl rfl ?_
  obtain ⟨q2566, h2567, h⟩ := Option.bind_eq_some_iff.mp h
  refine q_pick [2, 3, 1, 0] rfl (M_waysOf_L4_ok hL d qF a1 0 0 _ _ h2567 ?_)
  refine q_iload_n dX12_waysOf_61 rfl rfl ?_
  cases h
  exact q_ireturn dX12_waysOf_62 rfl hQ
set_option maxRecDepth 20000 in
theorem M_isAtWork_ok {X : qX} (hL : ∀ c, c < 93 → c ∈ qLs X) (d : Nat) (a1 : Int) (a2 : Int) (S : qSto) (o : (Int × qSto)) (h : M_isAtWork a1 a2 S = some o) (Q : Option qV → qSto → Prop) (hQ : Q (some (qi o.1)) o.2) : qC X (d + 1) yX12_isAtWork cX12_isAtWork 3 (some .boolean) [qr 70, qi a1, qi a2] S Q := by
  refine q_entry (lv := [(0, qr 70), (1, qi a1), (2, qi a2)]) pn_X12 (Nat.le_of_ble_eq_true rfl) rfl ?_
  unfold M_isAtWork at h
  refine q_aload_n dX12_isAtWork_0 rfl rfl ?_
  refine q_iload_n dX12_isAtWork_1 rfl rfl ?_
  obtain ⟨q2578, h2579, h⟩ := Option.bind_eq_some_iff.mp h
  refine q_callVi (as := [qi a1]) (c := 70) dX12_isAtWork_2 ml_X12_326 rfl rfl (hL 70 (by decide)) sh_70 rfl rfl (Nat.le_of_ble_eq_true rfl) (M_stays_ok hL d a1 _ _ h2579) rfl ?_
  obtain ⟨c2580, h⟩ := qk_some h
  refine q_if_eq (tgt := 39) dX12_isAtWork_5 (by decide) rfl (qRb_R c2580)  (fun g => ?_) (fun g => ?_)
  · rw [if_pos (show q2578.1 = 0 from g)] at h
    refine q_iconst dX12_isAtWork_39 rfl rfl ?_
    cases h
    exact q_zreturn dX12_isAtWork_40 rfl (by decide) hQ
  · rw [if_neg (show ¬ (q2578.1 = 0) from g)] at h
    refine q_iload_n dX12_isAtWork_8 rfl rfl ?_
    refine q_aload_n dX12_isAtWork_9 rfl rfl ?_
    refine q_getA dX12_isAtWork_10 fl_X12_39 (hL 70 (by decide)) sh_70 (by decide) rfl rfl ?_
    refine q_iload_n dX12_isAtWork_13 rfl rfl ?_
    obtain ⟨c2581, h⟩ := qk_some h
    refine q_iaload dX12_isAtWork_14 (hL 79 (by decide)) sh_79 (qIx_0 c2581) (qIx_1 c2581) rfl ?_
    obtain ⟨c2582, h⟩ := qk_some h
    obtain ⟨c2583, h⟩ := qk_some h
    refine q_icmp_lt (tgt := 39) dX12_isAtWork_15 (by decide) rfl (qRb_R c2582) (qRb_R c2583) (fun g => ?_) (fun g => ?_)
    · rw [if_pos (show a2 < (q2578.2 79 (Int.toNat a1)) from g)] at h
      refine q_iconst dX12_isAtWork_39 rfl rfl ?_
      cases h
      exact q_zreturn dX12_isAtWork_40 rfl (by decide) hQ
    · rw [if_neg (show ¬ (a2 < (q2578.2 79 (Int.toNat a1))) from g)] at h
      refine q_iload_n dX12_isAtWork_18 rfl rfl ?_
      refine q_aload_n dX12_isAtWork_19 rfl rfl ?_
      refine q_getA dX12_isAtWork_20 fl_X12_39 (hL 70 (by decide)) sh_70 (by decide) rfl rfl ?_
      refine q_iload_n dX12_isAtWork_23 rfl rfl ?_
      obtain ⟨c2584, h⟩ := qk_some h
      refine q_iaload dX12_isAtWork_24 (hL 79 (by decide)) sh_79 (qIx_0 c2584) (qIx_1 c2584) rfl ?_
      refine q_aload_n dX12_isAtWork_25 rfl rfl ?_
      refine q_getA dX12_isAtWork_26 fl_X12_45 (hL 70 (by decide)) sh_70 (by decide) rfl rfl ?_
      refine q_iload_n dX12_isAtWork_29 rfl rfl ?_
      obtain ⟨c2585, h⟩ := qk_some h
      refine q_iaload dX12_isAtWork_30 (hL 81 (by decide)) sh_81 (qIx_0 c2585) (qIx_1 c2585) rfl ?_
      refine q_iadd dX12_isAtWork_31 rfl ?_
      obtain ⟨c2586, h⟩ := qk_some h
      obtain ⟨c2587, h⟩ := qk_some h
      refine q_icmp_ge (tgt := 39) dX12_isAtWork_32 (by decide) rfl (qRb_R c2586) (qRb_R c2587) (fun g => ?_) (fun g => ?_)
      · rw [if_pos (show ((q2578.2 79 (Int.toNat a1)) + (q2578.2 81 (Int.toNat a1))) ≤ a2 from g)] at h
        refine q_iconst dX12_isAtWork_39 rfl rfl ?_
        cases h
        exact q_zreturn dX12_isAtWork_40 rfl (by decide) hQ
      · rw [if_neg (show ¬ (((q2578.2 79 (Int.toNat a1)) + (q2578.2 81 (Int.toNat a1))) ≤ a2) from g)] at h
        refine q_iconst dX12_isAtWork_35 rfl rfl ?_
        refine q_goto (pc' := 40) dX12_isAtWork_36 (by decide) ?_
        cases h
        exact q_zreturn dX12_isAtWork_40 rfl (by decide) hQ
set_option maxRecDepth 20000 in
theorem M_cranesIn_L4_ok {X : qX} (hL : ∀ c, c < 93 → c ∈ qLs X) (d : Nat) {Q : Option qV → qSto → Prop} : ∀ (n : Nat) (x1 : Int) (x2 : Int) (x3 : Int) (S : qSto) (o : (Int × qSto)), M_cranesIn_L4 n x1 x2 x3 S = some o → (qW X (d + 2) yX12_cranesIn cX12_cranesIn 4 (some .int) 43 [(2, qi o.1)] [] o.2 Q) → qW X (d + 2) yX12_cranesIn cX12_cranesIn 4 (some .int) 4 [(0, qr 70), (1, qi x1), (2, qi x2), (3, qi x3)] [] S Q := by
  intro n
  induction n with
  | zero =>
    intro x1 x2 x3 S o h
    simp [M_cranesIn_L4] at h
  | succ n ih =>
    intro x1 x2 x3 S o h hE
    rw [M_cranesIn_L4] at h
    refine q_iload_n dX12_cranesIn_4 rfl rfl ?_
    refine q_aload_n dX12_cranesIn_5 rfl rfl ?_
    refine q_getA dX12_cranesIn_6 fl_X12_13 (hL 70 (by decide)) sh_70 (by decide) rfl rfl ?_
    refine q_bipush dX12_cranesIn_9 (by decide) rfl ?_
    refine q_iaload dX12_cranesIn_11 (hL 72 (by decide)) sh_72 (by decide) (by decide) rfl ?_
    obtain ⟨c2576, h⟩ := qk_some h
    obtain ⟨c2577, h⟩ := qk_some h
    refine q_icmp_ge (tgt := 43) dX12_cranesIn_12 (by decide) rfl (qRb_R c2576) (qRb_R c2577) (fun g => ?_) (fun g => ?_)
    · rw [if_pos (show (S 72 9) ≤ x3 from g)] at h
      cases h
      exact q_pick [2] rfl (hE)
    · rw [if_neg (show ¬ ((S 72 9) ≤ x3) from g)] at h
      refine q_aload_n dX12_cranesIn_15 rfl rfl ?_
      refine q_iload_n dX12_cranesIn_16 rfl rfl ?_
      refine q_iload_n dX12_cranesIn_17 rfl rfl ?_
      obtain ⟨q2588, h2589, h⟩ := Option.bind_eq_some_iff.mp h
      refine q_callVi (as := [qi x3, qi x1]) (c := 70) dX12_cranesIn_18 ml_X12_337 rfl rfl (hL 70 (by decide)) sh_70 rfl rfl (Nat.le_of_ble_eq_true rfl) (M_isAtWork_ok hL d x3 x1 _ _ h2589) rfl ?_
      refine q_jn (G := fun (t2592 : Int) => qW X (d + 2) yX12_cranesIn cX12_cranesIn 4 (some .int) 36 [(0, qr 70), (1, qi x1), (3, qi x3)] [qi t2592] q2588.2 Q) h (fun t2592 h => ?_) (fun t2592 h hk3899 => ?_)
      · try dsimp only at h
        refine q_istore_n (lv' := [(2, qi t2592), (0, qr 70), (1, qi x1), (3, qi x3)]) dX12_cranesIn_36 (by decide) rfl rfl ?_
        refine q_iinc (lv' := [(3, qi (x3 + 1)), (2, qi t2592), (0, qr 70), (1, qi x1)]) dX12_cranesIn_37 (by decide) rfl rfl rfl ?_
        refine q_goto (pc' := 4) dX12_cranesIn_40 (by decide) ?_
        exact q_pick [2, 3, 1, 0] rfl (ih x1 t2592 (x3 + 1) _ _ h hE)
      · skip
        obtain ⟨c2590, h⟩ := qk_some h
        refine q_if_eq (tgt := 35) dX12_cranesIn_21 (by decide) rfl (qRb_R c2590)  (fun g => ?_) (fun g => ?_)
        · rw [if_pos (show q2588.1 = 0 from g)] at h
          refine q_iload_n dX12_cranesIn_35 rfl rfl ?_
          cases h
          exact q_pick [0, 1, 3] rfl hk3899
        · rw [if_neg (show ¬ (q2588.1 = 0) from g)] at h
          refine q_iload_n dX12_cranesIn_24 rfl rfl ?_
          refine q_aload_n dX12_cranesIn_25 rfl rfl ?_
          refine q_getA dX12_cranesIn_26 fl_X12_42 (hL 70 (by decide)) sh_70 (by decide) rfl rfl ?_
          refine q_iload_n dX12_cranesIn_29 rfl rfl ?_
          obtain ⟨c2591, h⟩ := qk_some h
          refine q_iaload dX12_cranesIn_30 (hL 80 (by decide)) sh_80 (qIx_0 c2591) (qIx_1 c2591) rfl ?_
          refine q_iadd dX12_cranesIn_31 rfl ?_
          refine q_goto (pc' := 36) dX12_cranesIn_32 (by decide) ?_
          cases h
          exact q_pick [0, 1, 3] rfl hk3899
set_option maxRecDepth 20000 in
theorem M_cranesIn_ok {X : qX} (hL : ∀ c, c < 93 → c ∈ qLs X) (d : Nat) (a1 : Int) (S : qSto) (o : (Int × qSto)) (h : M_cranesIn a1 S = some o) (Q : Option qV → qSto → Prop) (hQ : Q (some (qi o.1)) o.2) : qC X (d + 2) yX12_cranesIn cX12_cranesIn 4 (some .int) [qr 70, qi a1] S Q := by
  refine q_entry (lv := [(0, qr 70), (1, qi a1)]) pn_X12 (Nat.le_of_ble_eq_true rfl) rfl ?_
  unfold M_cranesIn at h
  refine q_iconst dX12_cranesIn_0 rfl rfl ?_
  refine q_istore_n (lv' := [(2, qi 0), (0, qr 70), (1, qi a1)]) dX12_cranesIn_1 (by decide) rfl rfl ?_
  refine q_iconst dX12_cranesIn_2 rfl rfl ?_
  refine q_istore_n (lv' := [(3, qi 0), (2, qi 0), (0, qr 70), (1, qi a1)]) dX12_cranesIn_3 (by decide) rfl rfl ?_
  obtain ⟨q2593, h2594, h⟩ := Option.bind_eq_some_iff.mp h
  refine q_pick [2, 3, 1, 0] rfl (M_cranesIn_L4_ok hL d qF a1 0 0 _ _ h2594 ?_)
  refine q_iload_n dX12_cranesIn_43 rfl rfl ?_
  cases h
  exact q_ireturn dX12_cranesIn_44 rfl hQ
set_option maxRecDepth 20000 in
theorem M_hasGangs_L7_ok {X : qX} (hL : ∀ c, c < 93 → c ∈ qLs X) (d : Nat) {Q : Option qV → qSto → Prop} : ∀ (n : Nat) (x1 : Int) (x2 : Int) (S : qSto) (o : (qSto ⊕ (Int × qSto))), M_hasGangs_L7 n x1 x2 S = some o → (∀ t, o = Sum.inl t → qW X (d + 3) yX12_hasGangs cX12_hasGangs 3 (some .boolean) 48 [] [] t Q) → (∀ w, o = Sum.inr w → Q (some (qi w.1)) w.2) → qW X (d + 3) yX12_hasGangs cX12_hasGangs 3 (some .boolean) 7 [(0, qr 70), (1, qi x1), (2, qi x2)] [] S Q := by
  intro n
  induction n with
  | zero =>
    intro x1 x2 S o h
    simp [M_hasGangs_L7] at h
  | succ n ih =>
    intro x1 x2 S o h hE hR
    rw [M_hasGangs_L7] at h
    refine q_iload_n dX12_hasGangs_7 rfl rfl ?_
    refine q_aload_n dX12_hasGangs_8 rfl rfl ?_
    refine q_getA dX12_hasGangs_9 fl_X12_39 (hL 70 (by decide)) sh_70 (by decide) rfl rfl ?_
    refine q_iload_n dX12_hasGangs_12 rfl rfl ?_
    obtain ⟨c2572, h⟩ := qk_some h
    refine q_iaload dX12_hasGangs_13 (hL 79 (by decide)) sh_79 (qIx_0 c2572) (qIx_1 c2572) rfl ?_
    refine q_aload_n dX12_hasGangs_14 rfl rfl ?_
    refine q_getA dX12_hasGangs_15 fl_X12_45 (hL 70 (by decide)) sh_70 (by decide) rfl rfl ?_
    refine q_iload_n dX12_hasGangs_18 rfl rfl ?_
    obtain ⟨c2573, h⟩ := qk_some h
    refine q_iaload dX12_hasGangs_19 (hL 81 (by decide)) sh_81 (qIx_0 c2573) (qIx_1 c2573) rfl ?_
    refine q_iadd dX12_hasGangs_20 rfl ?_
    obtain ⟨c2574, h⟩ := qk_some h
    obtain ⟨c2575, h⟩ := qk_some h
    refine q_icmp_ge (tgt := 48) dX12_hasGangs_21 (by decide) rfl (qRb_R c2574) (qRb_R c2575) (fun g => ?_) (fun g => ?_)
    · rw [if_pos (show ((S 79 (Int.toNat x1)) + (S 81 (Int.toNat x1))) ≤ x2 from g)] at h
      cases h
      exact q_pick [] rfl (hE _ rfl)
    · rw [if_neg (show ¬ (((S 79 (Int.toNat x1)) + (S 81 (Int.toNat x1))) ≤ x2) from g)] at h
      refine q_aload_n dX12_hasGangs_24 rfl rfl ?_
      refine q_iload_n dX12_hasGangs_25 rfl rfl ?_
      obtain ⟨q2595, h2596, h⟩ := Option.bind_eq_some_iff.mp h
      refine q_callVi (as := [qi x2]) (c := 70) dX12_hasGangs_26 ml_X12_358 rfl rfl (hL 70 (by decide)) sh_70 rfl rfl (Nat.le_of_ble_eq_true rfl) (M_cranesIn_ok hL d x2 _ _ h2596) rfl ?_
      refine q_aload_n dX12_hasGangs_29 rfl rfl ?_
      refine q_iload_n dX12_hasGangs_30 rfl rfl ?_
      refine q_bipush dX12_hasGangs_31 (by decide) rfl ?_
      obtain ⟨c2597, h⟩ := qk_some h
      refine q_idiv dX12_hasGangs_33 (qRb_R c2597) ⟨by decide, by decide⟩ (by decide) rfl ?_
      obtain ⟨q2598, h2599, h⟩ := Option.bind_eq_some_iff.mp h
      refine q_callVi (as := [qi (Int.tdiv x2 16)]) (c := 70) dX12_hasGangs_34 ml_X12_289 rfl rfl (hL 70 (by decide)) sh_70 rfl rfl (Nat.le_of_ble_eq_true rfl) (M_gangsBy_ok hL (d + 2) (Int.tdiv x2 16) _ _ h2599) rfl ?_
      obtain ⟨c2600, h⟩ := qk_some h
      obtain ⟨c2601, h⟩ := qk_some h
      refine q_icmp_le (tgt := 42) dX12_hasGangs_37 (by decide) rfl (qRb_R c2600) (qRb_R c2601) (fun g => ?_) (fun g => ?_)
      · rw [if_pos (show q2595.1 ≤ q2598.1 from g)] at h
        refine q_iinc (lv' := [(2, qi (x2 + 1)), (0, qr 70), (1, qi x1)]) dX12_hasGangs_42 (by decide) rfl rfl rfl ?_
        refine q_goto (pc' := 7) dX12_hasGangs_45 (by decide) ?_
        exact q_pick [1, 2, 0] rfl (ih x1 (x2 + 1) _ _ h hE hR)
      · rw [if_neg (show ¬ (q2595.1 ≤ q2598.1) from g)] at h
        refine q_iconst dX12_hasGangs_40 rfl rfl ?_
        cases h
        exact q_zreturn dX12_hasGangs_41 rfl (by decide) (hR _ rfl)
set_option maxRecDepth 20000 in
theorem M_hasGangs_ok {X : qX} (hL : ∀ c, c < 93 → c ∈ qLs X) (d : Nat) (a1 : Int) (S : qSto) (o : (Int × qSto)) (h : M_hasGangs a1 S = some o) (Q : Option qV → qSto → Prop) (hQ : Q (some (qi o.1)) o.2) : qC X (d + 3) yX12_hasGangs cX12_hasGangs 3 (some .boolean) [qr 70, qi a1] S Q := by
  refine q_entry (lv := [(0, qr 70), (1, qi a1)]) pn_X12 (Nat.le_of_ble_eq_true rfl) rfl ?_
  unfold M_hasGangs at h
  refine q_aload_n dX12_hasGangs_0 rfl rfl ?_
  refine q_getA dX12_hasGangs_1 fl_X12_39 (hL 70 (by decide)) sh_70 (by decide) rfl rfl ?_
  refine q_iload_n dX12_hasGangs_4 rfl rfl ?_
  obtain ⟨c2571, h⟩ := qk_some h
  refine q_iaload dX12_hasGangs_5 (hL 79 (by decide)) sh_79 (qIx_0 c2571) (qIx_1 c2571) rfl ?_
  refine q_istore_n (lv' := [(2, qi (S 79 (Int.toNat a1))), (0, qr 70), (1, qi a1)]) dX12_hasGangs_6 (by decide) rfl rfl ?_
  obtain ⟨q2602, h2603, h⟩ := Option.bind_eq_some_iff.mp h
  refine q_pick [1, 2, 0] rfl (M_hasGangs_L7_ok hL d qF a1 (S 79 (Int.toNat a1)) _ _ h2603 (fun t2604 e3900 => ?_) (fun w e3900 => ?_))
  · subst e3900
    simp only [Sum.elim_inl] at h
    refine q_iconst dX12_hasGangs_48 rfl rfl ?_
    cases h
    exact q_zreturn dX12_hasGangs_49 rfl (by decide) hQ
  · subst e3900
    simp only [Sum.elim_inr] at h
    cases h
    exact hQ
set_option maxRecDepth 20000 in
theorem M_nextAtWork_L5_ok {X : qX} (hL : ∀ c, c < 93 → c ∈ qLs X) (d : Nat) {Q : Option qV → qSto → Prop} : ∀ (n : Nat) (x1 : Int) (x2 : Int) (x3 : Int) (x4 : Int) (S : qSto) (o : (Int × qSto)), M_nextAtWork_L5 n x1 x2 x3 x4 S = some o → (qW X (d + 2) yX12_nextAtWork cX12_nextAtWork 5 (some .int) 75 [(3, qi o.1)] [] o.2 Q) → qW X (d + 2) yX12_nextAtWork cX12_nextAtWork 5 (some .int) 5 [(0, qr 70), (1, qi x1), (2, qi x2), (3, qi x3), (4, qi x4)] [] S Q := by
  intro n
  induction n with
  | zero =>
    intro x1 x2 x3 x4 S o h
    simp [M_nextAtWork_L5] at h
  | succ n ih =>
    intro x1 x2 x3 x4 S o h hE
    rw [M_nextAtWork_L5] at h
    refine q_iload dX12_nextAtWork_5 rfl rfl ?_
    refine q_aload_n dX12_nextAtWork_7 rfl rfl ?_
    refine q_getA dX12_nextAtWork_8 fl_X12_13 (hL 70 (by decide)) sh_70 (by decide) rfl rfl ?_
    refine q_bipush dX12_nextAtWork_11 (by decide) rfl ?_
    refine q_iaload dX12_nextAtWork_13 (hL 72 (by decide)) sh_72 (by decide) (by decide) rfl ?_
    obtain ⟨c2617, h⟩ := qk_some h
    obtain ⟨c2618, h⟩ := qk_some h
    refine q_icmp_ge (tgt := 75) dX12_nextAtWork_14 (by decide) rfl (qRb_R c2617) (qRb_R c2618) (fun g => ?_) (fun g => ?_)
    · rw [if_pos (show (S 72 9) ≤ x4 from g)] at h
      cases h
      exact q_pick [3] rfl (hE)
    · rw [if_neg (show ¬ ((S 72 9) ≤ x4) from g)] at h
      refine q_aload_n dX12_nextAtWork_17 rfl rfl ?_
      refine q_iload dX12_nextAtWork_18 rfl rfl ?_
      refine q_iload_n dX12_nextAtWork_20 rfl rfl ?_
      obtain ⟨q2619, h2620, h⟩ := Option.bind_eq_some_iff.mp h
      refine q_callVi (as := [qi x4, qi x1]) (c := 70) dX12_nextAtWork_21 ml_X12_337 rfl rfl (hL 70 (by decide)) sh_70 rfl rfl (Nat.le_of_ble_eq_true rfl) (M_isAtWork_ok hL d x4 x1 _ _ h2620) rfl ?_
      refine q_jn (G := fun (t2631 : Int) => qW X (d + 2) yX12_nextAtWork cX12_nextAtWork 5 (some .int) 69 [(0, qr 70), (1, qi x1), (2, qi x2), (3, qi t2631), (4, qi x4)] [] q2619.2 Q) h (fun t2631 h => ?_) (fun t2631 h hk3901 => ?_)
      · try dsimp only at h
        refine q_iinc (lv' := [(4, qi (x4 + 1)), (0, qr 70), (1, qi x1), (2, qi x2), (3, qi t2631)]) dX12_nextAtWork_69 (by decide) rfl rfl rfl ?_
        refine q_goto (pc' := 5) dX12_nextAtWork_72 (by decide) ?_
        exact q_pick [1, 2, 3, 4, 0] rfl (ih x1 x2 t2631 (x4 + 1) _ _ h hE)
      · skip
        obtain ⟨c2621, h⟩ := qk_some h
        refine q_if_eq (tgt := 69) dX12_nextAtWork_24 (by decide) rfl (qRb_R c2621)  (fun g => ?_) (fun g => ?_)
        · rw [if_pos (show q2619.1 = 0 from g)] at h
          cases h
          exact q_pick [0, 1, 2, 3, 4] rfl hk3901
        · rw [if_neg (show ¬ (q2619.1 = 0) from g)] at h
          refine q_aload_n dX12_nextAtWork_27 rfl rfl ?_
          refine q_getA dX12_nextAtWork_28 fl_X12_36 (hL 70 (by decide)) sh_70 (by decide) rfl rfl ?_
          refine q_iload dX12_nextAtWork_31 rfl rfl ?_
          obtain ⟨c2622, h⟩ := qk_some h
          refine q_iaload dX12_nextAtWork_33 (hL 78 (by decide)) sh_78 (qIx_0 c2622) (qIx_1 c2622) rfl ?_
          refine q_iload_n dX12_nextAtWork_34 rfl rfl ?_
          obtain ⟨c2623, h⟩ := qk_some h
          obtain ⟨c2624, h⟩ := qk_some h
          refine q_icmp_gt (tgt := 41) dX12_nextAtWork_35 (by decide) rfl (qRb_R c2623) (qRb_R c2624) (fun g => ?_) (fun g => ?_)
          · rw [if_pos (show x2 < (q2619.2 78 (Int.toNat x4)) from g)] at h
            refine q_iload_n dX12_nextAtWork_41 rfl rfl ?_
            refine q_iconst dX12_nextAtWork_42 rfl rfl ?_
            refine q_jn (G := fun (t2630 : Int) => qW X (d + 2) yX12_nextAtWork cX12_nextAtWork 5 (some .int) 68 [(0, qr 70), (1, qi x1), (2, qi x2), (4, qi x4)] [qi t2630] q2619.2 Q) h (fun t2630 h => ?_) (fun t2630 h hk3902 => ?_)
            · try dsimp only at h
              refine q_istore_n (lv' := [(3, qi t2630), (0, qr 70), (1, qi x1), (2, qi x2), (4, qi x4)]) dX12_nextAtWork_68 (by decide) rfl rfl ?_
              cases h
              exact q_pick [1, 2, 3, 0, 4] rfl hk3901
            · skip
              obtain ⟨c2625, h⟩ := qk_some h
              refine q_icmp_eq (tgt := 62) dX12_nextAtWork_43 (by decide) rfl (qRb_R c2625) ⟨by decide, by decide⟩ (fun g => ?_) (fun g => ?_)
              · rw [if_pos (show x3 = (-1) from g)] at h
                refine q_iload dX12_nextAtWork_62 rfl rfl ?_
                refine q_goto (pc' := 68) dX12_nextAtWork_64 (by decide) ?_
                cases h
                exact q_pick [0, 1, 2, 4] rfl hk3902
              · rw [if_neg (show ¬ (x3 = (-1)) from g)] at h
                refine q_aload_n dX12_nextAtWork_46 rfl rfl ?_
                refine q_getA dX12_nextAtWork_47 fl_X12_36 (hL 70 (by decide)) sh_70 (by decide) rfl rfl ?_
                refine q_iload dX12_nextAtWork_50 rfl rfl ?_
                obtain ⟨c2626, h⟩ := qk_some h
                refine q_iaload dX12_nextAtWork_52 (hL 78 (by decide)) sh_78 (qIx_0 c2626) (qIx_1 c2626) rfl ?_
                refine q_aload_n dX12_nextAtWork_53 rfl rfl ?_
                refine q_getA dX12_nextAtWork_54 fl_X12_36 (hL 70 (by decide)) sh_70 (by decide) rfl rfl ?_
                refine q_iload_n dX12_nextAtWork_57 rfl rfl ?_
                obtain ⟨c2627, h⟩ := qk_some h
                refine q_iaload dX12_nextAtWork_58 (hL 78 (by decide)) sh_78 (qIx_0 c2627) (qIx_1 c2627) rfl ?_
                obtain ⟨c2628, h⟩ := qk_some h
                obtain ⟨c2629, h⟩ := qk_some h
                refine q_icmp_ge (tgt := 67) dX12_nextAtWork_59 (by decide) rfl (qRb_R c2628) (qRb_R c2629) (fun g => ?_) (fun g => ?_)
                · rw [if_pos (show (q2619.2 78 (Int.toNat x3)) ≤ (q2619.2 78 (Int.toNat x4)) from g)] at h
                  refine q_iload_n dX12_nextAtWork_67 rfl rfl ?_
                  cases h
                  exact q_pick [0, 1, 2, 4] rfl hk3902
                · rw [if_neg (show ¬ ((q2619.2 78 (Int.toNat x3)) ≤ (q2619.2 78 (Int.toNat x4))) from g)] at h
                  refine q_iload dX12_nextAtWork_62 rfl rfl ?_
                  refine q_goto (pc' := 68) dX12_nextAtWork_64 (by decide) ?_
                  cases h
                  exact q_pick [0, 1, 2, 4] rfl hk3902
          · rw [if_neg (show ¬ (x2 < (q2619.2 78 (Int.toNat x4))) from g)] at h
            refine q_goto (pc' := 69) dX12_nextAtWork_38 (by decide) ?_
            cases h
            exact q_pick [0, 1, 2, 3, 4] rfl hk3901
set_option maxRecDepth 20000 in
theorem M_nextAtWork_ok {X : qX} (hL : ∀ c, c < 93 → c ∈ qLs X) (d : Nat) (a1 : Int) (a2 : Int) (S : qSto) (o : (Int × qSto)) (h : M_nextAtWork a1 a2 S = some o) (Q : Option qV → qSto → Prop) (hQ : Q (some (qi o.1)) o.2) : qC X (d + 2) yX12_nextAtWork cX12_nextAtWork 5 (some .int) [qr 70, qi a1, qi a2] S Q := by
  refine q_entry (lv := [(0, qr 70), (1, qi a1), (2, qi a2)]) pn_X12 (Nat.le_of_ble_eq_true rfl) rfl ?_
  unfold M_nextAtWork at h
  refine q_iconst dX12_nextAtWork_0 rfl rfl ?_
  refine q_istore_n (lv' := [(3, qi (-1)), (0, qr 70), (1, qi a1), (2, qi a2)]) dX12_nextAtWork_1 (by decide) rfl rfl ?_
  refine q_iconst dX12_nextAtWork_2 rfl rfl ?_
  refine q_istore (lv' := [(4, qi 0), (3, qi (-1)), (0, qr 70), (1, qi a1), (2, qi a2)]) dX12_nextAtWork_3 (by decide) rfl rfl ?_
  obtain ⟨q2632, h2633, h⟩ := Option.bind_eq_some_iff.mp h
  refine q_pick [2, 3, 4, 1, 0] rfl (M_nextAtWork_L5_ok hL d qF a1 a2 (-1) 0 _ _ h2633 ?_)
  refine q_iload_n dX12_nextAtWork_75 rfl rfl ?_
  cases h
  exact q_ireturn dX12_nextAtWork_76 rfl hQ
