set_option maxRecDepth 20000 in
theorem M_begins_ok {X : qX} (hL : ∀ c, c < 93 → c ∈ qLs X) (d : Nat) (a1 : Int) (a2 : Int) (S : qSto) (o : (Int × qSto)) (h : M_begins a1 a2 S = some o) (Q : Option qV → qSto → Prop) (hQ : Q (some (qi o.1)) o.2) : qC X (d + 4) yX12_begins cX12_begins 3 (some .boolean) [qr 70, qi a1, qi a2] S Q := by
  refine q_entry (lv := [(0, qr 70), (1, qi a1), (2, qi a2)]) pn_X12 (Nat.le_of_ble_eq_true rfl) rfl ?_
  unfold M_begins at h
  refine q_aload_n dX12_begins_0 rfl rfl ?_
  refine q_getA dX12_begins_1 fl_X12_7 (hL 70 (by decide)) sh_70 (by decide) rfl rfl ?_
  refine q_iload_n dX12_begins_4 rfl rfl ?_
  obtain ⟨c2195, h⟩ := qk_some h
  refine q_iaload dX12_begins_5 (hL 71 (by decide)) sh_71 (qIx_0 c2195) (qIx_1 c2195) rfl ?_
  refine q_iload_n dX12_begins_6 rfl rfl ?_
  refine q_jn (G := fun (t2201 : qSto) => qW X (d + 4) yX12_begins cX12_begins 3 (some .boolean) 19 [(0, qr 70)] [] t2201 Q) h (fun t2201 h => ?_) (fun t2201 h hk4178 => ?_)
  · try dsimp only at h
    refine q_aload_n dX12_begins_19 rfl rfl ?_
    refine q_getI dX12_begins_20 fl_X12_147 (hL 70 (by decide)) sh_70 (by decide) rfl rfl ?_
    refine q_jn (G := fun (t2205 : qSto) => qW X (d + 4) yX12_begins cX12_begins 3 (some .boolean) 30 [(0, qr 70)] [] t2205 Q) h (fun t2205 h => ?_) (fun t2205 h hk4179 => ?_)
    · try dsimp only at h
      refine q_aload_n dX12_begins_30 rfl rfl ?_
      refine q_getI dX12_begins_31 fl_X12_147 (hL 70 (by decide)) sh_70 (by decide) rfl rfl ?_
      obtain ⟨c2206, h⟩ := qk_some h
      refine q_if_ne (tgt := 41) dX12_begins_34 (by decide) rfl (qRb_R c2206)  (fun g => ?_) (fun g => ?_)
      · rw [if_neg (show ¬ ((t2205 70 11) = 0) from g)] at h
        refine q_iconst dX12_begins_41 rfl rfl ?_
        cases h
        exact q_zreturn dX12_begins_42 rfl (by decide) hQ
      · rw [if_pos (show (t2205 70 11) = 0 from g)] at h
        refine q_iconst dX12_begins_37 rfl rfl ?_
        refine q_goto (pc' := 42) dX12_begins_38 (by decide) ?_
        cases h
        exact q_zreturn dX12_begins_42 rfl (by decide) hQ
    · skip
      obtain ⟨c2202, h⟩ := qk_some h
      refine q_if_ne (tgt := 30) dX12_begins_23 (by decide) rfl (qRb_R c2202)  (fun g => ?_) (fun g => ?_)
      · rw [if_neg (show ¬ ((t2201 70 11) = 0) from g)] at h
        cases h
        exact q_pick [0] rfl hk4179
      · rw [if_pos (show (t2201 70 11) = 0 from g)] at h
        refine q_aload_n dX12_begins_26 rfl rfl ?_
        obtain ⟨q2203, h2204, h⟩ := Option.bind_eq_some_iff.mp h
        refine q_callVv (as := []) (c := 70) dX12_begins_27 ml_X12_160 rfl rfl (hL 70 (by decide)) sh_70 rfl rfl (Nat.le_of_ble_eq_true rfl) (M_goOn_ok hL d _ _ h2204) rfl ?_
        cases h
        exact q_pick [0] rfl hk4179
  · skip
    obtain ⟨c2196, h⟩ := qk_some h
    obtain ⟨c2197, h⟩ := qk_some h
    refine q_icmp_ne (tgt := 19) dX12_begins_7 (by decide) rfl (qRb_R c2196) (qRb_R c2197) (fun g => ?_) (fun g => ?_)
    · rw [if_neg (show ¬ ((S 71 (Int.toNat a1)) = a2) from g)] at h
      cases h
      exact q_pick [0] rfl hk4178
    · rw [if_pos (show (S 71 (Int.toNat a1)) = a2 from g)] at h
      refine q_aload_n dX12_begins_10 rfl rfl ?_
      refine q_iconst dX12_begins_11 rfl rfl ?_
      refine q_aload_n dX12_begins_12 rfl rfl ?_
      refine q_getI dX12_begins_13 fl_X12_117 (hL 70 (by decide)) sh_70 (by decide) rfl rfl ?_
      obtain ⟨q2199, h2200, h⟩ := Option.bind_eq_some_iff.mp h
      refine q_callVv (as := [qi 4, qi (S 70 8)]) (c := 70) dX12_begins_16 ml_X12_153 rfl rfl (hL 70 (by decide)) sh_70 rfl rfl (Nat.le_of_ble_eq_true rfl) (M_fail_ok hL (d + 3) 4 (S 70 8) _ _ h2200) rfl ?_
      cases h
      exact q_pick [0] rfl hk4178
set_option maxRecDepth 20000 in
theorem M_nameTold_L27_ok {X : qX} (hL : ∀ c, c < 93 → c ∈ qLs X) (d : Nat) {Q : Option qV → qSto → Prop} : ∀ (n : Nat) (x1 : Int) (x2 : Int) (S : qSto) (o : qSto), M_nameTold_L27 n x1 x2 S = some o → (qW X (d + 4) yX12_nameTold cX12_nameTold 3 none 68 [(0, qr 70), (1, qi x1)] [] o Q) → qW X (d + 4) yX12_nameTold cX12_nameTold 3 none 27 [(0, qr 70), (1, qi x1), (2, qi x2)] [] S Q := by
  intro n
  induction n with
  | zero =>
    intro x1 x2 S o h
    simp [M_nameTold_L27] at h
  | succ n ih =>
    intro x1 x2 S o h hE
    rw [M_nameTold_L27] at h
    refine q_iload_n dX12_nameTold_27 rfl rfl ?_
    refine q_iload_n dX12_nameTold_28 rfl rfl ?_
    obtain ⟨c2219, h⟩ := qk_some h
    obtain ⟨c2220, h⟩ := qk_some h
    refine q_icmp_ge (tgt := 68) dX12_nameTold_29 (by decide) rfl (qRb_R c2219) (qRb_R c2220) (fun g => ?_) (fun g => ?_)
    · rw [if_pos (show x1 ≤ x2 from g)] at h
      cases h
      exact q_pick [0, 1] rfl (hE)
    · rw [if_neg (show ¬ (x1 ≤ x2) from g)] at h
      refine q_aload_n dX12_nameTold_32 rfl rfl ?_
      refine q_getI dX12_nameTold_33 fl_X12_147 (hL 70 (by decide)) sh_70 (by decide) rfl rfl ?_
      refine q_jn (G := fun (t2227 : qSto) => qW X (d + 4) yX12_nameTold cX12_nameTold 3 none 62 [(0, qr 70), (1, qi x1), (2, qi x2)] [] t2227 Q) h (fun t2227 h => ?_) (fun t2227 h hk4180 => ?_)
      · try dsimp only at h
        refine q_iinc (lv' := [(2, qi (x2 + 1)), (0, qr 70), (1, qi x1)]) dX12_nameTold_62 (by decide) rfl rfl rfl ?_
        refine q_goto (pc' := 27) dX12_nameTold_65 (by decide) ?_
        exact q_pick [1, 2, 0] rfl (ih x1 (x2 + 1) _ _ h hE)
      · skip
        obtain ⟨c2221, h⟩ := qk_some h
        refine q_if_ne (tgt := 62) dX12_nameTold_36 (by decide) rfl (qRb_R c2221)  (fun g => ?_) (fun g => ?_)
        · rw [if_neg (show ¬ ((S 70 11) = 0) from g)] at h
          cases h
          exact q_pick [0, 1, 2] rfl hk4180
        · rw [if_pos (show (S 70 11) = 0 from g)] at h
          refine q_aload_n dX12_nameTold_39 rfl rfl ?_
          refine q_getA dX12_nameTold_40 fl_X12_16 (hL 70 (by decide)) sh_70 (by decide) rfl rfl ?_
          refine q_iload_n dX12_nameTold_43 rfl rfl ?_
          obtain ⟨c2222, h⟩ := qk_some h
          refine q_laload dX12_nameTold_44 (hL 73 (by decide)) sh_73 (qIx_0 c2222) (qIx_1 c2222) rfl ?_
          refine q_aload_n dX12_nameTold_45 rfl rfl ?_
          refine q_getL dX12_nameTold_46 fl_X12_136 (hL 70 (by decide)) sh_70 (by decide) rfl rfl ?_
          obtain ⟨c2223, h⟩ := qk_some h
          obtain ⟨c2224, h⟩ := qk_some h
          refine q_lcmp dX12_nameTold_49 (qRLb_R c2223) (qRLb_R c2224) rfl ?_
          refine q_if_ne (tgt := 62) dX12_nameTold_50 (by decide) rfl (q3_R _ _)  (fun g => ?_) (fun g => ?_)
          · rw [if_neg (show ¬ ((S 73 (Int.toNat x2)) = (S 70 17)) from fun e => g ((q3_eq _ _).mpr e))] at h
            cases h
            exact q_pick [0, 1, 2] rfl hk4180
          · rw [if_pos (show (S 73 (Int.toNat x2)) = (S 70 17) from (q3_eq _ _).mp g)] at h
            refine q_aload_n dX12_nameTold_53 rfl rfl ?_
            refine q_iconst dX12_nameTold_54 rfl rfl ?_
            refine q_aload_n dX12_nameTold_55 rfl rfl ?_
            refine q_getI dX12_nameTold_56 fl_X12_117 (hL 70 (by decide)) sh_70 (by decide) rfl rfl ?_
            obtain ⟨q2225, h2226, h⟩ := Option.bind_eq_some_iff.mp h
            refine q_callVv (as := [qi 3, qi (S 70 8)]) (c := 70) dX12_nameTold_59 ml_X12_153 rfl rfl (hL 70 (by decide)) sh_70 rfl rfl (Nat.le_of_ble_eq_true rfl) (M_fail_ok hL (d + 3) 3 (S 70 8) _ _ h2226) rfl ?_
            cases h
            exact q_pick [0, 1, 2] rfl hk4180
set_option maxRecDepth 20000 in
theorem M_nameTold_ok {X : qX} (hL : ∀ c, c < 93 → c ∈ qLs X) (d : Nat) (a1 : Int) (S : qSto) (o : qSto) (h : M_nameTold a1 S = some o) (Q : Option qV → qSto → Prop) (hQ : Q none o) : qC X (d + 4) yX12_nameTold cX12_nameTold 3 none [qr 70, qi a1] S Q := by
  refine q_entry (lv := [(0, qr 70), (1, qi a1)]) pn_X12 (Nat.le_of_ble_eq_true rfl) rfl ?_
  unfold M_nameTold at h
  refine q_aload_n dX12_nameTold_0 rfl rfl ?_
  refine q_getI dX12_nameTold_1 fl_X12_120 (hL 70 (by decide)) sh_70 (by decide) rfl rfl ?_
  refine q_iconst dX12_nameTold_4 rfl rfl ?_
  refine q_jn (G := fun (t2218 : qSto) => qW X (d + 4) yX12_nameTold cX12_nameTold 3 none 25 [(0, qr 70), (1, qi a1)] [] t2218 Q) h (fun t2218 h => ?_) (fun t2218 h hk4181 => ?_)
  · try dsimp only at h
    refine q_iconst dX12_nameTold_25 rfl rfl ?_
    refine q_istore_n (lv' := [(2, qi 0), (0, qr 70), (1, qi a1)]) dX12_nameTold_26 (by decide) rfl rfl ?_
    obtain ⟨q2228, h2229, h⟩ := Option.bind_eq_some_iff.mp h
    refine q_pick [1, 2, 0] rfl (M_nameTold_L27_ok hL d qF a1 0 _ _ h2229 ?_)
    refine q_aload_n dX12_nameTold_68 rfl rfl ?_
    refine q_getI dX12_nameTold_69 fl_X12_147 (hL 70 (by decide)) sh_70 (by decide) rfl rfl ?_
    obtain ⟨c2230, h⟩ := qk_some h
    refine q_if_le (tgt := 76) dX12_nameTold_72 (by decide) rfl (qRb_R c2230)  (fun g => ?_) (fun g => ?_)
    · rw [if_pos (show (q2228 70 11) ≤ 0 from g)] at h
      refine q_aload_n dX12_nameTold_76 rfl rfl ?_
      refine q_getA dX12_nameTold_77 fl_X12_16 (hL 70 (by decide)) sh_70 (by decide) rfl rfl ?_
      refine q_iload_n dX12_nameTold_80 rfl rfl ?_
      refine q_aload_n dX12_nameTold_81 rfl rfl ?_
      refine q_getL dX12_nameTold_82 fl_X12_136 (hL 70 (by decide)) sh_70 (by decide) rfl rfl ?_
      obtain ⟨c2231, h⟩ := qk_some h
      refine q_lastore dX12_nameTold_85 (hL 73 (by decide)) sh_73 (qIx_0 c2231) (qIx_1 c2231) rfl ?_
      refine q_aload_n dX12_nameTold_86 rfl rfl ?_
      obtain ⟨q2232, h2233, h⟩ := Option.bind_eq_some_iff.mp h
      refine q_callVv (as := []) (c := 70) dX12_nameTold_87 ml_X12_160 rfl rfl (hL 70 (by decide)) sh_70 rfl rfl (Nat.le_of_ble_eq_true rfl) (M_goOn_ok hL d _ _ h2233) rfl ?_
      cases h
      exact q_return dX12_nameTold_90 rfl hQ
    · rw [if_neg (show ¬ ((q2228 70 11) ≤ 0) from g)] at h
      cases h
      exact q_return dX12_nameTold_75 rfl hQ
  · skip
    obtain ⟨c2210, h⟩ := qk_some h
    refine q_icmp_ne (tgt := 16) dX12_nameTold_5 (by decide) rfl (qRb_R c2210) ⟨by decide, by decide⟩ (fun g => ?_) (fun g => ?_)
    · rw [if_neg (show ¬ ((S 70 9) = 1) from g)] at h
      refine q_aload_n dX12_nameTold_16 rfl rfl ?_
      refine q_iconst dX12_nameTold_17 rfl rfl ?_
      refine q_aload_n dX12_nameTold_18 rfl rfl ?_
      refine q_getI dX12_nameTold_19 fl_X12_117 (hL 70 (by decide)) sh_70 (by decide) rfl rfl ?_
      obtain ⟨q2211, h2212, h⟩ := Option.bind_eq_some_iff.mp h
      refine q_callVv (as := [qi 1, qi (S 70 8)]) (c := 70) dX12_nameTold_22 ml_X12_153 rfl rfl (hL 70 (by decide)) sh_70 rfl rfl (Nat.le_of_ble_eq_true rfl) (M_fail_ok hL (d + 3) 1 (S 70 8) _ _ h2212) rfl ?_
      cases h
      exact q_pick [0, 1] rfl hk4181
    · rw [if_pos (show (S 70 9) = 1 from g)] at h
      refine q_aload_n dX12_nameTold_8 rfl rfl ?_
      obtain ⟨q2213, h2214, h⟩ := Option.bind_eq_some_iff.mp h
      refine q_callVi (as := []) (c := 70) dX12_nameTold_9 ml_X12_209 rfl rfl (hL 70 (by decide)) sh_70 rfl rfl (Nat.le_of_ble_eq_true rfl) (M_key_ok hL (d + 3) _ _ h2214) rfl ?_
      refine q_iconst dX12_nameTold_12 rfl rfl ?_
      obtain ⟨c2215, h⟩ := qk_some h
      refine q_icmp_eq (tgt := 25) dX12_nameTold_13 (by decide) rfl (qRb_R c2215) ⟨by decide, by decide⟩ (fun g => ?_) (fun g => ?_)
      · rw [if_pos (show q2213.1 = (-1) from g)] at h
        cases h
        exact q_pick [0, 1] rfl hk4181
      · rw [if_neg (show ¬ (q2213.1 = (-1)) from g)] at h
        refine q_aload_n dX12_nameTold_16 rfl rfl ?_
        refine q_iconst dX12_nameTold_17 rfl rfl ?_
        refine q_aload_n dX12_nameTold_18 rfl rfl ?_
        refine q_getI dX12_nameTold_19 fl_X12_117 (hL 70 (by decide)) sh_70 (by decide) rfl rfl ?_
        obtain ⟨q2216, h2217, h⟩ := Option.bind_eq_some_iff.mp h
        refine q_callVv (as := [qi 1, qi (q2213.2 70 8)]) (c := 70) dX12_nameTold_22 ml_X12_153 rfl rfl (hL 70 (by decide)) sh_70 rfl rfl (Nat.le_of_ble_eq_true rfl) (M_fail_ok hL (d + 3) 1 (q2213.2 70 8) _ _ h2217) rfl ?_
        cases h
        exact q_pick [0, 1] rfl hk4181
set_option maxRecDepth 20000 in
theorem M_shipLow_ok {X : qX} (hL : ∀ c, c < 93 → c ∈ qLs X) (d : Nat) (a0 : Int) (S : qSto) (o : (Int × qSto)) (h : M_shipLow a0 S = some o) (Q : Option qV → qSto → Prop) (hQ : Q (some (qi o.1)) o.2) : qC X d yX12_shipLow cX12_shipLow 1 (some .int) [qi a0] S Q := by
  refine q_entry (lv := [(0, qi a0)]) pn_X12 (Nat.le_of_ble_eq_true rfl) rfl ?_
  unfold M_shipLow at h
  refine q_iload_n dX12_shipLow_0 rfl rfl ?_
  obtain ⟨c2237, h⟩ := qk_some h
  refine q_if_eq (tgt := 10) dX12_shipLow_1 (by decide) rfl (qRb_R c2237)  (fun g => ?_) (fun g => ?_)
  · rw [if_pos (show a0 = 0 from g)] at h
    refine q_iconst dX12_shipLow_10 rfl rfl ?_
    refine q_goto (pc' := 15) dX12_shipLow_11 (by decide) ?_
    cases h
    exact q_ireturn dX12_shipLow_15 rfl hQ
  · rw [if_neg (show ¬ (a0 = 0) from g)] at h
    refine q_iload_n dX12_shipLow_4 rfl rfl ?_
    refine q_bipush dX12_shipLow_5 (by decide) rfl ?_
    obtain ⟨c2238, h⟩ := qk_some h
    refine q_icmp_lt (tgt := 14) dX12_shipLow_7 (by decide) rfl (qRb_R c2238) ⟨by decide, by decide⟩ (fun g => ?_) (fun g => ?_)
    · rw [if_pos (show a0 < 7 from g)] at h
      refine q_iconst dX12_shipLow_14 rfl rfl ?_
      cases h
      exact q_ireturn dX12_shipLow_15 rfl hQ
    · rw [if_neg (show ¬ (a0 < 7) from g)] at h
      refine q_iconst dX12_shipLow_10 rfl rfl ?_
      refine q_goto (pc' := 15) dX12_shipLow_11 (by decide) ?_
      cases h
      exact q_ireturn dX12_shipLow_15 rfl hQ
set_option maxRecDepth 20000 in
theorem M_shipHigh_ok {X : qX} (hL : ∀ c, c < 93 → c ∈ qLs X) (d : Nat) (a0 : Int) (S : qSto) (o : (Int × qSto)) (h : M_shipHigh a0 S = some o) (Q : Option qV → qSto → Prop) (hQ : Q (some (qi o.1)) o.2) : qC X d yX12_shipHigh cX12_shipHigh 1 (some .int) [qi a0] S Q := by
  refine q_entry (lv := [(0, qi a0)]) pn_X12 (Nat.le_of_ble_eq_true rfl) rfl ?_
  unfold M_shipHigh at h
  refine q_iload_n dX12_shipHigh_0 rfl rfl ?_
  obtain ⟨c2241, h⟩ := qk_some h
  by_cases e4182 : a0 = 0
  · rw [if_pos e4182] at h
    refine q_tsw (tgt := 70) dX12_shipHigh_1 (qRb_R c2241) (by decide) (fun g => absurd g (by rw [e4182]; decide)) (fun _ _ => ⟨43, 44, by rw [e4182]; rfl, by decide, ?_⟩)
    refine q_sipush dX12_shipHigh_44 (by decide) rfl ?_
    cases h
    exact q_ireturn dX12_shipHigh_47 rfl hQ
  · rw [if_neg e4182] at h
    by_cases e4183 : a0 = 1
    · rw [if_pos e4183] at h
      refine q_tsw (tgt := 70) dX12_shipHigh_1 (qRb_R c2241) (by decide) (fun g => absurd g (by rw [e4183]; decide)) (fun _ _ => ⟨47, 48, by rw [e4183]; rfl, by decide, ?_⟩)
      refine q_sipush dX12_shipHigh_48 (by decide) rfl ?_
      cases h
      exact q_ireturn dX12_shipHigh_51 rfl hQ
    · rw [if_neg e4183] at h
      by_cases e4184 : a0 = 2
      · rw [if_pos e4184] at h
        refine q_tsw (tgt := 70) dX12_shipHigh_1 (qRb_R c2241) (by decide) (fun g => absurd g (by rw [e4184]; decide)) (fun _ _ => ⟨51, 52, by rw [e4184]; rfl, by decide, ?_⟩)
        refine q_sipush dX12_shipHigh_52 (by decide) rfl ?_
        cases h
        exact q_ireturn dX12_shipHigh_55 rfl hQ
      · rw [if_neg e4184] at h
        by_cases e4185 : a0 = 3
        · rw [if_pos e4185] at h
          refine q_tsw (tgt := 70) dX12_shipHigh_1 (qRb_R c2241) (by decide) (fun g => absurd g (by rw [e4185]; decide)) (fun _ _ => ⟨55, 56, by rw [e4185]; rfl, by decide, ?_⟩)
          refine q_sipush dX12_shipHigh_56 (by decide) rfl ?_
          cases h
          exact q_ireturn dX12_shipHigh_59 rfl hQ
        · rw [if_neg e4185] at h
          by_cases e4186 : a0 = 4
          · rw [if_pos e4186] at h
            refine q_tsw (tgt := 70) dX12_shipHigh_1 (qRb_R c2241) (by decide) (fun g => absurd g (by rw [e4186]; decide)) (fun _ _ => ⟨59, 60, by rw [e4186]; rfl, by decide, ?_⟩)
            refine q_sipush dX12_shipHigh_60 (by decide) rfl ?_
            cases h
            exact q_ireturn dX12_shipHigh_63 rfl hQ
          · rw [if_neg e4186] at h
            by_cases e4187 : a0 = 5
            · rw [if_pos e4187] at h
              refine q_tsw (tgt := 70) dX12_shipHigh_1 (qRb_R c2241) (by decide) (fun g => absurd g (by rw [e4187]; decide)) (fun _ _ => ⟨63, 64, by rw [e4187]; rfl, by decide, ?_⟩)
              refine q_sipush dX12_shipHigh_64 (by decide) rfl ?_
              cases h
              exact q_ireturn dX12_shipHigh_67 rfl hQ
            · rw [if_neg e4187] at h
              by_cases e4188 : a0 = 6
              · rw [if_pos e4188] at h
                refine q_tsw (tgt := 70) dX12_shipHigh_1 (qRb_R c2241) (by decide) (fun g => absurd g (by rw [e4188]; decide)) (fun _ _ => ⟨67, 68, by rw [e4188]; rfl, by decide, ?_⟩)
                refine q_iconst dX12_shipHigh_68 rfl rfl ?_
                cases h
                exact q_ireturn dX12_shipHigh_69 rfl hQ
              · rw [if_neg e4188] at h
                refine q_tsw (tgt := 70) dX12_shipHigh_1 (qRb_R c2241) (by decide) (fun _ => ?_) (fun g1 g2 => absurd g1 (by omega))
                refine q_bipush dX12_shipHigh_70 (by decide) rfl ?_
                cases h
                exact q_ireturn dX12_shipHigh_72 rfl hQ
set_option maxRecDepth 20000 in
theorem M_number_ok {X : qX} (hL : ∀ c, c < 93 → c ∈ qLs X) (d : Nat) (a1 : Int) (a2 : Int) (S : qSto) (o : (Int × qSto)) (h : M_number a1 a2 S = some o) (Q : Option qV → qSto → Prop) (hQ : Q (some (qi o.1)) o.2) : qC X (d + 4) yX12_number cX12_number 4 (some .int) [qr 70, qi a1, qi a2] S Q := by
  refine q_entry (lv := [(0, qr 70), (1, qi a1), (2, qi a2)]) pn_X12 (Nat.le_of_ble_eq_true rfl) rfl ?_
  unfold M_number at h
  refine q_aload_n dX12_number_0 rfl rfl ?_
  refine q_getI dX12_number_1 fl_X12_147 (hL 70 (by decide)) sh_70 (by decide) rfl rfl ?_
  obtain ⟨c2244, h⟩ := qk_some h
  refine q_if_le (tgt := 9) dX12_number_4 (by decide) rfl (qRb_R c2244)  (fun g => ?_) (fun g => ?_)
  · rw [if_pos (show (S 70 11) ≤ 0 from g)] at h
    refine q_aload_n dX12_number_9 rfl rfl ?_
    refine q_getI dX12_number_10 fl_X12_120 (hL 70 (by decide)) sh_70 (by decide) rfl rfl ?_
    refine q_iconst dX12_number_13 rfl rfl ?_
    refine q_jn (G := fun (t2256 : qSto) => qW X (d + 4) yX12_number cX12_number 4 (some .int) 53 [(0, qr 70)] [] t2256 Q) h (fun t2256 h => ?_) (fun t2256 h hk4189 => ?_)
    · try dsimp only at h
      refine q_aload_n dX12_number_53 rfl rfl ?_
      refine q_aload_n dX12_number_54 rfl rfl ?_
      refine q_getI dX12_number_55 fl_X12_117 (hL 70 (by decide)) sh_70 (by decide) rfl rfl ?_
      refine q_putI dX12_number_58 fl_X12_157 (hL 70 (by decide)) sh_70 (by decide) pf_12_13 pt_12_13 rfl rfl ?_
      refine q_aload_n dX12_number_61 rfl rfl ?_
      refine q_getI dX12_number_62 fl_X12_144 (hL 70 (by decide)) sh_70 (by decide) rfl rfl ?_
      refine q_istore_n (lv' := [(3, qi ((qup t2256 70 13 (t2256 70 8)) 70 10)), (0, qr 70)]) dX12_number_65 (by decide) rfl rfl ?_
      refine q_aload_n dX12_number_66 rfl rfl ?_
      refine q_getI dX12_number_67 fl_X12_147 (hL 70 (by decide)) sh_70 (by decide) rfl rfl ?_
      obtain ⟨c2257, h⟩ := qk_some h
      refine q_if_ne (tgt := 77) dX12_number_70 (by decide) rfl (qRb_R c2257)  (fun g => ?_) (fun g => ?_)
      · rw [if_neg (show ¬ (((qup t2256 70 13 (t2256 70 8)) 70 11) = 0) from g)] at h
        refine q_iload_n dX12_number_77 rfl rfl ?_
        cases h
        exact q_ireturn dX12_number_78 rfl hQ
      · rw [if_pos (show ((qup t2256 70 13 (t2256 70 8)) 70 11) = 0 from g)] at h
        refine q_aload_n dX12_number_73 rfl rfl ?_
        obtain ⟨q2258, h2259, h⟩ := Option.bind_eq_some_iff.mp h
        refine q_callVv (as := []) (c := 70) dX12_number_74 ml_X12_160 rfl rfl (hL 70 (by decide)) sh_70 rfl rfl (Nat.le_of_ble_eq_true rfl) (M_goOn_ok hL d _ _ h2259) rfl ?_
        refine q_iload_n dX12_number_77 rfl rfl ?_
        cases h
        exact q_ireturn dX12_number_78 rfl hQ
    · skip
      obtain ⟨c2245, h⟩ := qk_some h
      refine q_icmp_eq (tgt := 29) dX12_number_14 (by decide) rfl (qRb_R c2245) ⟨by decide, by decide⟩ (fun g => ?_) (fun g => ?_)
      · rw [if_pos (show (S 70 9) = 2 from g)] at h
        refine q_aload_n dX12_number_29 rfl rfl ?_
        refine q_getI dX12_number_30 fl_X12_144 (hL 70 (by decide)) sh_70 (by decide) rfl rfl ?_
        obtain ⟨c2246, h⟩ := qk_some h
        refine q_i2l dX12_number_33 (qRb_R c2246) rfl ?_
        refine q_iload_n dX12_number_34 rfl rfl ?_
        obtain ⟨c2247, h⟩ := qk_some h
        refine q_i2l dX12_number_35 (qRb_R c2247) rfl ?_
        refine q_iload_n dX12_number_36 rfl rfl ?_
        obtain ⟨c2248, h⟩ := qk_some h
        refine q_i2l dX12_number_37 (qRb_R c2248) rfl ?_
        obtain ⟨q2249, h2250, h⟩ := Option.bind_eq_some_iff.mp h
        refine q_callSi (as := [ql (S 70 10), ql a1, ql a2]) dX12_number_38 ml_X12_99 rfl rfl (Nat.le_of_ble_eq_true rfl) (M_in_ok hL (d + 3) (S 70 10) a1 a2 _ _ h2250) rfl ?_
        obtain ⟨c2251, h⟩ := qk_some h
        refine q_if_ne (tgt := 53) dX12_number_41 (by decide) rfl (qRb_R c2251)  (fun g => ?_) (fun g => ?_)
        · rw [if_neg (show ¬ (q2249.1 = 0) from g)] at h
          cases h
          exact q_pick [0] rfl hk4189
        · rw [if_pos (show q2249.1 = 0 from g)] at h
          refine q_aload_n dX12_number_44 rfl rfl ?_
          refine q_iconst dX12_number_45 rfl rfl ?_
          refine q_aload_n dX12_number_46 rfl rfl ?_
          refine q_getI dX12_number_47 fl_X12_117 (hL 70 (by decide)) sh_70 (by decide) rfl rfl ?_
          obtain ⟨q2252, h2253, h⟩ := Option.bind_eq_some_iff.mp h
          refine q_callVv (as := [qi 2, qi (q2249.2 70 8)]) (c := 70) dX12_number_50 ml_X12_153 rfl rfl (hL 70 (by decide)) sh_70 rfl rfl (Nat.le_of_ble_eq_true rfl) (M_fail_ok hL (d + 3) 2 (q2249.2 70 8) _ _ h2253) rfl ?_
          cases h
          exact q_pick [0] rfl hk4189
      · rw [if_neg (show ¬ ((S 70 9) = 2) from g)] at h
        refine q_aload_n dX12_number_17 rfl rfl ?_
        refine q_iconst dX12_number_18 rfl rfl ?_
        refine q_aload_n dX12_number_19 rfl rfl ?_
        refine q_getI dX12_number_20 fl_X12_117 (hL 70 (by decide)) sh_70 (by decide) rfl rfl ?_
        obtain ⟨q2254, h2255, h⟩ := Option.bind_eq_some_iff.mp h
        refine q_callVv (as := [qi 1, qi (S 70 8)]) (c := 70) dX12_number_23 ml_X12_153 rfl rfl (hL 70 (by decide)) sh_70 rfl rfl (Nat.le_of_ble_eq_true rfl) (M_fail_ok hL (d + 3) 1 (S 70 8) _ _ h2255) rfl ?_
        refine q_goto (pc' := 53) dX12_number_26 (by decide) ?_
        cases h
        exact q_pick [0] rfl hk4189
  · rw [if_neg (show ¬ ((S 70 11) ≤ 0) from g)] at h
    refine q_iload_n dX12_number_7 rfl rfl ?_
    cases h
    exact q_ireturn dX12_number_8 rfl hQ
set_option maxRecDepth 20000 in
theorem M_shipLine_L35_ok {X : qX} (hL : ∀ c, c < 93 → c ∈ qLs X) (d : Nat) {Q : Option qV → qSto → Prop} : ∀ (n : Nat) (x1 : Int) (x2 : Int) (x3 : Int) (S : qSto) (o : qSto), M_shipLine_L35 n x2 x3 S = some o → (qW X (d + 5) yX12_shipLine cX12_shipLine 4 none 67 [(0, qr 70), (1, qi x1), (2, qi x2)] [] o Q) → qW X (d + 5) yX12_shipLine cX12_shipLine 4 none 35 [(0, qr 70), (1, qi x1), (2, qi x2), (3, qi x3)] [] S Q := by
  intro n
  induction n with
  | zero =>
    intro x1 x2 x3 S o h
    simp [M_shipLine_L35] at h
  | succ n ih =>
    intro x1 x2 x3 S o h hE
    rw [M_shipLine_L35] at h
    refine q_iload_n dX12_shipLine_35 rfl rfl ?_
    refine q_bipush dX12_shipLine_36 (by decide) rfl ?_
    obtain ⟨c2236, h⟩ := qk_some h
    refine q_icmp_ge (tgt := 67) dX12_shipLine_38 (by decide) rfl (qRb_R c2236) ⟨by decide, by decide⟩ (fun g => ?_) (fun g => ?_)
    · rw [if_pos (show 9 ≤ x3 from g)] at h
      cases h
      exact q_pick [0, 1, 2] rfl (hE)
    · rw [if_neg (show ¬ (9 ≤ x3) from g)] at h
      refine q_aload_n dX12_shipLine_41 rfl rfl ?_
      refine q_getA dX12_shipLine_42 fl_X12_7 (hL 70 (by decide)) sh_70 (by decide) rfl rfl ?_
      refine q_iload_n dX12_shipLine_45 rfl rfl ?_
      refine q_iload_n dX12_shipLine_46 rfl rfl ?_
      refine q_iadd dX12_shipLine_47 rfl ?_
      refine q_aload_n dX12_shipLine_48 rfl rfl ?_
      refine q_iload_n dX12_shipLine_49 rfl rfl ?_
      obtain ⟨q2239, h2240, h⟩ := Option.bind_eq_some_iff.mp h
      refine q_callSi (as := [qi x3]) dX12_shipLine_50 ml_X12_216 rfl rfl (Nat.le_of_ble_eq_true rfl) (M_shipLow_ok hL (d + 4) x3 _ _ h2240) rfl ?_
      refine q_iload_n dX12_shipLine_53 rfl rfl ?_
      obtain ⟨q2242, h2243, h⟩ := Option.bind_eq_some_iff.mp h
      refine q_callSi (as := [qi x3]) dX12_shipLine_54 ml_X12_219 rfl rfl (Nat.le_of_ble_eq_true rfl) (M_shipHigh_ok hL (d + 4) x3 _ _ h2243) rfl ?_
      obtain ⟨q2260, h2261, h⟩ := Option.bind_eq_some_iff.mp h
      refine q_callVi (as := [qi q2239.1, qi q2242.1]) (c := 70) dX12_shipLine_57 ml_X12_198 rfl rfl (hL 70 (by decide)) sh_70 rfl rfl (Nat.le_of_ble_eq_true rfl) (M_number_ok hL d q2239.1 q2242.1 _ _ h2261) rfl ?_
      obtain ⟨c2262, h⟩ := qk_some h
      refine q_iastore dX12_shipLine_60 (hL 71 (by decide)) sh_71 (qIx_0 c2262) (qIx_1 c2262) rfl ?_
      refine q_iinc (lv' := [(3, qi (x3 + 1)), (0, qr 70), (1, qi x1), (2, qi x2)]) dX12_shipLine_61 (by decide) rfl rfl rfl ?_
      refine q_goto (pc' := 35) dX12_shipLine_64 (by decide) ?_
      exact q_pick [1, 2, 3, 0] rfl (ih x1 x2 (x3 + 1) _ _ h hE)
set_option maxRecDepth 20000 in
theorem M_shipLine_ok {X : qX} (hL : ∀ c, c < 93 → c ∈ qLs X) (d : Nat) (S : qSto) (o : qSto) (h : M_shipLine S = some o) (Q : Option qV → qSto → Prop) (hQ : Q none o) : qC X (d + 5) yX12_shipLine cX12_shipLine 4 none [qr 70] S Q := by
  refine q_entry (lv := [(0, qr 70)]) pn_X12 (Nat.le_of_ble_eq_true rfl) rfl ?_
  unfold M_shipLine at h
  refine q_aload_n dX12_shipLine_0 rfl rfl ?_
  refine q_bipush dX12_shipLine_1 (by decide) rfl ?_
  refine q_bipush dX12_shipLine_3 (by decide) rfl ?_
  obtain ⟨q2207, h2208, h⟩ := Option.bind_eq_some_iff.mp h
  refine q_callVi (as := [qi 9, qi 14]) (c := 70) dX12_shipLine_5 ml_X12_202 rfl rfl (hL 70 (by decide)) sh_70 rfl rfl (Nat.le_of_ble_eq_true rfl) (M_begins_ok hL d 9 14 _ _ h2208) rfl ?_
  obtain ⟨c2209, h⟩ := qk_some h
  refine q_if_ne (tgt := 12) dX12_shipLine_8 (by decide) rfl (qRb_R c2209)  (fun g => ?_) (fun g => ?_)
  · rw [if_neg (show ¬ (q2207.1 = 0) from g)] at h
    refine q_aload_n dX12_shipLine_12 rfl rfl ?_
    refine q_getA dX12_shipLine_13 fl_X12_7 (hL 70 (by decide)) sh_70 (by decide) rfl rfl ?_
    refine q_bipush dX12_shipLine_16 (by decide) rfl ?_
    refine q_iaload dX12_shipLine_18 (hL 71 (by decide)) sh_71 (by decide) (by decide) rfl ?_
    refine q_istore_n (lv' := [(1, qi (q2207.2 71 9)), (0, qr 70)]) dX12_shipLine_19 (by decide) rfl rfl ?_
    refine q_bipush dX12_shipLine_20 (by decide) rfl ?_
    refine q_bipush dX12_shipLine_22 (by decide) rfl ?_
    refine q_iload_n dX12_shipLine_24 rfl rfl ?_
    refine q_imul dX12_shipLine_25 rfl ?_
    refine q_iadd dX12_shipLine_26 rfl ?_
    refine q_istore_n (lv' := [(2, qi (124 + (9 * (q2207.2 71 9)))), (1, qi (q2207.2 71 9)), (0, qr 70)]) dX12_shipLine_27 (by decide) rfl rfl ?_
    refine q_aload_n dX12_shipLine_28 rfl rfl ?_
    refine q_iload_n dX12_shipLine_29 rfl rfl ?_
    obtain ⟨q2234, h2235, h⟩ := Option.bind_eq_some_iff.mp h
    refine q_callVv (as := [qi (q2207.2 71 9)]) (c := 70) dX12_shipLine_30 ml_X12_213 rfl rfl (hL 70 (by decide)) sh_70 rfl rfl (Nat.le_of_ble_eq_true rfl) (M_nameTold_ok hL d (q2207.2 71 9) _ _ h2235) rfl ?_
    refine q_iconst dX12_shipLine_33 rfl rfl ?_
    refine q_istore_n (lv' := [(3, qi 0), (2, qi (124 + (9 * (q2207.2 71 9)))), (1, qi (q2207.2 71 9)), (0, qr 70)]) dX12_shipLine_34 (by decide) rfl rfl ?_
    obtain ⟨q2263, h2264, h⟩ := Option.bind_eq_some_iff.mp h
    refine q_pick [3, 2, 1, 0] rfl (M_shipLine_L35_ok hL d qF (q2207.2 71 9) (124 + (9 * (q2207.2 71 9))) 0 _ _ h2264 ?_)
    refine q_aload_n dX12_shipLine_67 rfl rfl ?_
    refine q_getI dX12_shipLine_68 fl_X12_147 (hL 70 (by decide)) sh_70 (by decide) rfl rfl ?_
    refine q_jn (G := fun (t2272 : qSto) => qW X (d + 5) yX12_shipLine cX12_shipLine 4 none 104 [(0, qr 70), (1, qi (q2207.2 71 9))] [] t2272 Q) h (fun t2272 h => ?_) (fun t2272 h hk4190 => ?_)
    · try dsimp only at h
      refine q_aload_n dX12_shipLine_104 rfl rfl ?_
      refine q_getA dX12_shipLine_105 fl_X12_7 (hL 70 (by decide)) sh_70 (by decide) rfl rfl ?_
      refine q_bipush dX12_shipLine_108 (by decide) rfl ?_
      refine q_iload_n dX12_shipLine_110 rfl rfl ?_
      refine q_iconst dX12_shipLine_111 rfl rfl ?_
      refine q_iadd dX12_shipLine_112 rfl ?_
      refine q_iastore dX12_shipLine_113 (hL 71 (by decide)) sh_71 (by decide) (by decide) rfl ?_
      cases h
      exact q_return dX12_shipLine_114 rfl hQ
    · skip
      obtain ⟨c2265, h⟩ := qk_some h
      refine q_if_ne (tgt := 104) dX12_shipLine_71 (by decide) rfl (qRb_R c2265)  (fun g => ?_) (fun g => ?_)
      · rw [if_neg (show ¬ ((q2263 70 11) = 0) from g)] at h
        cases h
        exact q_pick [0, 1] rfl hk4190
      · rw [if_pos (show (q2263 70 11) = 0 from g)] at h
        refine q_aload_n dX12_shipLine_74 rfl rfl ?_
        refine q_getA dX12_shipLine_75 fl_X12_7 (hL 70 (by decide)) sh_70 (by decide) rfl rfl ?_
        refine q_iload_n dX12_shipLine_78 rfl rfl ?_
        refine q_bipush dX12_shipLine_79 (by decide) rfl ?_
        refine q_iadd dX12_shipLine_81 rfl ?_
        obtain ⟨c2266, h⟩ := qk_some h
        refine q_iaload dX12_shipLine_82 (hL 71 (by decide)) sh_71 (qIx_0 c2266) (qIx_1 c2266) rfl ?_
        refine q_aload_n dX12_shipLine_83 rfl rfl ?_
        refine q_getA dX12_shipLine_84 fl_X12_7 (hL 70 (by decide)) sh_70 (by decide) rfl rfl ?_
        refine q_iload_n dX12_shipLine_87 rfl rfl ?_
        refine q_bipush dX12_shipLine_88 (by decide) rfl ?_
        refine q_iadd dX12_shipLine_90 rfl ?_
        obtain ⟨c2267, h⟩ := qk_some h
        refine q_iaload dX12_shipLine_91 (hL 71 (by decide)) sh_71 (qIx_0 c2267) (qIx_1 c2267) rfl ?_
        obtain ⟨c2268, h⟩ := qk_some h
        obtain ⟨c2269, h⟩ := qk_some h
        refine q_icmp_ge (tgt := 104) dX12_shipLine_92 (by decide) rfl (qRb_R c2268) (qRb_R c2269) (fun g => ?_) (fun g => ?_)
        · rw [if_pos (show (q2263 71 (Int.toNat ((124 + (9 * (q2207.2 71 9))) + 7))) ≤ (q2263 71 (Int.toNat ((124 + (9 * (q2207.2 71 9))) + 8))) from g)] at h
          cases h
          exact q_pick [0, 1] rfl hk4190
        · rw [if_neg (show ¬ ((q2263 71 (Int.toNat ((124 + (9 * (q2207.2 71 9))) + 7))) ≤ (q2263 71 (Int.toNat ((124 + (9 * (q2207.2 71 9))) + 8)))) from g)] at h
          refine q_aload_n dX12_shipLine_95 rfl rfl ?_
          refine q_iconst dX12_shipLine_96 rfl rfl ?_
          refine q_aload_n dX12_shipLine_97 rfl rfl ?_
          refine q_getI dX12_shipLine_98 fl_X12_157 (hL 70 (by decide)) sh_70 (by decide) rfl rfl ?_
          obtain ⟨q2270, h2271, h⟩ := Option.bind_eq_some_iff.mp h
          refine q_callVv (as := [qi 2, qi (q2263 70 13)]) (c := 70) dX12_shipLine_101 ml_X12_153 rfl rfl (hL 70 (by decide)) sh_70 rfl rfl (Nat.le_of_ble_eq_true rfl) (M_fail_ok hL (d + 4) 2 (q2263 70 13) _ _ h2271) rfl ?_
          cases h
          exact q_pick [0, 1] rfl hk4190
  · rw [if_pos (show q2207.1 = 0 from g)] at h
    cases h
    exact q_return dX12_shipLine_11 rfl hQ
set_option maxRecDepth 20000 in
theorem M_gangsLine_ok {X : qX} (hL : ∀ c, c < 93 → c ∈ qLs X) (d : Nat) (S : qSto) (o : qSto) (h : M_gangsLine S = some o) (Q : Option qV → qSto → Prop) (hQ : Q none o) : qC X (d + 5) yX12_gangsLine cX12_gangsLine 4 none [qr 70] S Q := by
  refine q_entry (lv := [(0, qr 70)]) pn_X12 (Nat.le_of_ble_eq_true rfl) rfl ?_
  unfold M_gangsLine at h
  refine q_aload_n dX12_gangsLine_0 rfl rfl ?_
  obtain ⟨q2275, h2276, h⟩ := Option.bind_eq_some_iff.mp h
  refine q_callVv (as := []) (c := 70) dX12_gangsLine_1 ml_X12_160 rfl rfl (hL 70 (by decide)) sh_70 rfl rfl (Nat.le_of_ble_eq_true rfl) (M_goOn_ok hL (d + 1) _ _ h2276) rfl ?_
  refine q_aload_n dX12_gangsLine_4 rfl rfl ?_
  refine q_iconst dX12_gangsLine_5 rfl rfl ?_
  refine q_bipush dX12_gangsLine_6 (by decide) rfl ?_
  obtain ⟨q2277, h2278, h⟩ := Option.bind_eq_some_iff.mp h
  refine q_callVi (as := [qi 0, qi 6]) (c := 70) dX12_gangsLine_8 ml_X12_198 rfl rfl (hL 70 (by decide)) sh_70 rfl rfl (Nat.le_of_ble_eq_true rfl) (M_number_ok hL d 0 6 _ _ h2278) rfl ?_
  refine q_istore_n (lv' := [(1, qi q2277.1), (0, qr 70)]) dX12_gangsLine_11 (by decide) rfl rfl ?_
  refine q_aload_n dX12_gangsLine_12 rfl rfl ?_
  refine q_iconst dX12_gangsLine_13 rfl rfl ?_
  refine q_iconst dX12_gangsLine_14 rfl rfl ?_
  obtain ⟨q2279, h2280, h⟩ := Option.bind_eq_some_iff.mp h
  refine q_callVi (as := [qi 0, qi 2]) (c := 70) dX12_gangsLine_15 ml_X12_198 rfl rfl (hL 70 (by decide)) sh_70 rfl rfl (Nat.le_of_ble_eq_true rfl) (M_number_ok hL d 0 2 _ _ h2280) rfl ?_
  refine q_istore_n (lv' := [(2, qi q2279.1), (1, qi q2277.1), (0, qr 70)]) dX12_gangsLine_18 (by decide) rfl rfl ?_
  refine q_aload_n dX12_gangsLine_19 rfl rfl ?_
  refine q_getI dX12_gangsLine_20 fl_X12_147 (hL 70 (by decide)) sh_70 (by decide) rfl rfl ?_
  obtain ⟨c2281, h⟩ := qk_some h
  refine q_if_le (tgt := 27) dX12_gangsLine_23 (by decide) rfl (qRb_R c2281)  (fun g => ?_) (fun g => ?_)
  · rw [if_pos (show (q2279.2 70 11) ≤ 0 from g)] at h
    refine q_bipush dX12_gangsLine_27 (by decide) rfl ?_
    refine q_iconst dX12_gangsLine_29 rfl rfl ?_
    refine q_iload_n dX12_gangsLine_30 rfl rfl ?_
    refine q_imul dX12_gangsLine_31 rfl ?_
    refine q_iadd dX12_gangsLine_32 rfl ?_
    refine q_iload_n dX12_gangsLine_33 rfl rfl ?_
    refine q_iadd dX12_gangsLine_34 rfl ?_
    refine q_istore_n (lv' := [(3, qi ((103 + (3 * q2277.1)) + q2279.1)), (2, qi q2279.1), (1, qi q2277.1), (0, qr 70)]) dX12_gangsLine_35 (by decide) rfl rfl ?_
    refine q_aload_n dX12_gangsLine_36 rfl rfl ?_
    refine q_getA dX12_gangsLine_37 fl_X12_7 (hL 70 (by decide)) sh_70 (by decide) rfl rfl ?_
    refine q_iload_n dX12_gangsLine_40 rfl rfl ?_
    obtain ⟨c2282, h⟩ := qk_some h
    refine q_iaload dX12_gangsLine_41 (hL 71 (by decide)) sh_71 (qIx_0 c2282) (qIx_1 c2282) rfl ?_
    refine q_iconst dX12_gangsLine_42 rfl rfl ?_
    refine q_jn (G := fun (t2286 : qSto) => qW X (d + 5) yX12_gangsLine cX12_gangsLine 4 none 55 [(0, qr 70), (3, qi ((103 + (3 * q2277.1)) + q2279.1))] [] t2286 Q) h (fun t2286 h => ?_) (fun t2286 h hk4191 => ?_)
    · try dsimp only at h
      refine q_aload_n dX12_gangsLine_55 rfl rfl ?_
      refine q_getA dX12_gangsLine_56 fl_X12_7 (hL 70 (by decide)) sh_70 (by decide) rfl rfl ?_
      refine q_iload_n dX12_gangsLine_59 rfl rfl ?_
      refine q_aload_n dX12_gangsLine_60 rfl rfl ?_
      refine q_iconst dX12_gangsLine_61 rfl rfl ?_
      refine q_bipush dX12_gangsLine_62 (by decide) rfl ?_
      obtain ⟨q2287, h2288, h⟩ := Option.bind_eq_some_iff.mp h
      refine q_callVi (as := [qi 0, qi 9]) (c := 70) dX12_gangsLine_64 ml_X12_198 rfl rfl (hL 70 (by decide)) sh_70 rfl rfl (Nat.le_of_ble_eq_true rfl) (M_number_ok hL d 0 9 _ _ h2288) rfl ?_
      obtain ⟨c2289, h⟩ := qk_some h
      refine q_iastore dX12_gangsLine_67 (hL 71 (by decide)) sh_71 (qIx_0 c2289) (qIx_1 c2289) rfl ?_
      cases h
      exact q_return dX12_gangsLine_68 rfl hQ
    · skip
      obtain ⟨c2283, h⟩ := qk_some h
      refine q_icmp_eq (tgt := 55) dX12_gangsLine_43 (by decide) rfl (qRb_R c2283) ⟨by decide, by decide⟩ (fun g => ?_) (fun g => ?_)
      · rw [if_pos (show (q2279.2 71 (Int.toNat ((103 + (3 * q2277.1)) + q2279.1))) = (-1) from g)] at h
        cases h
        exact q_pick [3, 0] rfl hk4191
      · rw [if_neg (show ¬ ((q2279.2 71 (Int.toNat ((103 + (3 * q2277.1)) + q2279.1))) = (-1)) from g)] at h
        refine q_aload_n dX12_gangsLine_46 rfl rfl ?_
        refine q_iconst dX12_gangsLine_47 rfl rfl ?_
        refine q_aload_n dX12_gangsLine_48 rfl rfl ?_
        refine q_getI dX12_gangsLine_49 fl_X12_157 (hL 70 (by decide)) sh_70 (by decide) rfl rfl ?_
        obtain ⟨q2284, h2285, h⟩ := Option.bind_eq_some_iff.mp h
        refine q_callVv (as := [qi 3, qi (q2279.2 70 13)]) (c := 70) dX12_gangsLine_52 ml_X12_153 rfl rfl (hL 70 (by decide)) sh_70 rfl rfl (Nat.le_of_ble_eq_true rfl) (M_fail_ok hL (d + 4) 3 (q2279.2 70 13) _ _ h2285) rfl ?_
        cases h
        exact q_pick [3, 0] rfl hk4191
  · rw [if_neg (show ¬ ((q2279.2 70 11) ≤ 0) from g)] at h
    cases h
    exact q_return dX12_gangsLine_26 rfl hQ
set_option maxRecDepth 20000 in
theorem M_isTold_L3_ok {X : qX} (hL : ∀ c, c < 93 → c ∈ qLs X) (d : Nat) {Q : Option qV → qSto → Prop} : ∀ (n : Nat) (x1 : Int) (x2 : Int) (x3 : Int) (x4 : Int) (S : qSto) (o : (qSto ⊕ (Int × qSto))), M_isTold_L3 n x1 x2 x3 x4 S = some o → (∀ t, o = Sum.inl t → qW X d yX12_isTold cX12_isTold 5 (some .boolean) 30 [] [] t Q) → (∀ w, o = Sum.inr w → Q (some (qi w.1)) w.2) → qW X d yX12_isTold cX12_isTold 5 (some .boolean) 3 [(0, qr 70), (1, qi x1), (2, qi x2), (3, qi x3), (4, qi x4)] [] S Q := by
  intro n
  induction n with
  | zero =>
    intro x1 x2 x3 x4 S o h
    simp [M_isTold_L3] at h
  | succ n ih =>
    intro x1 x2 x3 x4 S o h hE hR
    rw [M_isTold_L3] at h
    refine q_iload dX12_isTold_3 rfl rfl ?_
    refine q_iload_n dX12_isTold_5 rfl rfl ?_
    obtain ⟨c2298, h⟩ := qk_some h
    obtain ⟨c2299, h⟩ := qk_some h
    refine q_icmp_ge (tgt := 30) dX12_isTold_6 (by decide) rfl (qRb_R c2298) (qRb_R c2299) (fun g => ?_) (fun g => ?_)
    · rw [if_pos (show x2 ≤ x4 from g)] at h
      cases h
      exact q_pick [] rfl (hE _ rfl)
    · rw [if_neg (show ¬ (x2 ≤ x4) from g)] at h
      refine q_aload_n dX12_isTold_9 rfl rfl ?_
      refine q_getA dX12_isTold_10 fl_X12_7 (hL 70 (by decide)) sh_70 (by decide) rfl rfl ?_
      refine q_iload_n dX12_isTold_13 rfl rfl ?_
      refine q_iload dX12_isTold_14 rfl rfl ?_
      refine q_iadd dX12_isTold_16 rfl ?_
      obtain ⟨c2300, h⟩ := qk_some h
      refine q_iaload dX12_isTold_17 (hL 71 (by decide)) sh_71 (qIx_0 c2300) (qIx_1 c2300) rfl ?_
      refine q_iload_n dX12_isTold_18 rfl rfl ?_
      obtain ⟨c2301, h⟩ := qk_some h
      obtain ⟨c2302, h⟩ := qk_some h
      refine q_icmp_ne (tgt := 24) dX12_isTold_19 (by decide) rfl (qRb_R c2301) (qRb_R c2302) (fun g => ?_) (fun g => ?_)
      · rw [if_neg (show ¬ ((S 71 (Int.toNat (x1 + x4))) = x3) from g)] at h
        refine q_iinc (lv' := [(4, qi (x4 + 1)), (0, qr 70), (1, qi x1), (2, qi x2), (3, qi x3)]) dX12_isTold_24 (by decide) rfl rfl rfl ?_
        refine q_goto (pc' := 3) dX12_isTold_27 (by decide) ?_
        exact q_pick [1, 2, 3, 4, 0] rfl (ih x1 x2 x3 (x4 + 1) _ _ h hE hR)
      · rw [if_pos (show (S 71 (Int.toNat (x1 + x4))) = x3 from g)] at h
        refine q_iconst dX12_isTold_22 rfl rfl ?_
        cases h
        exact q_zreturn dX12_isTold_23 rfl (by decide) (hR _ rfl)
set_option maxRecDepth 20000 in
theorem M_isTold_ok {X : qX} (hL : ∀ c, c < 93 → c ∈ qLs X) (d : Nat) (a1 : Int) (a2 : Int) (a3 : Int) (S : qSto) (o : (Int × qSto)) (h : M_isTold a1 a2 a3 S = some o) (Q : Option qV → qSto → Prop) (hQ : Q (some (qi o.1)) o.2) : qC X d yX12_isTold cX12_isTold 5 (some .boolean) [qr 70, qi a1, qi a2, qi a3] S Q := by
  refine q_entry (lv := [(0, qr 70), (1, qi a1), (2, qi a2), (3, qi a3)]) pn_X12 (Nat.le_of_ble_eq_true rfl) rfl ?_
  unfold M_isTold at h
  refine q_iconst dX12_isTold_0 rfl rfl ?_
  refine q_istore (lv' := [(4, qi 0), (0, qr 70), (1, qi a1), (2, qi a2), (3, qi a3)]) dX12_isTold_1 (by decide) rfl rfl ?_
  obtain ⟨q2303, h2304, h⟩ := Option.bind_eq_some_iff.mp h
  refine q_pick [1, 2, 3, 4, 0] rfl (M_isTold_L3_ok hL d qF a1 a2 a3 0 _ _ h2304 (fun t2305 e4192 => ?_) (fun w e4192 => ?_))
  · subst e4192
    simp only [Sum.elim_inl] at h
    refine q_iconst dX12_isTold_30 rfl rfl ?_
    cases h
    exact q_zreturn dX12_isTold_31 rfl (by decide) hQ
  · subst e4192
    simp only [Sum.elim_inr] at h
    cases h
    exact hQ
set_option maxRecDepth 20000 in
theorem M_tideLine_ok {X : qX} (hL : ∀ c, c < 93 → c ∈ qLs X) (d : Nat) (S : qSto) (o : qSto) (h : M_tideLine S = some o) (Q : Option qV → qSto → Prop) (hQ : Q none o) : qC X (d + 5) yX12_tideLine cX12_tideLine 3 none [qr 70] S Q := by
  refine q_entry (lv := [(0, qr 70)]) pn_X12 (Nat.le_of_ble_eq_true rfl) rfl ?_
  unfold M_tideLine at h
  refine q_aload_n dX12_tideLine_0 rfl rfl ?_
  refine q_bipush dX12_tideLine_1 (by decide) rfl ?_
  refine q_bipush dX12_tideLine_3 (by decide) rfl ?_
  obtain ⟨q2292, h2293, h⟩ := Option.bind_eq_some_iff.mp h
  refine q_callVi (as := [qi 8, qi 30]) (c := 70) dX12_tideLine_5 ml_X12_202 rfl rfl (hL 70 (by decide)) sh_70 rfl rfl (Nat.le_of_ble_eq_true rfl) (M_begins_ok hL d 8 30 _ _ h2293) rfl ?_
  obtain ⟨c2294, h⟩ := qk_some h
  refine q_if_ne (tgt := 12) dX12_tideLine_8 (by decide) rfl (qRb_R c2294)  (fun g => ?_) (fun g => ?_)
  · rw [if_neg (show ¬ (q2292.1 = 0) from g)] at h
    refine q_aload_n dX12_tideLine_12 rfl rfl ?_
    refine q_getA dX12_tideLine_13 fl_X12_7 (hL 70 (by decide)) sh_70 (by decide) rfl rfl ?_
    refine q_bipush dX12_tideLine_16 (by decide) rfl ?_
    refine q_iaload dX12_tideLine_18 (hL 71 (by decide)) sh_71 (by decide) (by decide) rfl ?_
    refine q_istore_n (lv' := [(1, qi (q2292.2 71 8)), (0, qr 70)]) dX12_tideLine_19 (by decide) rfl rfl ?_
    refine q_aload_n dX12_tideLine_20 rfl rfl ?_
    refine q_iconst dX12_tideLine_21 rfl rfl ?_
    refine q_sipush dX12_tideLine_22 (by decide) rfl ?_
    obtain ⟨q2295, h2296, h⟩ := Option.bind_eq_some_iff.mp h
    refine q_callVi (as := [qi 0, qi 335]) (c := 70) dX12_tideLine_25 ml_X12_198 rfl rfl (hL 70 (by decide)) sh_70 rfl rfl (Nat.le_of_ble_eq_true rfl) (M_number_ok hL d 0 335 _ _ h2296) rfl ?_
    refine q_istore_n (lv' := [(2, qi q2295.1), (1, qi (q2292.2 71 8)), (0, qr 70)]) dX12_tideLine_28 (by decide) rfl rfl ?_
    refine q_aload_n dX12_tideLine_29 rfl rfl ?_
    refine q_getI dX12_tideLine_30 fl_X12_147 (hL 70 (by decide)) sh_70 (by decide) rfl rfl ?_
    refine q_jn (G := fun (t2311 : qSto) => qW X (d + 5) yX12_tideLine cX12_tideLine 3 none 56 [(0, qr 70), (1, qi (q2292.2 71 8)), (2, qi q2295.1)] [] t2311 Q) h (fun t2311 h => ?_) (fun t2311 h hk4193 => ?_)
    · try dsimp only at h
      refine q_aload_n dX12_tideLine_56 rfl rfl ?_
      refine q_getA dX12_tideLine_57 fl_X12_7 (hL 70 (by decide)) sh_70 (by decide) rfl rfl ?_
      refine q_bipush dX12_tideLine_60 (by decide) rfl ?_
      refine q_iload_n dX12_tideLine_62 rfl rfl ?_
      refine q_iadd dX12_tideLine_63 rfl ?_
      refine q_iload_n dX12_tideLine_64 rfl rfl ?_
      obtain ⟨c2312, h⟩ := qk_some h
      refine q_iastore dX12_tideLine_65 (hL 71 (by decide)) sh_71 (qIx_0 c2312) (qIx_1 c2312) rfl ?_
      refine q_aload_n dX12_tideLine_66 rfl rfl ?_
      refine q_getA dX12_tideLine_67 fl_X12_7 (hL 70 (by decide)) sh_70 (by decide) rfl rfl ?_
      refine q_bipush dX12_tideLine_70 (by decide) rfl ?_
      refine q_iload_n dX12_tideLine_72 rfl rfl ?_
      refine q_iadd dX12_tideLine_73 rfl ?_
      refine q_aload_n dX12_tideLine_74 rfl rfl ?_
      refine q_iconst dX12_tideLine_75 rfl rfl ?_
      refine q_bipush dX12_tideLine_76 (by decide) rfl ?_
      obtain ⟨q2313, h2314, h⟩ := Option.bind_eq_some_iff.mp h
      refine q_callVi (as := [qi 0, qi 99]) (c := 70) dX12_tideLine_78 ml_X12_198 rfl rfl (hL 70 (by decide)) sh_70 rfl rfl (Nat.le_of_ble_eq_true rfl) (M_number_ok hL d 0 99 _ _ h2314) rfl ?_
      obtain ⟨c2315, h⟩ := qk_some h
      refine q_iastore dX12_tideLine_81 (hL 71 (by decide)) sh_71 (qIx_0 c2315) (qIx_1 c2315) rfl ?_
      refine q_aload_n dX12_tideLine_82 rfl rfl ?_
      refine q_getA dX12_tideLine_83 fl_X12_7 (hL 70 (by decide)) sh_70 (by decide) rfl rfl ?_
      refine q_bipush dX12_tideLine_86 (by decide) rfl ?_
      refine q_iload_n dX12_tideLine_88 rfl rfl ?_
      refine q_iconst dX12_tideLine_89 rfl rfl ?_
      refine q_iadd dX12_tideLine_90 rfl ?_
      refine q_iastore dX12_tideLine_91 (hL 71 (by decide)) sh_71 (by decide) (by decide) rfl ?_
      cases h
      exact q_return dX12_tideLine_92 rfl hQ
    · skip
      obtain ⟨c2297, h⟩ := qk_some h
      refine q_if_ne (tgt := 56) dX12_tideLine_33 (by decide) rfl (qRb_R c2297)  (fun g => ?_) (fun g => ?_)
      · rw [if_neg (show ¬ ((q2295.2 70 11) = 0) from g)] at h
        cases h
        exact q_pick [2, 1, 0] rfl hk4193
      · rw [if_pos (show (q2295.2 70 11) = 0 from g)] at h
        refine q_aload_n dX12_tideLine_36 rfl rfl ?_
        refine q_bipush dX12_tideLine_37 (by decide) rfl ?_
        refine q_iload_n dX12_tideLine_39 rfl rfl ?_
        refine q_iload_n dX12_tideLine_40 rfl rfl ?_
        obtain ⟨q2306, h2307, h⟩ := Option.bind_eq_some_iff.mp h
        refine q_callVi (as := [qi 43, qi (q2292.2 71 8), qi q2295.1]) (c := 70) dX12_tideLine_41 ml_X12_205 rfl rfl (hL 70 (by decide)) sh_70 rfl rfl (Nat.le_of_ble_eq_true rfl) (M_isTold_ok hL (d + 4) 43 (q2292.2 71 8) q2295.1 _ _ h2307) rfl ?_
        obtain ⟨c2308, h⟩ := qk_some h
        refine q_if_eq (tgt := 56) dX12_tideLine_44 (by decide) rfl (qRb_R c2308)  (fun g => ?_) (fun g => ?_)
        · rw [if_pos (show q2306.1 = 0 from g)] at h
          cases h
          exact q_pick [2, 1, 0] rfl hk4193
        · rw [if_neg (show ¬ (q2306.1 = 0) from g)] at h
          refine q_aload_n dX12_tideLine_47 rfl rfl ?_
          refine q_iconst dX12_tideLine_48 rfl rfl ?_
          refine q_aload_n dX12_tideLine_49 rfl rfl ?_
          refine q_getI dX12_tideLine_50 fl_X12_157 (hL 70 (by decide)) sh_70 (by decide) rfl rfl ?_
          obtain ⟨q2309, h2310, h⟩ := Option.bind_eq_some_iff.mp h
          refine q_callVv (as := [qi 3, qi (q2306.2 70 13)]) (c := 70) dX12_tideLine_53 ml_X12_153 rfl rfl (hL 70 (by decide)) sh_70 rfl rfl (Nat.le_of_ble_eq_true rfl) (M_fail_ok hL (d + 4) 3 (q2306.2 70 13) _ _ h2310) rfl ?_
          cases h
          exact q_pick [2, 1, 0] rfl hk4193
  · rw [if_pos (show q2292.1 = 0 from g)] at h
    cases h
    exact q_return dX12_tideLine_11 rfl hQ
set_option maxRecDepth 20000 in
theorem M_craneLine_ok {X : qX} (hL : ∀ c, c < 93 → c ∈ qLs X) (d : Nat) (S : qSto) (o : qSto) (h : M_craneLine S = some o) (Q : Option qV → qSto → Prop) (hQ : Q none o) : qC X (d + 5) yX12_craneLine cX12_craneLine 4 none [qr 70] S Q := by
  refine q_entry (lv := [(0, qr 70)]) pn_X12 (Nat.le_of_ble_eq_true rfl) rfl ?_
  unfold M_craneLine at h
  refine q_aload_n dX12_craneLine_0 rfl rfl ?_
  refine q_bipush dX12_craneLine_1 (by decide) rfl ?_
  refine q_bipush dX12_craneLine_3 (by decide) rfl ?_
  obtain ⟨q2318, h2319, h⟩ := Option.bind_eq_some_iff.mp h
  refine q_callVi (as := [qi 7, qi 8]) (c := 70) dX12_craneLine_5 ml_X12_202 rfl rfl (hL 70 (by decide)) sh_70 rfl rfl (Nat.le_of_ble_eq_true rfl) (M_begins_ok hL d 7 8 _ _ h2319) rfl ?_
  obtain ⟨c2320, h⟩ := qk_some h
  refine q_if_ne (tgt := 12) dX12_craneLine_8 (by decide) rfl (qRb_R c2320)  (fun g => ?_) (fun g => ?_)
  · rw [if_neg (show ¬ (q2318.1 = 0) from g)] at h
    refine q_aload_n dX12_craneLine_12 rfl rfl ?_
    refine q_getA dX12_craneLine_13 fl_X12_7 (hL 70 (by decide)) sh_70 (by decide) rfl rfl ?_
    refine q_bipush dX12_craneLine_16 (by decide) rfl ?_
    refine q_iaload dX12_craneLine_18 (hL 71 (by decide)) sh_71 (by decide) (by decide) rfl ?_
    refine q_istore_n (lv' := [(1, qi (q2318.2 71 7)), (0, qr 70)]) dX12_craneLine_19 (by decide) rfl rfl ?_
    refine q_aload_n dX12_craneLine_20 rfl rfl ?_
    refine q_iconst dX12_craneLine_21 rfl rfl ?_
    refine q_sipush dX12_craneLine_22 (by decide) rfl ?_
    obtain ⟨q2321, h2322, h⟩ := Option.bind_eq_some_iff.mp h
    refine q_callVi (as := [qi 0, qi 999]) (c := 70) dX12_craneLine_25 ml_X12_198 rfl rfl (hL 70 (by decide)) sh_70 rfl rfl (Nat.le_of_ble_eq_true rfl) (M_number_ok hL d 0 999 _ _ h2322) rfl ?_
    refine q_istore_n (lv' := [(2, qi q2321.1), (1, qi (q2318.2 71 7)), (0, qr 70)]) dX12_craneLine_28 (by decide) rfl rfl ?_
    refine q_aload_n dX12_craneLine_29 rfl rfl ?_
    refine q_iconst dX12_craneLine_30 rfl rfl ?_
    refine q_sipush dX12_craneLine_31 (by decide) rfl ?_
    obtain ⟨q2323, h2324, h⟩ := Option.bind_eq_some_iff.mp h
    refine q_callVi (as := [qi 0, qi 999]) (c := 70) dX12_craneLine_34 ml_X12_198 rfl rfl (hL 70 (by decide)) sh_70 rfl rfl (Nat.le_of_ble_eq_true rfl) (M_number_ok hL d 0 999 _ _ h2324) rfl ?_
    refine q_istore_n (lv' := [(3, qi q2323.1), (2, qi q2321.1), (1, qi (q2318.2 71 7)), (0, qr 70)]) dX12_craneLine_37 (by decide) rfl rfl ?_
    refine q_aload_n dX12_craneLine_38 rfl rfl ?_
    refine q_getI dX12_craneLine_39 fl_X12_147 (hL 70 (by decide)) sh_70 (by decide) rfl rfl ?_
    refine q_jn (G := fun (t2330 : qSto) => qW X (d + 5) yX12_craneLine cX12_craneLine 4 none 59 [(0, qr 70), (1, qi (q2318.2 71 7)), (2, qi q2321.1), (3, qi q2323.1)] [] t2330 Q) h (fun t2330 h => ?_) (fun t2330 h hk4194 => ?_)
    · try dsimp only at h
      refine q_aload_n dX12_craneLine_59 rfl rfl ?_
      refine q_getA dX12_craneLine_60 fl_X12_7 (hL 70 (by decide)) sh_70 (by decide) rfl rfl ?_
      refine q_bipush dX12_craneLine_63 (by decide) rfl ?_
      refine q_iload_n dX12_craneLine_65 rfl rfl ?_
      refine q_iadd dX12_craneLine_66 rfl ?_
      refine q_iload_n dX12_craneLine_67 rfl rfl ?_
      obtain ⟨c2331, h⟩ := qk_some h
      refine q_iastore dX12_craneLine_68 (hL 71 (by decide)) sh_71 (qIx_0 c2331) (qIx_1 c2331) rfl ?_
      refine q_aload_n dX12_craneLine_69 rfl rfl ?_
      refine q_getA dX12_craneLine_70 fl_X12_7 (hL 70 (by decide)) sh_70 (by decide) rfl rfl ?_
      refine q_bipush dX12_craneLine_73 (by decide) rfl ?_
      refine q_iload_n dX12_craneLine_75 rfl rfl ?_
      refine q_iadd dX12_craneLine_76 rfl ?_
      refine q_iload_n dX12_craneLine_77 rfl rfl ?_
      obtain ⟨c2332, h⟩ := qk_some h
      refine q_iastore dX12_craneLine_78 (hL 71 (by decide)) sh_71 (qIx_0 c2332) (qIx_1 c2332) rfl ?_
      refine q_aload_n dX12_craneLine_79 rfl rfl ?_
      refine q_getA dX12_craneLine_80 fl_X12_7 (hL 70 (by decide)) sh_70 (by decide) rfl rfl ?_
      refine q_bipush dX12_craneLine_83 (by decide) rfl ?_
      refine q_iload_n dX12_craneLine_85 rfl rfl ?_
      refine q_iconst dX12_craneLine_86 rfl rfl ?_
      refine q_iadd dX12_craneLine_87 rfl ?_
      refine q_iastore dX12_craneLine_88 (hL 71 (by decide)) sh_71 (by decide) (by decide) rfl ?_
      cases h
      exact q_return dX12_craneLine_89 rfl hQ
    · skip
      obtain ⟨c2325, h⟩ := qk_some h
      refine q_if_ne (tgt := 59) dX12_craneLine_42 (by decide) rfl (qRb_R c2325)  (fun g => ?_) (fun g => ?_)
      · rw [if_neg (show ¬ ((q2323.2 70 11) = 0) from g)] at h
        cases h
        exact q_pick [3, 2, 1, 0] rfl hk4194
      · rw [if_pos (show (q2323.2 70 11) = 0 from g)] at h
        refine q_iload_n dX12_craneLine_45 rfl rfl ?_
        refine q_iload_n dX12_craneLine_46 rfl rfl ?_
        obtain ⟨c2326, h⟩ := qk_some h
        obtain ⟨c2327, h⟩ := qk_some h
        refine q_icmp_ge (tgt := 59) dX12_craneLine_47 (by decide) rfl (qRb_R c2326) (qRb_R c2327) (fun g => ?_) (fun g => ?_)
        · rw [if_pos (show q2321.1 ≤ q2323.1 from g)] at h
          cases h
          exact q_pick [3, 2, 1, 0] rfl hk4194
        · rw [if_neg (show ¬ (q2321.1 ≤ q2323.1) from g)] at h
          refine q_aload_n dX12_craneLine_50 rfl rfl ?_
          refine q_iconst dX12_craneLine_51 rfl rfl ?_
          refine q_aload_n dX12_craneLine_52 rfl rfl ?_
          refine q_getI dX12_craneLine_53 fl_X12_157 (hL 70 (by decide)) sh_70 (by decide) rfl rfl ?_
          obtain ⟨q2328, h2329, h⟩ := Option.bind_eq_some_iff.mp h
          refine q_callVv (as := [qi 2, qi (q2323.2 70 13)]) (c := 70) dX12_craneLine_56 ml_X12_153 rfl rfl (hL 70 (by decide)) sh_70 rfl rfl (Nat.le_of_ble_eq_true rfl) (M_fail_ok hL (d + 4) 2 (q2323.2 70 13) _ _ h2329) rfl ?_
          cases h
          exact q_pick [3, 2, 1, 0] rfl hk4194
  · rw [if_pos (show q2318.1 = 0 from g)] at h
    cases h
    exact q_return dX12_craneLine_11 rfl hQ
set_option maxRecDepth 20000 in
theorem M_sectionLine_ok {X : qX} (hL : ∀ c, c < 93 → c ∈ qLs X) (d : Nat) (S : qSto) (o : qSto) (h : M_sectionLine S = some o) (Q : Option qV → qSto → Prop) (hQ : Q none o) : qC X (d + 5) yX12_sectionLine cX12_sectionLine 3 none [qr 70] S Q := by
  refine q_entry (lv := [(0, qr 70)]) pn_X12 (Nat.le_of_ble_eq_true rfl) rfl ?_
  unfold M_sectionLine at h
  refine q_aload_n dX12_sectionLine_0 rfl rfl ?_
  refine q_bipush dX12_sectionLine_1 (by decide) rfl ?_
  refine q_bipush dX12_sectionLine_3 (by decide) rfl ?_
  obtain ⟨q2335, h2336, h⟩ := Option.bind_eq_some_iff.mp h
  refine q_callVi (as := [qi 6, qi 8]) (c := 70) dX12_sectionLine_5 ml_X12_202 rfl rfl (hL 70 (by decide)) sh_70 rfl rfl (Nat.le_of_ble_eq_true rfl) (M_begins_ok hL d 6 8 _ _ h2336) rfl ?_
  obtain ⟨c2337, h⟩ := qk_some h
  refine q_if_ne (tgt := 12) dX12_sectionLine_8 (by decide) rfl (qRb_R c2337)  (fun g => ?_) (fun g => ?_)
  · rw [if_neg (show ¬ (q2335.1 = 0) from g)] at h
    refine q_aload_n dX12_sectionLine_12 rfl rfl ?_
    refine q_getA dX12_sectionLine_13 fl_X12_7 (hL 70 (by decide)) sh_70 (by decide) rfl rfl ?_
    refine q_bipush dX12_sectionLine_16 (by decide) rfl ?_
    refine q_iaload dX12_sectionLine_18 (hL 71 (by decide)) sh_71 (by decide) (by decide) rfl ?_
    refine q_istore_n (lv' := [(1, qi (q2335.2 71 6)), (0, qr 70)]) dX12_sectionLine_19 (by decide) rfl rfl ?_
    refine q_aload_n dX12_sectionLine_20 rfl rfl ?_
    refine q_iconst dX12_sectionLine_21 rfl rfl ?_
    refine q_sipush dX12_sectionLine_22 (by decide) rfl ?_
    obtain ⟨q2338, h2339, h⟩ := Option.bind_eq_some_iff.mp h
    refine q_callVi (as := [qi 0, qi 999]) (c := 70) dX12_sectionLine_25 ml_X12_198 rfl rfl (hL 70 (by decide)) sh_70 rfl rfl (Nat.le_of_ble_eq_true rfl) (M_number_ok hL d 0 999 _ _ h2339) rfl ?_
    refine q_istore_n (lv' := [(2, qi q2338.1), (1, qi (q2335.2 71 6)), (0, qr 70)]) dX12_sectionLine_28 (by decide) rfl rfl ?_
    refine q_aload_n dX12_sectionLine_29 rfl rfl ?_
    refine q_getI dX12_sectionLine_30 fl_X12_147 (hL 70 (by decide)) sh_70 (by decide) rfl rfl ?_
    refine q_jn (G := fun (t2346 : qSto) => qW X (d + 5) yX12_sectionLine cX12_sectionLine 3 none 56 [(0, qr 70), (1, qi (q2335.2 71 6)), (2, qi q2338.1)] [] t2346 Q) h (fun t2346 h => ?_) (fun t2346 h hk4195 => ?_)
    · try dsimp only at h
      refine q_aload_n dX12_sectionLine_56 rfl rfl ?_
      refine q_getA dX12_sectionLine_57 fl_X12_7 (hL 70 (by decide)) sh_70 (by decide) rfl rfl ?_
      refine q_bipush dX12_sectionLine_60 (by decide) rfl ?_
      refine q_iload_n dX12_sectionLine_62 rfl rfl ?_
      refine q_iadd dX12_sectionLine_63 rfl ?_
      refine q_iload_n dX12_sectionLine_64 rfl rfl ?_
      obtain ⟨c2347, h⟩ := qk_some h
      refine q_iastore dX12_sectionLine_65 (hL 71 (by decide)) sh_71 (qIx_0 c2347) (qIx_1 c2347) rfl ?_
      refine q_aload_n dX12_sectionLine_66 rfl rfl ?_
      refine q_getA dX12_sectionLine_67 fl_X12_7 (hL 70 (by decide)) sh_70 (by decide) rfl rfl ?_
      refine q_bipush dX12_sectionLine_70 (by decide) rfl ?_
      refine q_iload_n dX12_sectionLine_72 rfl rfl ?_
      refine q_iadd dX12_sectionLine_73 rfl ?_
      refine q_aload_n dX12_sectionLine_74 rfl rfl ?_
      refine q_iconst dX12_sectionLine_75 rfl rfl ?_
      refine q_sipush dX12_sectionLine_76 (by decide) rfl ?_
      obtain ⟨q2348, h2349, h⟩ := Option.bind_eq_some_iff.mp h
      refine q_callVi (as := [qi 0, qi 300]) (c := 70) dX12_sectionLine_79 ml_X12_198 rfl rfl (hL 70 (by decide)) sh_70 rfl rfl (Nat.le_of_ble_eq_true rfl) (M_number_ok hL d 0 300 _ _ h2349) rfl ?_
      obtain ⟨c2350, h⟩ := qk_some h
      refine q_iastore dX12_sectionLine_82 (hL 71 (by decide)) sh_71 (qIx_0 c2350) (qIx_1 c2350) rfl ?_
      refine q_aload_n dX12_sectionLine_83 rfl rfl ?_
      refine q_getA dX12_sectionLine_84 fl_X12_7 (hL 70 (by decide)) sh_70 (by decide) rfl rfl ?_
      refine q_bipush dX12_sectionLine_87 (by decide) rfl ?_
      refine q_iload_n dX12_sectionLine_89 rfl rfl ?_
      refine q_iconst dX12_sectionLine_90 rfl rfl ?_
      refine q_iadd dX12_sectionLine_91 rfl ?_
      refine q_iastore dX12_sectionLine_92 (hL 71 (by decide)) sh_71 (by decide) (by decide) rfl ?_
      cases h
      exact q_return dX12_sectionLine_93 rfl hQ
    · skip
      obtain ⟨c2340, h⟩ := qk_some h
      refine q_if_ne (tgt := 56) dX12_sectionLine_33 (by decide) rfl (qRb_R c2340)  (fun g => ?_) (fun g => ?_)
      · rw [if_neg (show ¬ ((q2338.2 70 11) = 0) from g)] at h
        cases h
        exact q_pick [2, 1, 0] rfl hk4195
      · rw [if_pos (show (q2338.2 70 11) = 0 from g)] at h
        refine q_aload_n dX12_sectionLine_36 rfl rfl ?_
        refine q_bipush dX12_sectionLine_37 (by decide) rfl ?_
        refine q_iload_n dX12_sectionLine_39 rfl rfl ?_
        refine q_iload_n dX12_sectionLine_40 rfl rfl ?_
        obtain ⟨q2341, h2342, h⟩ := Option.bind_eq_some_iff.mp h
        refine q_callVi (as := [qi 11, qi (q2335.2 71 6), qi q2338.1]) (c := 70) dX12_sectionLine_41 ml_X12_205 rfl rfl (hL 70 (by decide)) sh_70 rfl rfl (Nat.le_of_ble_eq_true rfl) (M_isTold_ok hL (d + 4) 11 (q2335.2 71 6) q2338.1 _ _ h2342) rfl ?_
        obtain ⟨c2343, h⟩ := qk_some h
        refine q_if_eq (tgt := 56) dX12_sectionLine_44 (by decide) rfl (qRb_R c2343)  (fun g => ?_) (fun g => ?_)
        · rw [if_pos (show q2341.1 = 0 from g)] at h
          cases h
          exact q_pick [2, 1, 0] rfl hk4195
        · rw [if_neg (show ¬ (q2341.1 = 0) from g)] at h
          refine q_aload_n dX12_sectionLine_47 rfl rfl ?_
          refine q_iconst dX12_sectionLine_48 rfl rfl ?_
          refine q_aload_n dX12_sectionLine_49 rfl rfl ?_
          refine q_getI dX12_sectionLine_50 fl_X12_157 (hL 70 (by decide)) sh_70 (by decide) rfl rfl ?_
          obtain ⟨q2344, h2345, h⟩ := Option.bind_eq_some_iff.mp h
          refine q_callVv (as := [qi 3, qi (q2341.2 70 13)]) (c := 70) dX12_sectionLine_53 ml_X12_153 rfl rfl (hL 70 (by decide)) sh_70 rfl rfl (Nat.le_of_ble_eq_true rfl) (M_fail_ok hL (d + 4) 3 (q2341.2 70 13) _ _ h2345) rfl ?_
          cases h
          exact q_pick [2, 1, 0] rfl hk4195
  · rw [if_pos (show q2335.1 = 0 from g)] at h
    cases h
    exact q_return dX12_sectionLine_11 rfl hQ
set_option maxRecDepth 20000 in
theorem M_has_ok {X : qX} (hL : ∀ c, c < 93 → c ∈ qLs X) (d : Nat) (a0 : Int) (a1 : Int) (S : qSto) (o : (Int × qSto)) (h : M_has a0 a1 S = some o) (Q : Option qV → qSto → Prop) (hQ : Q (some (qi o.1)) o.2) : qC X d yX12_has cX12_has 2 (some .boolean) [qi a0, qi a1] S Q := by
  refine q_entry (lv := [(0, qi a0), (1, qi a1)]) pn_X12 (Nat.le_of_ble_eq_true rfl) rfl ?_
  unfold M_has at h
  refine q_iload_n dX12_has_0 rfl rfl ?_
  refine q_iload_n dX12_has_1 rfl rfl ?_
  refine q_ishr dX12_has_2 rfl ?_
  refine q_iconst dX12_has_3 rfl rfl ?_
  refine q_iand dX12_has_4 rfl ?_
  refine q_iconst dX12_has_5 rfl rfl ?_
  obtain ⟨c2353, h⟩ := qk_some h
  refine q_icmp_ne (tgt := 13) dX12_has_6 (by decide) rfl (qRb_R c2353) ⟨by decide, by decide⟩ (fun g => ?_) (fun g => ?_)
  · rw [if_neg (show ¬ ((qb_iand (qb_ishr a0 a1) 1) = 1) from g)] at h
    refine q_iconst dX12_has_13 rfl rfl ?_
    cases h
    exact q_zreturn dX12_has_14 rfl (by decide) hQ
  · rw [if_pos (show (qb_iand (qb_ishr a0 a1) 1) = 1 from g)] at h
    refine q_iconst dX12_has_9 rfl rfl ?_
    refine q_goto (pc' := 14) dX12_has_10 (by decide) ?_
    cases h
    exact q_zreturn dX12_has_14 rfl (by decide) hQ
set_option maxRecDepth 20000 in
theorem M_lowOf_ok {X : qX} (hL : ∀ c, c < 93 → c ∈ qLs X) (d : Nat) (a0 : Int) (S : qSto) (o : (Int × qSto)) (h : M_lowOf a0 S = some o) (Q : Option qV → qSto → Prop) (hQ : Q (some (qi o.1)) o.2) : qC X d yX12_lowOf cX12_lowOf 1 (some .int) [qi a0] S Q := by
  refine q_entry (lv := [(0, qi a0)]) pn_X12 (Nat.le_of_ble_eq_true rfl) rfl ?_
  unfold M_lowOf at h
  refine q_iload_n dX12_lowOf_0 rfl rfl ?_
  obtain ⟨c2364, h⟩ := qk_some h
  refine q_if_ne (tgt := 9) dX12_lowOf_1 (by decide) rfl (qRb_R c2364)  (fun g => ?_) (fun g => ?_)
  · rw [if_neg (show ¬ (a0 = 0) from g)] at h
    refine q_iload_n dX12_lowOf_9 rfl rfl ?_
    refine q_iconst dX12_lowOf_10 rfl rfl ?_
    obtain ⟨c2365, h⟩ := qk_some h
    refine q_icmp_ne (tgt := 18) dX12_lowOf_11 (by decide) rfl (qRb_R c2365) ⟨by decide, by decide⟩ (fun g => ?_) (fun g => ?_)
    · rw [if_neg (show ¬ (a0 = 4) from g)] at h
      refine q_iconst dX12_lowOf_18 rfl rfl ?_
      cases h
      exact q_ireturn dX12_lowOf_19 rfl hQ
    · rw [if_pos (show a0 = 4 from g)] at h
      refine q_iconst dX12_lowOf_14 rfl rfl ?_
      refine q_goto (pc' := 19) dX12_lowOf_15 (by decide) ?_
      cases h
      exact q_ireturn dX12_lowOf_19 rfl hQ
  · rw [if_pos (show a0 = 0 from g)] at h
    refine q_bipush dX12_lowOf_4 (by decide) rfl ?_
    refine q_goto (pc' := 19) dX12_lowOf_6 (by decide) ?_
    cases h
    exact q_ireturn dX12_lowOf_19 rfl hQ
set_option maxRecDepth 20000 in
theorem M_highOf_ok {X : qX} (hL : ∀ c, c < 93 → c ∈ qLs X) (d : Nat) (a0 : Int) (S : qSto) (o : (Int × qSto)) (h : M_highOf a0 S = some o) (Q : Option qV → qSto → Prop) (hQ : Q (some (qi o.1)) o.2) : qC X d yX12_highOf cX12_highOf 1 (some .int) [qi a0] S Q := by
  refine q_entry (lv := [(0, qi a0)]) pn_X12 (Nat.le_of_ble_eq_true rfl) rfl ?_
  unfold M_highOf at h
  refine q_iload_n dX12_highOf_0 rfl rfl ?_
  obtain ⟨c2368, h⟩ := qk_some h
  by_cases e4196 : a0 = 0
  · rw [if_pos e4196] at h
    refine q_tsw (tgt := 53) dX12_highOf_1 (qRb_R c2368) (by decide) (fun g => absurd g (by rw [e4196]; decide)) (fun _ _ => ⟨35, 36, by rw [e4196]; rfl, by decide, ?_⟩)
    refine q_sipush dX12_highOf_36 (by decide) rfl ?_
    cases h
    exact q_ireturn dX12_highOf_39 rfl hQ
  · rw [if_neg e4196] at h
    by_cases e4197 : a0 = 1
    · rw [if_pos e4197] at h
      refine q_tsw (tgt := 53) dX12_highOf_1 (qRb_R c2368) (by decide) (fun g => absurd g (by rw [e4197]; decide)) (fun _ _ => ⟨39, 40, by rw [e4197]; rfl, by decide, ?_⟩)
      refine q_bipush dX12_highOf_40 (by decide) rfl ?_
      cases h
      exact q_ireturn dX12_highOf_42 rfl hQ
    · rw [if_neg e4197] at h
      by_cases e4198 : a0 = 2
      · rw [if_pos e4198] at h
        refine q_tsw (tgt := 53) dX12_highOf_1 (qRb_R c2368) (by decide) (fun g => absurd g (by rw [e4198]; decide)) (fun _ _ => ⟨42, 43, by rw [e4198]; rfl, by decide, ?_⟩)
        refine q_bipush dX12_highOf_43 (by decide) rfl ?_
        cases h
        exact q_ireturn dX12_highOf_45 rfl hQ
      · rw [if_neg e4198] at h
        by_cases e4199 : a0 = 3
        · rw [if_pos e4199] at h
          refine q_tsw (tgt := 53) dX12_highOf_1 (qRb_R c2368) (by decide) (fun g => absurd g (by rw [e4199]; decide)) (fun _ _ => ⟨45, 46, by rw [e4199]; rfl, by decide, ?_⟩)
          refine q_sipush dX12_highOf_46 (by decide) rfl ?_
          cases h
          exact q_ireturn dX12_highOf_49 rfl hQ
        · rw [if_neg e4199] at h
          by_cases e4200 : a0 = 4
          · rw [if_pos e4200] at h
            refine q_tsw (tgt := 53) dX12_highOf_1 (qRb_R c2368) (by decide) (fun g => absurd g (by rw [e4200]; decide)) (fun _ _ => ⟨49, 50, by rw [e4200]; rfl, by decide, ?_⟩)
            refine q_bipush dX12_highOf_50 (by decide) rfl ?_
            cases h
            exact q_ireturn dX12_highOf_52 rfl hQ
          · rw [if_neg e4200] at h
            refine q_tsw (tgt := 53) dX12_highOf_1 (qRb_R c2368) (by decide) (fun _ => ?_) (fun g1 g2 => absurd g1 (by omega))
            refine q_bipush dX12_highOf_53 (by decide) rfl ?_
            cases h
            exact q_ireturn dX12_highOf_55 rfl hQ
set_option maxRecDepth 20000 in
theorem M_plainLine_ok {X : qX} (hL : ∀ c, c < 93 → c ∈ qLs X) (d : Nat) (a1 : Int) (S : qSto) (o : qSto) (h : M_plainLine a1 S = some o) (Q : Option qV → qSto → Prop) (hQ : Q none o) : qC X (d + 5) yX12_plainLine cX12_plainLine 2 none [qr 70, qi a1] S Q := by
  refine q_entry (lv := [(0, qr 70), (1, qi a1)]) pn_X12 (Nat.le_of_ble_eq_true rfl) rfl ?_
  unfold M_plainLine at h
  refine q_aload_n dX12_plainLine_0 rfl rfl ?_
  refine q_getI dX12_plainLine_1 fl_X12_185 (hL 70 (by decide)) sh_70 (by decide) rfl rfl ?_
  refine q_iload_n dX12_plainLine_4 rfl rfl ?_
  obtain ⟨q2354, h2355, h⟩ := Option.bind_eq_some_iff.mp h
  refine q_callSi (as := [qi (S 70 14), qi a1]) dX12_plainLine_5 ml_X12_188 rfl rfl (Nat.le_of_ble_eq_true rfl) (M_has_ok hL (d + 4) (S 70 14) a1 _ _ h2355) rfl ?_
  refine q_jn (G := fun (t2359 : qSto) => qW X (d + 5) yX12_plainLine cX12_plainLine 2 none 20 [(0, qr 70), (1, qi a1)] [] t2359 Q) h (fun t2359 h => ?_) (fun t2359 h hk4201 => ?_)
  · try dsimp only at h
    refine q_aload_n dX12_plainLine_20 rfl rfl ?_
    refine q_aload_n dX12_plainLine_21 rfl rfl ?_
    refine q_getI dX12_plainLine_22 fl_X12_185 (hL 70 (by decide)) sh_70 (by decide) rfl rfl ?_
    refine q_iconst dX12_plainLine_25 rfl rfl ?_
    refine q_iload_n dX12_plainLine_26 rfl rfl ?_
    refine q_ishl dX12_plainLine_27 rfl ?_
    refine q_ior dX12_plainLine_28 rfl ?_
    refine q_putI dX12_plainLine_29 fl_X12_185 (hL 70 (by decide)) sh_70 (by decide) pf_12_14 pt_12_14 rfl rfl ?_
    refine q_aload_n dX12_plainLine_32 rfl rfl ?_
    refine q_getI dX12_plainLine_33 fl_X12_147 (hL 70 (by decide)) sh_70 (by decide) rfl rfl ?_
    refine q_jn (G := fun (t2363 : qSto) => qW X (d + 5) yX12_plainLine cX12_plainLine 2 none 43 [(0, qr 70), (1, qi a1)] [] t2363 Q) h (fun t2363 h => ?_) (fun t2363 h hk4202 => ?_)
    · try dsimp only at h
      refine q_aload_n dX12_plainLine_43 rfl rfl ?_
      refine q_getA dX12_plainLine_44 fl_X12_7 (hL 70 (by decide)) sh_70 (by decide) rfl rfl ?_
      refine q_iload_n dX12_plainLine_47 rfl rfl ?_
      refine q_aload_n dX12_plainLine_48 rfl rfl ?_
      refine q_iload_n dX12_plainLine_49 rfl rfl ?_
      obtain ⟨q2366, h2367, h⟩ := Option.bind_eq_some_iff.mp h
      refine q_callSi (as := [qi a1]) dX12_plainLine_50 ml_X12_192 rfl rfl (Nat.le_of_ble_eq_true rfl) (M_lowOf_ok hL (d + 4) a1 _ _ h2367) rfl ?_
      refine q_iload_n dX12_plainLine_53 rfl rfl ?_
      obtain ⟨q2369, h2370, h⟩ := Option.bind_eq_some_iff.mp h
      refine q_callSi (as := [qi a1]) dX12_plainLine_54 ml_X12_195 rfl rfl (Nat.le_of_ble_eq_true rfl) (M_highOf_ok hL (d + 4) a1 _ _ h2370) rfl ?_
      obtain ⟨q2371, h2372, h⟩ := Option.bind_eq_some_iff.mp h
      refine q_callVi (as := [qi q2366.1, qi q2369.1]) (c := 70) dX12_plainLine_57 ml_X12_198 rfl rfl (hL 70 (by decide)) sh_70 rfl rfl (Nat.le_of_ble_eq_true rfl) (M_number_ok hL d q2366.1 q2369.1 _ _ h2372) rfl ?_
      obtain ⟨c2373, h⟩ := qk_some h
      refine q_iastore dX12_plainLine_60 (hL 71 (by decide)) sh_71 (qIx_0 c2373) (qIx_1 c2373) rfl ?_
      cases h
      exact q_return dX12_plainLine_61 rfl hQ
    · skip
      obtain ⟨c2360, h⟩ := qk_some h
      refine q_if_ne (tgt := 43) dX12_plainLine_36 (by decide) rfl (qRb_R c2360)  (fun g => ?_) (fun g => ?_)
      · rw [if_neg (show ¬ (((qup t2359 70 14 (qb_ior (t2359 70 14) (qb_ishl 1 a1))) 70 11) = 0) from g)] at h
        cases h
        exact q_pick [0, 1] rfl hk4202
      · rw [if_pos (show ((qup t2359 70 14 (qb_ior (t2359 70 14) (qb_ishl 1 a1))) 70 11) = 0 from g)] at h
        refine q_aload_n dX12_plainLine_39 rfl rfl ?_
        obtain ⟨q2361, h2362, h⟩ := Option.bind_eq_some_iff.mp h
        refine q_callVv (as := []) (c := 70) dX12_plainLine_40 ml_X12_160 rfl rfl (hL 70 (by decide)) sh_70 rfl rfl (Nat.le_of_ble_eq_true rfl) (M_goOn_ok hL (d + 1) _ _ h2362) rfl ?_
        cases h
        exact q_pick [0, 1] rfl hk4202
  · skip
    obtain ⟨c2356, h⟩ := qk_some h
    refine q_if_eq (tgt := 20) dX12_plainLine_8 (by decide) rfl (qRb_R c2356)  (fun g => ?_) (fun g => ?_)
    · rw [if_pos (show q2354.1 = 0 from g)] at h
      cases h
      exact q_pick [0, 1] rfl hk4201
    · rw [if_neg (show ¬ (q2354.1 = 0) from g)] at h
      refine q_aload_n dX12_plainLine_11 rfl rfl ?_
      refine q_iconst dX12_plainLine_12 rfl rfl ?_
      refine q_aload_n dX12_plainLine_13 rfl rfl ?_
      refine q_getI dX12_plainLine_14 fl_X12_117 (hL 70 (by decide)) sh_70 (by decide) rfl rfl ?_
      obtain ⟨q2357, h2358, h⟩ := Option.bind_eq_some_iff.mp h
      refine q_callVv (as := [qi 3, qi (q2354.2 70 8)]) (c := 70) dX12_plainLine_17 ml_X12_153 rfl rfl (hL 70 (by decide)) sh_70 rfl rfl (Nat.le_of_ble_eq_true rfl) (M_fail_ok hL (d + 4) 3 (q2354.2 70 8) _ _ h2358) rfl ?_
      cases h
      exact q_pick [0, 1] rfl hk4201
set_option maxRecDepth 20000 in
theorem M_line_ok {X : qX} (hL : ∀ c, c < 93 → c ∈ qLs X) (d : Nat) (S : qSto) (o : qSto) (h : M_line S = some o) (Q : Option qV → qSto → Prop) (hQ : Q none o) : qC X (d + 6) yX12_line cX12_line 2 none [qr 70] S Q := by
  refine q_entry (lv := [(0, qr 70)]) pn_X12 (Nat.le_of_ble_eq_true rfl) rfl ?_
  unfold M_line at h
  refine q_aload_n dX12_line_0 rfl rfl ?_
  obtain ⟨q2187, h2188, h⟩ := Option.bind_eq_some_iff.mp h
  refine q_callVi (as := []) (c := 70) dX12_line_1 ml_X12_209 rfl rfl (hL 70 (by decide)) sh_70 rfl rfl (Nat.le_of_ble_eq_true rfl) (M_key_ok hL (d + 5) _ _ h2188) rfl ?_
  refine q_istore_n (lv' := [(1, qi q2187.1), (0, qr 70)]) dX12_line_4 (by decide) rfl rfl ?_
  refine q_iload_n dX12_line_5 rfl rfl ?_
  refine q_iconst dX12_line_6 rfl rfl ?_
  refine q_jn (G := fun (t2378 : qSto) => qW X (d + 6) yX12_line cX12_line 2 none 92 [(0, qr 70)] [] t2378 Q) h (fun t2378 h => ?_) (fun t2378 h hk4203 => ?_)
  · try dsimp only at h
    refine q_aload_n dX12_line_92 rfl rfl ?_
    refine q_getI dX12_line_93 fl_X12_147 (hL 70 (by decide)) sh_70 (by decide) rfl rfl ?_
    obtain ⟨c2379, h⟩ := qk_some h
    refine q_if_le (tgt := 100) dX12_line_96 (by decide) rfl (qRb_R c2379)  (fun g => ?_) (fun g => ?_)
    · rw [if_pos (show (t2378 70 11) ≤ 0 from g)] at h
      refine q_aload_n dX12_line_100 rfl rfl ?_
      refine q_getI dX12_line_101 fl_X12_120 (hL 70 (by decide)) sh_70 (by decide) rfl rfl ?_
      refine q_iconst dX12_line_104 rfl rfl ?_
      refine q_jn (G := fun (t2385 : qSto) => qW X (d + 6) yX12_line cX12_line 2 none 124 [(0, qr 70)] [] t2385 Q) h (fun t2385 h => ?_) (fun t2385 h hk4204 => ?_)
      · try dsimp only at h
        refine q_aload_n dX12_line_124 rfl rfl ?_
        refine q_getA dX12_line_125 fl_X12_7 (hL 70 (by decide)) sh_70 (by decide) rfl rfl ?_
        refine q_bipush dX12_line_128 (by decide) rfl ?_
        refine q_aload_n dX12_line_130 rfl rfl ?_
        refine q_getA dX12_line_131 fl_X12_7 (hL 70 (by decide)) sh_70 (by decide) rfl rfl ?_
        refine q_bipush dX12_line_134 (by decide) rfl ?_
        refine q_iaload dX12_line_136 (hL 71 (by decide)) sh_71 (by decide) (by decide) rfl ?_
        refine q_iconst dX12_line_137 rfl rfl ?_
        refine q_iadd dX12_line_138 rfl ?_
        refine q_iastore dX12_line_139 (hL 71 (by decide)) sh_71 (by decide) (by decide) rfl ?_
        cases h
        exact q_return dX12_line_140 rfl hQ
      · skip
        obtain ⟨c2380, h⟩ := qk_some h
        refine q_icmp_eq (tgt := 120) dX12_line_105 (by decide) rfl (qRb_R c2380) ⟨by decide, by decide⟩ (fun g => ?_) (fun g => ?_)
        · rw [if_pos (show (t2378 70 9) = 3 from g)] at h
          refine q_aload_n dX12_line_120 rfl rfl ?_
          obtain ⟨q2381, h2382, h⟩ := Option.bind_eq_some_iff.mp h
          refine q_callVv (as := []) (c := 70) dX12_line_121 ml_X12_160 rfl rfl (hL 70 (by decide)) sh_70 rfl rfl (Nat.le_of_ble_eq_true rfl) (M_goOn_ok hL (d + 2) _ _ h2382) rfl ?_
          cases h
          exact q_pick [0] rfl hk4204
        · rw [if_neg (show ¬ ((t2378 70 9) = 3) from g)] at h
          refine q_aload_n dX12_line_108 rfl rfl ?_
          refine q_iconst dX12_line_109 rfl rfl ?_
          refine q_aload_n dX12_line_110 rfl rfl ?_
          refine q_getI dX12_line_111 fl_X12_117 (hL 70 (by decide)) sh_70 (by decide) rfl rfl ?_
          obtain ⟨q2383, h2384, h⟩ := Option.bind_eq_some_iff.mp h
          refine q_callVv (as := [qi 1, qi (t2378 70 8)]) (c := 70) dX12_line_114 ml_X12_153 rfl rfl (hL 70 (by decide)) sh_70 rfl rfl (Nat.le_of_ble_eq_true rfl) (M_fail_ok hL (d + 5) 1 (t2378 70 8) _ _ h2384) rfl ?_
          refine q_goto (pc' := 124) dX12_line_117 (by decide) ?_
          cases h
          exact q_pick [0] rfl hk4204
    · rw [if_neg (show ¬ ((t2378 70 11) ≤ 0) from g)] at h
      cases h
      exact q_return dX12_line_99 rfl hQ
  · skip
    obtain ⟨c2189, h⟩ := qk_some h
    refine q_icmp_ne (tgt := 22) dX12_line_7 (by decide) rfl (qRb_R c2189) ⟨by decide, by decide⟩ (fun g => ?_) (fun g => ?_)
    · rw [if_neg (show ¬ (q2187.1 = (-1)) from g)] at h
      refine q_iload_n dX12_line_22 rfl rfl ?_
      refine q_bipush dX12_line_23 (by decide) rfl ?_
      obtain ⟨c2190, h⟩ := qk_some h
      refine q_icmp_ge (tgt := 36) dX12_line_25 (by decide) rfl (qRb_R c2190) ⟨by decide, by decide⟩ (fun g => ?_) (fun g => ?_)
      · rw [if_pos (show 6 ≤ q2187.1 from g)] at h
        refine q_iload_n dX12_line_36 rfl rfl ?_
        refine q_bipush dX12_line_37 (by decide) rfl ?_
        obtain ⟨c2191, h⟩ := qk_some h
        refine q_icmp_ne (tgt := 49) dX12_line_39 (by decide) rfl (qRb_R c2191) ⟨by decide, by decide⟩ (fun g => ?_) (fun g => ?_)
        · rw [if_neg (show ¬ (q2187.1 = 6) from g)] at h
          refine q_iload_n dX12_line_49 rfl rfl ?_
          refine q_bipush dX12_line_50 (by decide) rfl ?_
          obtain ⟨c2192, h⟩ := qk_some h
          refine q_icmp_ne (tgt := 62) dX12_line_52 (by decide) rfl (qRb_R c2192) ⟨by decide, by decide⟩ (fun g => ?_) (fun g => ?_)
          · rw [if_neg (show ¬ (q2187.1 = 7) from g)] at h
            refine q_iload_n dX12_line_62 rfl rfl ?_
            refine q_bipush dX12_line_63 (by decide) rfl ?_
            obtain ⟨c2193, h⟩ := qk_some h
            refine q_icmp_ne (tgt := 75) dX12_line_65 (by decide) rfl (qRb_R c2193) ⟨by decide, by decide⟩ (fun g => ?_) (fun g => ?_)
            · rw [if_neg (show ¬ (q2187.1 = 8) from g)] at h
              refine q_iload_n dX12_line_75 rfl rfl ?_
              refine q_bipush dX12_line_76 (by decide) rfl ?_
              obtain ⟨c2194, h⟩ := qk_some h
              refine q_icmp_ne (tgt := 88) dX12_line_78 (by decide) rfl (qRb_R c2194) ⟨by decide, by decide⟩ (fun g => ?_) (fun g => ?_)
              · rw [if_neg (show ¬ (q2187.1 = 9) from g)] at h
                refine q_aload_n dX12_line_88 rfl rfl ?_
                obtain ⟨q2273, h2274, h⟩ := Option.bind_eq_some_iff.mp h
                refine q_callVv (as := []) (c := 70) dX12_line_89 ml_X12_237 rfl rfl (hL 70 (by decide)) sh_70 rfl rfl (Nat.le_of_ble_eq_true rfl) (M_shipLine_ok hL d _ _ h2274) rfl ?_
                cases h
                exact q_pick [1] rfl hk4203
              · rw [if_pos (show q2187.1 = 9 from g)] at h
                refine q_aload_n dX12_line_81 rfl rfl ?_
                obtain ⟨q2290, h2291, h⟩ := Option.bind_eq_some_iff.mp h
                refine q_callVv (as := []) (c := 70) dX12_line_82 ml_X12_234 rfl rfl (hL 70 (by decide)) sh_70 rfl rfl (Nat.le_of_ble_eq_true rfl) (M_gangsLine_ok hL d _ _ h2291) rfl ?_
                refine q_goto (pc' := 92) dX12_line_85 (by decide) ?_
                cases h
                exact q_pick [1] rfl hk4203
            · rw [if_pos (show q2187.1 = 8 from g)] at h
              refine q_aload_n dX12_line_68 rfl rfl ?_
              obtain ⟨q2316, h2317, h⟩ := Option.bind_eq_some_iff.mp h
              refine q_callVv (as := []) (c := 70) dX12_line_69 ml_X12_231 rfl rfl (hL 70 (by decide)) sh_70 rfl rfl (Nat.le_of_ble_eq_true rfl) (M_tideLine_ok hL d _ _ h2317) rfl ?_
              refine q_goto (pc' := 92) dX12_line_72 (by decide) ?_
              cases h
              exact q_pick [1] rfl hk4203
          · rw [if_pos (show q2187.1 = 7 from g)] at h
            refine q_aload_n dX12_line_55 rfl rfl ?_
            obtain ⟨q2333, h2334, h⟩ := Option.bind_eq_some_iff.mp h
            refine q_callVv (as := []) (c := 70) dX12_line_56 ml_X12_228 rfl rfl (hL 70 (by decide)) sh_70 rfl rfl (Nat.le_of_ble_eq_true rfl) (M_craneLine_ok hL d _ _ h2334) rfl ?_
            refine q_goto (pc' := 92) dX12_line_59 (by decide) ?_
            cases h
            exact q_pick [1] rfl hk4203
        · rw [if_pos (show q2187.1 = 6 from g)] at h
          refine q_aload_n dX12_line_42 rfl rfl ?_
          obtain ⟨q2351, h2352, h⟩ := Option.bind_eq_some_iff.mp h
          refine q_callVv (as := []) (c := 70) dX12_line_43 ml_X12_225 rfl rfl (hL 70 (by decide)) sh_70 rfl rfl (Nat.le_of_ble_eq_true rfl) (M_sectionLine_ok hL d _ _ h2352) rfl ?_
          refine q_goto (pc' := 92) dX12_line_46 (by decide) ?_
          cases h
          exact q_pick [1] rfl hk4203
      · rw [if_neg (show ¬ (6 ≤ q2187.1) from g)] at h
        refine q_aload_n dX12_line_28 rfl rfl ?_
        refine q_iload_n dX12_line_29 rfl rfl ?_
        obtain ⟨q2374, h2375, h⟩ := Option.bind_eq_some_iff.mp h
        refine q_callVv (as := [qi q2187.1]) (c := 70) dX12_line_30 ml_X12_222 rfl rfl (hL 70 (by decide)) sh_70 rfl rfl (Nat.le_of_ble_eq_true rfl) (M_plainLine_ok hL d q2187.1 _ _ h2375) rfl ?_
        refine q_goto (pc' := 92) dX12_line_33 (by decide) ?_
        cases h
        exact q_pick [1] rfl hk4203
    · rw [if_pos (show q2187.1 = (-1) from g)] at h
      refine q_aload_n dX12_line_10 rfl rfl ?_
      refine q_iconst dX12_line_11 rfl rfl ?_
      refine q_aload_n dX12_line_12 rfl rfl ?_
      refine q_getI dX12_line_13 fl_X12_117 (hL 70 (by decide)) sh_70 (by decide) rfl rfl ?_
      obtain ⟨q2376, h2377, h⟩ := Option.bind_eq_some_iff.mp h
      refine q_callVv (as := [qi 1, qi (q2187.2 70 8)]) (c := 70) dX12_line_16 ml_X12_153 rfl rfl (hL 70 (by decide)) sh_70 rfl rfl (Nat.le_of_ble_eq_true rfl) (M_fail_ok hL (d + 5) 1 (q2187.2 70 8) _ _ h2377) rfl ?_
      refine q_goto (pc' := 92) dX12_line_19 (by decide) ?_
      cases h
      exact q_pick [1] rfl hk4203
set_option maxRecDepth 20000 in
theorem M_depthBy_L8_ok {X : qX} (hL : ∀ c, c < 93 → c ∈ qLs X) (d : Nat) {Q : Option qV → qSto → Prop} : ∀ (n : Nat) (x1 : Int) (x2 : Int) (x3 : Int) (x4 : Int) (S : qSto) (o : (Int × qSto)), M_depthBy_L8 n x1 x2 x3 x4 S = some o → (qW X d yX12_depthBy cX12_depthBy 6 (some .int) 67 [(3, qi o.1)] [] o.2 Q) → qW X d yX12_depthBy cX12_depthBy 6 (some .int) 8 [(0, qr 70), (1, qi x1), (2, qi x2), (3, qi x3), (4, qi x4)] [] S Q := by
  intro n
  induction n with
  | zero =>
    intro x1 x2 x3 x4 S o h
    simp [M_depthBy_L8] at h
  | succ n ih =>
    intro x1 x2 x3 x4 S o h hE
    rw [M_depthBy_L8] at h
    refine q_iload dX12_depthBy_8 rfl rfl ?_
    refine q_aload_n dX12_depthBy_10 rfl rfl ?_
    refine q_getA dX12_depthBy_11 fl_X12_13 (hL 70 (by decide)) sh_70 (by decide) rfl rfl ?_
    refine q_bipush dX12_depthBy_14 (by decide) rfl ?_
    refine q_iaload dX12_depthBy_16 (hL 72 (by decide)) sh_72 (by decide) (by decide) rfl ?_
    obtain ⟨c2402, h⟩ := qk_some h
    obtain ⟨c2403, h⟩ := qk_some h
    refine q_icmp_ge (tgt := 67) dX12_depthBy_17 (by decide) rfl (qRb_R c2402) (qRb_R c2403) (fun g => ?_) (fun g => ?_)
    · rw [if_pos (show (S 72 6) ≤ x4 from g)] at h
      cases h
      exact q_pick [3] rfl (hE)
    · rw [if_neg (show ¬ ((S 72 6) ≤ x4) from g)] at h
      refine q_aload_n dX12_depthBy_20 rfl rfl ?_
      refine q_getA dX12_depthBy_21 fl_X12_13 (hL 70 (by decide)) sh_70 (by decide) rfl rfl ?_
      refine q_bipush dX12_depthBy_24 (by decide) rfl ?_
      refine q_iload dX12_depthBy_26 rfl rfl ?_
      refine q_iadd dX12_depthBy_28 rfl ?_
      obtain ⟨c2404, h⟩ := qk_some h
      refine q_iaload dX12_depthBy_29 (hL 72 (by decide)) sh_72 (qIx_0 c2404) (qIx_1 c2404) rfl ?_
      refine q_istore (lv' := [(5, qi (S 72 (Int.toNat (11 + x4)))), (0, qr 70), (1, qi x1), (2, qi x2), (3, qi x3), (4, qi x4)]) dX12_depthBy_30 (by decide) rfl rfl ?_
      refine q_iload dX12_depthBy_32 rfl rfl ?_
      refine q_iload_n dX12_depthBy_34 rfl rfl ?_
      refine q_jn (G := fun (t2410 : (Int × Int)) => qW X d yX12_depthBy cX12_depthBy 6 (some .int) 61 [(0, qr 70), (1, qi x1), (2, qi t2410.1), (3, qi t2410.2), (4, qi x4)] [] S Q) h (fun t2410 h => ?_) (fun t2410 h hk4205 => ?_)
      · try dsimp only at h
        refine q_iinc (lv' := [(4, qi (x4 + 1)), (0, qr 70), (1, qi x1), (2, qi t2410.1), (3, qi t2410.2)]) dX12_depthBy_61 (by decide) rfl rfl rfl ?_
        refine q_goto (pc' := 8) dX12_depthBy_64 (by decide) ?_
        exact q_pick [1, 2, 3, 4, 0] rfl (ih x1 t2410.1 t2410.2 (x4 + 1) _ _ h hE)
      · skip
        obtain ⟨c2405, h⟩ := qk_some h
        obtain ⟨c2406, h⟩ := qk_some h
        refine q_icmp_gt (tgt := 61) dX12_depthBy_35 (by decide) rfl (qRb_R c2405) (qRb_R c2406) (fun g => ?_) (fun g => ?_)
        · rw [if_pos (show x1 < (S 72 (Int.toNat (11 + x4))) from g)] at h
          cases h
          exact q_pick [1, 2, 3, 4, 5] rfl hk4205
        · rw [if_neg (show ¬ (x1 < (S 72 (Int.toNat (11 + x4)))) from g)] at h
          refine q_iload dX12_depthBy_38 rfl rfl ?_
          refine q_iload_n dX12_depthBy_40 rfl rfl ?_
          obtain ⟨c2407, h⟩ := qk_some h
          obtain ⟨c2408, h⟩ := qk_some h
          refine q_icmp_gt (tgt := 47) dX12_depthBy_41 (by decide) rfl (qRb_R c2407) (qRb_R c2408) (fun g => ?_) (fun g => ?_)
          · rw [if_pos (show x2 < (S 72 (Int.toNat (11 + x4))) from g)] at h
            refine q_iload dX12_depthBy_47 rfl rfl ?_
            refine q_istore_n (lv' := [(2, qi (S 72 (Int.toNat (11 + x4)))), (5, qi (S 72 (Int.toNat (11 + x4)))), (0, qr 70), (1, qi x1), (3, qi x3), (4, qi x4)]) dX12_depthBy_49 (by decide) rfl rfl ?_
            refine q_aload_n dX12_depthBy_50 rfl rfl ?_
            refine q_getA dX12_depthBy_51 fl_X12_13 (hL 70 (by decide)) sh_70 (by decide) rfl rfl ?_
            refine q_bipush dX12_depthBy_54 (by decide) rfl ?_
            refine q_iload dX12_depthBy_56 rfl rfl ?_
            refine q_iadd dX12_depthBy_58 rfl ?_
            obtain ⟨c2409, h⟩ := qk_some h
            refine q_iaload dX12_depthBy_59 (hL 72 (by decide)) sh_72 (qIx_0 c2409) (qIx_1 c2409) rfl ?_
            refine q_istore_n (lv' := [(3, qi (S 72 (Int.toNat (19 + x4)))), (2, qi (S 72 (Int.toNat (11 + x4)))), (5, qi (S 72 (Int.toNat (11 + x4)))), (0, qr 70), (1, qi x1), (4, qi x4)]) dX12_depthBy_60 (by decide) rfl rfl ?_
            cases h
            exact q_pick [3, 4, 1, 0, 5] rfl hk4205
          · rw [if_neg (show ¬ (x2 < (S 72 (Int.toNat (11 + x4)))) from g)] at h
            refine q_goto (pc' := 61) dX12_depthBy_44 (by decide) ?_
            cases h
            exact q_pick [1, 2, 3, 4, 5] rfl hk4205
set_option maxRecDepth 20000 in
theorem M_depthBy_ok {X : qX} (hL : ∀ c, c < 93 → c ∈ qLs X) (d : Nat) (a1 : Int) (S : qSto) (o : (Int × qSto)) (h : M_depthBy a1 S = some o) (Q : Option qV → qSto → Prop) (hQ : Q (some (qi o.1)) o.2) : qC X d yX12_depthBy cX12_depthBy 6 (some .int) [qr 70, qi a1] S Q := by
  refine q_entry (lv := [(0, qr 70), (1, qi a1)]) pn_X12 (Nat.le_of_ble_eq_true rfl) rfl ?_
  unfold M_depthBy at h
  refine q_iconst dX12_depthBy_0 rfl rfl ?_
  refine q_istore_n (lv' := [(2, qi (-1)), (0, qr 70), (1, qi a1)]) dX12_depthBy_1 (by decide) rfl rfl ?_
  refine q_bipush dX12_depthBy_2 (by decide) rfl ?_
  refine q_istore_n (lv' := [(3, qi 100), (2, qi (-1)), (0, qr 70), (1, qi a1)]) dX12_depthBy_4 (by decide) rfl rfl ?_
  refine q_iconst dX12_depthBy_5 rfl rfl ?_
  refine q_istore (lv' := [(4, qi 0), (3, qi 100), (2, qi (-1)), (0, qr 70), (1, qi a1)]) dX12_depthBy_6 (by decide) rfl rfl ?_
  obtain ⟨q2411, h2412, h⟩ := Option.bind_eq_some_iff.mp h
  refine q_pick [3, 4, 2, 1, 0] rfl (M_depthBy_L8_ok hL d qF a1 (-1) 100 0 _ _ h2412 ?_)
  refine q_iload_n dX12_depthBy_67 rfl rfl ?_
  cases h
  exact q_ireturn dX12_depthBy_68 rfl hQ
set_option maxRecDepth 20000 in
theorem M_levelBy_L7_ok {X : qX} (hL : ∀ c, c < 93 → c ∈ qLs X) (d : Nat) {Q : Option qV → qSto → Prop} : ∀ (n : Nat) (x1 : Int) (x2 : Int) (x3 : Int) (x4 : Int) (S : qSto) (o : (Int × Int × qSto)), M_levelBy_L7 n x1 x2 x3 x4 S = some o → (qW X d yX12_levelBy cX12_levelBy 8 (some .int) 93 [(0, qr 70), (1, qi x1), (2, qi o.1), (3, qi o.2.1)] [] o.2.2 Q) → qW X d yX12_levelBy cX12_levelBy 8 (some .int) 7 [(0, qr 70), (1, qi x1), (2, qi x2), (3, qi x3), (4, qi x4)] [] S Q := by
  intro n
  induction n with
  | zero =>
    intro x1 x2 x3 x4 S o h
    simp [M_levelBy_L7] at h
  | succ n ih =>
    intro x1 x2 x3 x4 S o h hE
    rw [M_levelBy_L7] at h
    refine q_iload dX12_levelBy_7 rfl rfl ?_
    refine q_aload_n dX12_levelBy_9 rfl rfl ?_
    refine q_getA dX12_levelBy_10 fl_X12_13 (hL 70 (by decide)) sh_70 (by decide) rfl rfl ?_
    refine q_bipush dX12_levelBy_13 (by decide) rfl ?_
    refine q_iaload dX12_levelBy_15 (hL 72 (by decide)) sh_72 (by decide) (by decide) rfl ?_
    obtain ⟨c2419, h⟩ := qk_some h
    obtain ⟨c2420, h⟩ := qk_some h
    refine q_icmp_ge (tgt := 93) dX12_levelBy_16 (by decide) rfl (qRb_R c2419) (qRb_R c2420) (fun g => ?_) (fun g => ?_)
    · rw [if_pos (show (S 72 8) ≤ x4 from g)] at h
      cases h
      exact q_pick [0, 1, 2, 3] rfl (hE)
    · rw [if_neg (show ¬ ((S 72 8) ≤ x4) from g)] at h
      refine q_aload_n dX12_levelBy_19 rfl rfl ?_
      refine q_getA dX12_levelBy_20 fl_X12_13 (hL 70 (by decide)) sh_70 (by decide) rfl rfl ?_
      refine q_bipush dX12_levelBy_23 (by decide) rfl ?_
      refine q_iload dX12_levelBy_25 rfl rfl ?_
      refine q_iadd dX12_levelBy_27 rfl ?_
      obtain ⟨c2421, h⟩ := qk_some h
      refine q_iaload dX12_levelBy_28 (hL 72 (by decide)) sh_72 (qIx_0 c2421) (qIx_1 c2421) rfl ?_
      refine q_istore (lv' := [(5, qi (S 72 (Int.toNat (43 + x4)))), (0, qr 70), (1, qi x1), (2, qi x2), (3, qi x3), (4, qi x4)]) dX12_levelBy_29 (by decide) rfl rfl ?_
      refine q_iload dX12_levelBy_31 rfl rfl ?_
      refine q_iload_n dX12_levelBy_33 rfl rfl ?_
      refine q_jn (G := fun (t2428 : Int) => qW X d yX12_levelBy cX12_levelBy 8 (some .int) 59 [(0, qr 70), (1, qi x1), (2, qi t2428), (3, qi x3), (4, qi x4), (5, qi (S 72 (Int.toNat (43 + x4))))] [] S Q) h (fun t2428 h => ?_) (fun t2428 h hk4206 => ?_)
      · try dsimp only at h
        refine q_iload dX12_levelBy_59 rfl rfl ?_
        refine q_iload_n dX12_levelBy_61 rfl rfl ?_
        refine q_jn (G := fun (t2435 : Int) => qW X d yX12_levelBy cX12_levelBy 8 (some .int) 87 [(0, qr 70), (1, qi x1), (2, qi t2428), (3, qi t2435), (4, qi x4)] [] S Q) h (fun t2435 h => ?_) (fun t2435 h hk4207 => ?_)
        · try dsimp only at h
          refine q_iinc (lv' := [(4, qi (x4 + 1)), (0, qr 70), (1, qi x1), (2, qi t2428), (3, qi t2435)]) dX12_levelBy_87 (by decide) rfl rfl rfl ?_
          refine q_goto (pc' := 7) dX12_levelBy_90 (by decide) ?_
          exact q_pick [1, 2, 3, 4, 0] rfl (ih x1 t2428 t2435 (x4 + 1) _ _ h hE)
        · skip
          obtain ⟨c2429, h⟩ := qk_some h
          obtain ⟨c2430, h⟩ := qk_some h
          refine q_icmp_le (tgt := 87) dX12_levelBy_62 (by decide) rfl (qRb_R c2429) (qRb_R c2430) (fun g => ?_) (fun g => ?_)
          · rw [if_pos (show (S 72 (Int.toNat (43 + x4))) ≤ x1 from g)] at h
            cases h
            exact q_pick [0, 1, 2, 3, 4] rfl hk4207
          · rw [if_neg (show ¬ ((S 72 (Int.toNat (43 + x4))) ≤ x1) from g)] at h
            refine q_iload_n dX12_levelBy_65 rfl rfl ?_
            refine q_iconst dX12_levelBy_66 rfl rfl ?_
            obtain ⟨c2431, h⟩ := qk_some h
            refine q_icmp_eq (tgt := 84) dX12_levelBy_67 (by decide) rfl (qRb_R c2431) ⟨by decide, by decide⟩ (fun g => ?_) (fun g => ?_)
            · rw [if_pos (show x3 = (-1) from g)] at h
              refine q_iload dX12_levelBy_84 rfl rfl ?_
              refine q_istore_n (lv' := [(3, qi x4), (0, qr 70), (1, qi x1), (2, qi t2428), (4, qi x4), (5, qi (S 72 (Int.toNat (43 + x4))))]) dX12_levelBy_86 (by decide) rfl rfl ?_
              cases h
              exact q_pick [1, 2, 3, 0, 4] rfl hk4207
            · rw [if_neg (show ¬ (x3 = (-1)) from g)] at h
              refine q_iload dX12_levelBy_70 rfl rfl ?_
              refine q_aload_n dX12_levelBy_72 rfl rfl ?_
              refine q_getA dX12_levelBy_73 fl_X12_13 (hL 70 (by decide)) sh_70 (by decide) rfl rfl ?_
              refine q_bipush dX12_levelBy_76 (by decide) rfl ?_
              refine q_iload_n dX12_levelBy_78 rfl rfl ?_
              refine q_iadd dX12_levelBy_79 rfl ?_
              obtain ⟨c2432, h⟩ := qk_some h
              refine q_iaload dX12_levelBy_80 (hL 72 (by decide)) sh_72 (qIx_0 c2432) (qIx_1 c2432) rfl ?_
              obtain ⟨c2433, h⟩ := qk_some h
              obtain ⟨c2434, h⟩ := qk_some h
              refine q_icmp_ge (tgt := 87) dX12_levelBy_81 (by decide) rfl (qRb_R c2433) (qRb_R c2434) (fun g => ?_) (fun g => ?_)
              · rw [if_pos (show (S 72 (Int.toNat (43 + x3))) ≤ (S 72 (Int.toNat (43 + x4))) from g)] at h
                cases h
                exact q_pick [0, 1, 2, 3, 4] rfl hk4207
              · rw [if_neg (show ¬ ((S 72 (Int.toNat (43 + x3))) ≤ (S 72 (Int.toNat (43 + x4)))) from g)] at h
                refine q_iload dX12_levelBy_84 rfl rfl ?_
                refine q_istore_n (lv' := [(3, qi x4), (0, qr 70), (1, qi x1), (2, qi t2428), (4, qi x4), (5, qi (S 72 (Int.toNat (43 + x4))))]) dX12_levelBy_86 (by decide) rfl rfl ?_
                cases h
                exact q_pick [1, 2, 3, 0, 4] rfl hk4207
      · skip
        obtain ⟨c2422, h⟩ := qk_some h
        obtain ⟨c2423, h⟩ := qk_some h
        refine q_icmp_gt (tgt := 59) dX12_levelBy_34 (by decide) rfl (qRb_R c2422) (qRb_R c2423) (fun g => ?_) (fun g => ?_)
        · rw [if_pos (show x1 < (S 72 (Int.toNat (43 + x4))) from g)] at h
          cases h
          exact q_pick [1, 2, 3, 4, 5, 0] rfl hk4206
        · rw [if_neg (show ¬ (x1 < (S 72 (Int.toNat (43 + x4)))) from g)] at h
          refine q_iload_n dX12_levelBy_37 rfl rfl ?_
          refine q_iconst dX12_levelBy_38 rfl rfl ?_
          obtain ⟨c2424, h⟩ := qk_some h
          refine q_icmp_eq (tgt := 56) dX12_levelBy_39 (by decide) rfl (qRb_R c2424) ⟨by decide, by decide⟩ (fun g => ?_) (fun g => ?_)
          · rw [if_pos (show x2 = (-1) from g)] at h
            refine q_iload dX12_levelBy_56 rfl rfl ?_
            refine q_istore_n (lv' := [(2, qi x4), (5, qi (S 72 (Int.toNat (43 + x4)))), (0, qr 70), (1, qi x1), (3, qi x3), (4, qi x4)]) dX12_levelBy_58 (by decide) rfl rfl ?_
            cases h
            exact q_pick [2, 3, 0, 4, 5, 1] rfl hk4206
          · rw [if_neg (show ¬ (x2 = (-1)) from g)] at h
            refine q_iload dX12_levelBy_42 rfl rfl ?_
            refine q_aload_n dX12_levelBy_44 rfl rfl ?_
            refine q_getA dX12_levelBy_45 fl_X12_13 (hL 70 (by decide)) sh_70 (by decide) rfl rfl ?_
            refine q_bipush dX12_levelBy_48 (by decide) rfl ?_
            refine q_iload_n dX12_levelBy_50 rfl rfl ?_
            refine q_iadd dX12_levelBy_51 rfl ?_
            obtain ⟨c2425, h⟩ := qk_some h
            refine q_iaload dX12_levelBy_52 (hL 72 (by decide)) sh_72 (qIx_0 c2425) (qIx_1 c2425) rfl ?_
            obtain ⟨c2426, h⟩ := qk_some h
            obtain ⟨c2427, h⟩ := qk_some h
            refine q_icmp_le (tgt := 59) dX12_levelBy_53 (by decide) rfl (qRb_R c2426) (qRb_R c2427) (fun g => ?_) (fun g => ?_)
            · rw [if_pos (show (S 72 (Int.toNat (43 + x4))) ≤ (S 72 (Int.toNat (43 + x2))) from g)] at h
              cases h
              exact q_pick [1, 2, 3, 4, 5, 0] rfl hk4206
            · rw [if_neg (show ¬ ((S 72 (Int.toNat (43 + x4))) ≤ (S 72 (Int.toNat (43 + x2)))) from g)] at h
              refine q_iload dX12_levelBy_56 rfl rfl ?_
              refine q_istore_n (lv' := [(2, qi x4), (5, qi (S 72 (Int.toNat (43 + x4)))), (0, qr 70), (1, qi x1), (3, qi x3), (4, qi x4)]) dX12_levelBy_58 (by decide) rfl rfl ?_
              cases h
              exact q_pick [2, 3, 0, 4, 5, 1] rfl hk4206
set_option maxRecDepth 20000 in
theorem M_levelBy_ok {X : qX} (hL : ∀ c, c < 93 → c ∈ qLs X) (d : Nat) (a1 : Int) (S : qSto) (o : (Int × qSto)) (h : M_levelBy a1 S = some o) (Q : Option qV → qSto → Prop) (hQ : Q (some (qi o.1)) o.2) : qC X d yX12_levelBy cX12_levelBy 8 (some .int) [qr 70, qi a1] S Q := by
  refine q_entry (lv := [(0, qr 70), (1, qi a1)]) pn_X12 (Nat.le_of_ble_eq_true rfl) rfl ?_
  unfold M_levelBy at h
  refine q_iconst dX12_levelBy_0 rfl rfl ?_
  refine q_istore_n (lv' := [(2, qi (-1)), (0, qr 70), (1, qi a1)]) dX12_levelBy_1 (by decide) rfl rfl ?_
  refine q_iconst dX12_levelBy_2 rfl rfl ?_
  refine q_istore_n (lv' := [(3, qi (-1)), (2, qi (-1)), (0, qr 70), (1, qi a1)]) dX12_levelBy_3 (by decide) rfl rfl ?_
  refine q_iconst dX12_levelBy_4 rfl rfl ?_
  refine q_istore (lv' := [(4, qi 0), (3, qi (-1)), (2, qi (-1)), (0, qr 70), (1, qi a1)]) dX12_levelBy_5 (by decide) rfl rfl ?_
  obtain ⟨q2436, h2437, h⟩ := Option.bind_eq_some_iff.mp h
  refine q_pick [3, 4, 2, 1, 0] rfl (M_levelBy_L7_ok hL d qF a1 (-1) (-1) 0 _ _ h2437 ?_)
  refine q_iload_n dX12_levelBy_93 rfl rfl ?_
  refine q_iconst dX12_levelBy_94 rfl rfl ?_
  obtain ⟨c2438, h⟩ := qk_some h
  refine q_icmp_ne (tgt := 117) dX12_levelBy_95 (by decide) rfl (qRb_R c2438) ⟨by decide, by decide⟩ (fun g => ?_) (fun g => ?_)
  · rw [if_neg (show ¬ (q2436.1 = (-1)) from g)] at h
    refine q_aload_n dX12_levelBy_117 rfl rfl ?_
    refine q_getA dX12_levelBy_118 fl_X12_13 (hL 70 (by decide)) sh_70 (by decide) rfl rfl ?_
    refine q_bipush dX12_levelBy_121 (by decide) rfl ?_
    refine q_iload_n dX12_levelBy_123 rfl rfl ?_
    refine q_iadd dX12_levelBy_124 rfl ?_
    obtain ⟨c2439, h⟩ := qk_some h
    refine q_iaload dX12_levelBy_125 (hL 72 (by decide)) sh_72 (qIx_0 c2439) (qIx_1 c2439) rfl ?_
    refine q_istore (lv' := [(4, qi (q2436.2.2 72 (Int.toNat (73 + q2436.1)))), (0, qr 70), (1, qi a1), (2, qi q2436.1), (3, qi q2436.2.1)]) dX12_levelBy_126 (by decide) rfl rfl ?_
    refine q_iload_n dX12_levelBy_128 rfl rfl ?_
    refine q_iconst dX12_levelBy_129 rfl rfl ?_
    obtain ⟨c2440, h⟩ := qk_some h
    refine q_icmp_ne (tgt := 136) dX12_levelBy_130 (by decide) rfl (qRb_R c2440) ⟨by decide, by decide⟩ (fun g => ?_) (fun g => ?_)
    · rw [if_neg (show ¬ (q2436.2.1 = (-1)) from g)] at h
      refine q_aload_n dX12_levelBy_136 rfl rfl ?_
      refine q_getA dX12_levelBy_137 fl_X12_13 (hL 70 (by decide)) sh_70 (by decide) rfl rfl ?_
      refine q_bipush dX12_levelBy_140 (by decide) rfl ?_
      refine q_iload_n dX12_levelBy_142 rfl rfl ?_
      refine q_iadd dX12_levelBy_143 rfl ?_
      obtain ⟨c2441, h⟩ := qk_some h
      refine q_iaload dX12_levelBy_144 (hL 72 (by decide)) sh_72 (qIx_0 c2441) (qIx_1 c2441) rfl ?_
      refine q_aload_n dX12_levelBy_145 rfl rfl ?_
      refine q_getA dX12_levelBy_146 fl_X12_13 (hL 70 (by decide)) sh_70 (by decide) rfl rfl ?_
      refine q_bipush dX12_levelBy_149 (by decide) rfl ?_
      refine q_iload_n dX12_levelBy_151 rfl rfl ?_
      refine q_iadd dX12_levelBy_152 rfl ?_
      obtain ⟨c2442, h⟩ := qk_some h
      refine q_iaload dX12_levelBy_153 (hL 72 (by decide)) sh_72 (qIx_0 c2442) (qIx_1 c2442) rfl ?_
      refine q_isub dX12_levelBy_154 rfl ?_
      refine q_istore (lv' := [(5, qi ((q2436.2.2 72 (Int.toNat (43 + q2436.2.1))) - (q2436.2.2 72 (Int.toNat (43 + q2436.1))))), (4, qi (q2436.2.2 72 (Int.toNat (73 + q2436.1)))), (0, qr 70), (1, qi a1), (2, qi q2436.1), (3, qi q2436.2.1)]) dX12_levelBy_155 (by decide) rfl rfl ?_
      refine q_aload_n dX12_levelBy_157 rfl rfl ?_
      refine q_getA dX12_levelBy_158 fl_X12_13 (hL 70 (by decide)) sh_70 (by decide) rfl rfl ?_
      refine q_bipush dX12_levelBy_161 (by decide) rfl ?_
      refine q_iload_n dX12_levelBy_163 rfl rfl ?_
      refine q_iadd dX12_levelBy_164 rfl ?_
      obtain ⟨c2443, h⟩ := qk_some h
      refine q_iaload dX12_levelBy_165 (hL 72 (by decide)) sh_72 (qIx_0 c2443) (qIx_1 c2443) rfl ?_
      refine q_iload dX12_levelBy_166 rfl rfl ?_
      refine q_isub dX12_levelBy_168 rfl ?_
      refine q_iload_n dX12_levelBy_169 rfl rfl ?_
      refine q_aload_n dX12_levelBy_170 rfl rfl ?_
      refine q_getA dX12_levelBy_171 fl_X12_13 (hL 70 (by decide)) sh_70 (by decide) rfl rfl ?_
      refine q_bipush dX12_levelBy_174 (by decide) rfl ?_
      refine q_iload_n dX12_levelBy_176 rfl rfl ?_
      refine q_iadd dX12_levelBy_177 rfl ?_
      obtain ⟨c2444, h⟩ := qk_some h
      refine q_iaload dX12_levelBy_178 (hL 72 (by decide)) sh_72 (qIx_0 c2444) (qIx_1 c2444) rfl ?_
      refine q_isub dX12_levelBy_179 rfl ?_
      refine q_imul dX12_levelBy_180 rfl ?_
      refine q_istore (lv' := [(6, qi (((q2436.2.2 72 (Int.toNat (73 + q2436.2.1))) - (q2436.2.2 72 (Int.toNat (73 + q2436.1)))) * (a1 - (q2436.2.2 72 (Int.toNat (43 + q2436.1)))))), (5, qi ((q2436.2.2 72 (Int.toNat (43 + q2436.2.1))) - (q2436.2.2 72 (Int.toNat (43 + q2436.1))))), (4, qi (q2436.2.2 72 (Int.toNat (73 + q2436.1)))), (0, qr 70), (1, qi a1), (2, qi q2436.1), (3, qi q2436.2.1)]) dX12_levelBy_181 (by decide) rfl rfl ?_
      refine q_iload dX12_levelBy_183 rfl rfl ?_
      refine q_iload dX12_levelBy_185 rfl rfl ?_
      obtain ⟨c2445, h⟩ := qk_some h
      obtain ⟨c2446, h⟩ := qk_some h
      obtain ⟨c2447, h⟩ := qk_some h
      refine q_idiv dX12_levelBy_187 (qRb_R c2445) (qRb_R c2446) (qNz_ne c2447) rfl ?_
      refine q_istore (lv' := [(7, qi (Int.tdiv (((q2436.2.2 72 (Int.toNat (73 + q2436.2.1))) - (q2436.2.2 72 (Int.toNat (73 + q2436.1)))) * (a1 - (q2436.2.2 72 (Int.toNat (43 + q2436.1))))) ((q2436.2.2 72 (Int.toNat (43 + q2436.2.1))) - (q2436.2.2 72 (Int.toNat (43 + q2436.1)))))), (6, qi (((q2436.2.2 72 (Int.toNat (73 + q2436.2.1))) - (q2436.2.2 72 (Int.toNat (73 + q2436.1)))) * (a1 - (q2436.2.2 72 (Int.toNat (43 + q2436.1)))))), (5, qi ((q2436.2.2 72 (Int.toNat (43 + q2436.2.1))) - (q2436.2.2 72 (Int.toNat (43 + q2436.1))))), (4, qi (q2436.2.2 72 (Int.toNat (73 + q2436.1)))), (0, qr 70), (1, qi a1), (2, qi q2436.1), (3, qi q2436.2.1)]) dX12_levelBy_188 (by decide) rfl rfl ?_
      refine q_iload dX12_levelBy_190 rfl rfl ?_
      refine q_iload dX12_levelBy_192 rfl rfl ?_
      refine q_iload dX12_levelBy_194 rfl rfl ?_
      refine q_imul dX12_levelBy_196 rfl ?_
      refine q_iload dX12_levelBy_197 rfl rfl ?_
      obtain ⟨c2448, h⟩ := qk_some h
      obtain ⟨c2449, h⟩ := qk_some h
      refine q_icmp_le (tgt := 209) dX12_levelBy_199 (by decide) rfl (qRb_R c2448) (qRb_R c2449) (fun g => ?_) (fun g => ?_)
      · rw [if_pos (show ((Int.tdiv (((q2436.2.2 72 (Int.toNat (73 + q2436.2.1))) - (q2436.2.2 72 (Int.toNat (73 + q2436.1)))) * (a1 - (q2436.2.2 72 (Int.toNat (43 + q2436.1))))) ((q2436.2.2 72 (Int.toNat (43 + q2436.2.1))) - (q2436.2.2 72 (Int.toNat (43 + q2436.1))))) * ((q2436.2.2 72 (Int.toNat (43 + q2436.2.1))) - (q2436.2.2 72 (Int.toNat (43 + q2436.1))))) ≤ (((q2436.2.2 72 (Int.toNat (73 + q2436.2.1))) - (q2436.2.2 72 (Int.toNat (73 + q2436.1)))) * (a1 - (q2436.2.2 72 (Int.toNat (43 + q2436.1))))) from g)] at h
        refine q_iload dX12_levelBy_209 rfl rfl ?_
        refine q_iadd dX12_levelBy_211 rfl ?_
        cases h
        exact q_ireturn dX12_levelBy_212 rfl hQ
      · rw [if_neg (show ¬ (((Int.tdiv (((q2436.2.2 72 (Int.toNat (73 + q2436.2.1))) - (q2436.2.2 72 (Int.toNat (73 + q2436.1)))) * (a1 - (q2436.2.2 72 (Int.toNat (43 + q2436.1))))) ((q2436.2.2 72 (Int.toNat (43 + q2436.2.1))) - (q2436.2.2 72 (Int.toNat (43 + q2436.1))))) * ((q2436.2.2 72 (Int.toNat (43 + q2436.2.1))) - (q2436.2.2 72 (Int.toNat (43 + q2436.1))))) ≤ (((q2436.2.2 72 (Int.toNat (73 + q2436.2.1))) - (q2436.2.2 72 (Int.toNat (73 + q2436.1)))) * (a1 - (q2436.2.2 72 (Int.toNat (43 + q2436.1)))))) from g)] at h
        refine q_iload dX12_levelBy_202 rfl rfl ?_
        refine q_iconst dX12_levelBy_204 rfl rfl ?_
        refine q_isub dX12_levelBy_205 rfl ?_
        refine q_goto (pc' := 211) dX12_levelBy_206 (by decide) ?_
        refine q_iadd dX12_levelBy_211 rfl ?_
        cases h
        exact q_ireturn dX12_levelBy_212 rfl hQ
    · rw [if_pos (show q2436.2.1 = (-1) from g)] at h
      refine q_iload dX12_levelBy_133 rfl rfl ?_
      cases h
      exact q_ireturn dX12_levelBy_135 rfl hQ
  · rw [if_pos (show q2436.1 = (-1) from g)] at h
    refine q_iload_n dX12_levelBy_98 rfl rfl ?_
    refine q_iconst dX12_levelBy_99 rfl rfl ?_
    obtain ⟨c2450, h⟩ := qk_some h
    refine q_icmp_ne (tgt := 107) dX12_levelBy_100 (by decide) rfl (qRb_R c2450) ⟨by decide, by decide⟩ (fun g => ?_) (fun g => ?_)
    · rw [if_neg (show ¬ (q2436.2.1 = (-1)) from g)] at h
      refine q_aload_n dX12_levelBy_107 rfl rfl ?_
      refine q_getA dX12_levelBy_108 fl_X12_13 (hL 70 (by decide)) sh_70 (by decide) rfl rfl ?_
      refine q_bipush dX12_levelBy_111 (by decide) rfl ?_
      refine q_iload_n dX12_levelBy_113 rfl rfl ?_
      refine q_iadd dX12_levelBy_114 rfl ?_
      obtain ⟨c2451, h⟩ := qk_some h
      refine q_iaload dX12_levelBy_115 (hL 72 (by decide)) sh_72 (qIx_0 c2451) (qIx_1 c2451) rfl ?_
      cases h
      exact q_ireturn dX12_levelBy_116 rfl hQ
    · rw [if_pos (show q2436.2.1 = (-1) from g)] at h
      refine q_iconst dX12_levelBy_103 rfl rfl ?_
      refine q_goto (pc' := 116) dX12_levelBy_104 (by decide) ?_
      cases h
      exact q_ireturn dX12_levelBy_116 rfl hQ
set_option maxRecDepth 20000 in
theorem M_stands_L2_ok {X : qX} (hL : ∀ c, c < 93 → c ∈ qLs X) (d : Nat) {Q : Option qV → qSto → Prop} : ∀ (n : Nat) (x1 : Int) (S : qSto) (o : qSto), M_stands_L2 n x1 S = some o → (qW X (d + 1) yX12_stands cX12_stands 2 none 27 [(0, qr 70)] [] o Q) → qW X (d + 1) yX12_stands cX12_stands 2 none 2 [(0, qr 70), (1, qi x1)] [] S Q := by
  intro n
  induction n with
  | zero =>
    intro x1 S o h
    simp [M_stands_L2] at h
  | succ n ih =>
    intro x1 S o h hE
    rw [M_stands_L2] at h
    refine q_iload_n dX12_stands_2 rfl rfl ?_
    refine q_sipush dX12_stands_3 (by decide) rfl ?_
    obtain ⟨c2391, h⟩ := qk_some h
    refine q_icmp_ge (tgt := 27) dX12_stands_6 (by decide) rfl (qRb_R c2391) ⟨by decide, by decide⟩ (fun g => ?_) (fun g => ?_)
    · rw [if_pos (show 250 ≤ x1 from g)] at h
      cases h
      exact q_pick [0] rfl (hE)
    · rw [if_neg (show ¬ (250 ≤ x1) from g)] at h
      refine q_aload_n dX12_stands_9 rfl rfl ?_
      refine q_getA dX12_stands_10 fl_X12_13 (hL 70 (by decide)) sh_70 (by decide) rfl rfl ?_
      refine q_iload_n dX12_stands_13 rfl rfl ?_
      refine q_aload_n dX12_stands_14 rfl rfl ?_
      refine q_getA dX12_stands_15 fl_X12_7 (hL 70 (by decide)) sh_70 (by decide) rfl rfl ?_
      refine q_iload_n dX12_stands_18 rfl rfl ?_
      obtain ⟨c2392, h⟩ := qk_some h
      refine q_iaload dX12_stands_19 (hL 71 (by decide)) sh_71 (qIx_0 c2392) (qIx_1 c2392) rfl ?_
      obtain ⟨c2393, h⟩ := qk_some h
      refine q_iastore dX12_stands_20 (hL 72 (by decide)) sh_72 (qIx_0 c2393) (qIx_1 c2393) rfl ?_
      refine q_iinc (lv' := [(1, qi (x1 + 1)), (0, qr 70)]) dX12_stands_21 (by decide) rfl rfl rfl ?_
      refine q_goto (pc' := 2) dX12_stands_24 (by decide) ?_
      exact q_pick [1, 0] rfl (ih (x1 + 1) _ _ h hE)
set_option maxRecDepth 20000 in
theorem M_stands_L29_ok {X : qX} (hL : ∀ c, c < 93 → c ∈ qLs X) (d : Nat) {Q : Option qV → qSto → Prop} : ∀ (n : Nat) (x1 : Int) (S : qSto) (o : qSto), M_stands_L29 n x1 S = some o → (qW X (d + 1) yX12_stands cX12_stands 2 none 53 [(0, qr 70)] [] o Q) → qW X (d + 1) yX12_stands cX12_stands 2 none 29 [(0, qr 70), (1, qi x1)] [] S Q := by
  intro n
  induction n with
  | zero =>
    intro x1 S o h
    simp [M_stands_L29] at h
  | succ n ih =>
    intro x1 S o h hE
    rw [M_stands_L29] at h
    refine q_iload_n dX12_stands_29 rfl rfl ?_
    refine q_bipush dX12_stands_30 (by decide) rfl ?_
    obtain ⟨c2396, h⟩ := qk_some h
    refine q_icmp_ge (tgt := 53) dX12_stands_32 (by decide) rfl (qRb_R c2396) ⟨by decide, by decide⟩ (fun g => ?_) (fun g => ?_)
    · rw [if_pos (show 14 ≤ x1 from g)] at h
      cases h
      exact q_pick [0] rfl (hE)
    · rw [if_neg (show ¬ (14 ≤ x1) from g)] at h
      refine q_aload_n dX12_stands_35 rfl rfl ?_
      refine q_getA dX12_stands_36 fl_X12_20 (hL 70 (by decide)) sh_70 (by decide) rfl rfl ?_
      refine q_iload_n dX12_stands_39 rfl rfl ?_
      refine q_aload_n dX12_stands_40 rfl rfl ?_
      refine q_getA dX12_stands_41 fl_X12_16 (hL 70 (by decide)) sh_70 (by decide) rfl rfl ?_
      refine q_iload_n dX12_stands_44 rfl rfl ?_
      obtain ⟨c2397, h⟩ := qk_some h
      refine q_laload dX12_stands_45 (hL 73 (by decide)) sh_73 (qIx_0 c2397) (qIx_1 c2397) rfl ?_
      obtain ⟨c2398, h⟩ := qk_some h
      refine q_lastore dX12_stands_46 (hL 74 (by decide)) sh_74 (qIx_0 c2398) (qIx_1 c2398) rfl ?_
      refine q_iinc (lv' := [(1, qi (x1 + 1)), (0, qr 70)]) dX12_stands_47 (by decide) rfl rfl rfl ?_
      refine q_goto (pc' := 29) dX12_stands_50 (by decide) ?_
      exact q_pick [1, 0] rfl (ih (x1 + 1) _ _ h hE)
set_option maxRecDepth 20000 in
theorem M_stands_L55_ok {X : qX} (hL : ∀ c, c < 93 → c ∈ qLs X) (d : Nat) {Q : Option qV → qSto → Prop} : ∀ (n : Nat) (x1 : Int) (S : qSto) (o : qSto), M_stands_L55 n x1 S = some o → (qW X (d + 1) yX12_stands cX12_stands 2 none 79 [(0, qr 70)] [] o Q) → qW X (d + 1) yX12_stands cX12_stands 2 none 55 [(0, qr 70), (1, qi x1)] [] S Q := by
  intro n
  induction n with
  | zero =>
    intro x1 S o h
    simp [M_stands_L55] at h
  | succ n ih =>
    intro x1 S o h hE
    rw [M_stands_L55] at h
    refine q_iload_n dX12_stands_55 rfl rfl ?_
    refine q_sipush dX12_stands_56 (by decide) rfl ?_
    obtain ⟨c2401, h⟩ := qk_some h
    refine q_icmp_gt (tgt := 79) dX12_stands_59 (by decide) rfl (qRb_R c2401) ⟨by decide, by decide⟩ (fun g => ?_) (fun g => ?_)
    · rw [if_pos (show 999 < x1 from g)] at h
      cases h
      exact q_pick [0] rfl (hE)
    · rw [if_neg (show ¬ (999 < x1) from g)] at h
      refine q_aload_n dX12_stands_62 rfl rfl ?_
      refine q_getA dX12_stands_63 fl_X12_30 (hL 70 (by decide)) sh_70 (by decide) rfl rfl ?_
      refine q_iload_n dX12_stands_66 rfl rfl ?_
      refine q_aload_n dX12_stands_67 rfl rfl ?_
      refine q_iload_n dX12_stands_68 rfl rfl ?_
      obtain ⟨q2413, h2414, h⟩ := Option.bind_eq_some_iff.mp h
      refine q_callVi (as := [qi x1]) (c := 70) dX12_stands_69 ml_X12_246 rfl rfl (hL 70 (by decide)) sh_70 rfl rfl (Nat.le_of_ble_eq_true rfl) (M_depthBy_ok hL d x1 _ _ h2414) rfl ?_
      obtain ⟨c2415, h⟩ := qk_some h
      refine q_iastore dX12_stands_72 (hL 76 (by decide)) sh_76 (qIx_0 c2415) (qIx_1 c2415) rfl ?_
      refine q_iinc (lv' := [(1, qi (x1 + 1)), (0, qr 70)]) dX12_stands_73 (by decide) rfl rfl rfl ?_
      refine q_goto (pc' := 55) dX12_stands_76 (by decide) ?_
      exact q_pick [1, 0] rfl (ih (x1 + 1) _ _ h hE)
set_option maxRecDepth 20000 in
theorem M_stands_L81_ok {X : qX} (hL : ∀ c, c < 93 → c ∈ qLs X) (d : Nat) {Q : Option qV → qSto → Prop} : ∀ (n : Nat) (x1 : Int) (S : qSto) (o : qSto), M_stands_L81 n x1 S = some o → (qW X (d + 1) yX12_stands cX12_stands 2 none 105 [(0, qr 70)] [] o Q) → qW X (d + 1) yX12_stands cX12_stands 2 none 81 [(0, qr 70), (1, qi x1)] [] S Q := by
  intro n
  induction n with
  | zero =>
    intro x1 S o h
    simp [M_stands_L81] at h
  | succ n ih =>
    intro x1 S o h hE
    rw [M_stands_L81] at h
    refine q_iload_n dX12_stands_81 rfl rfl ?_
    refine q_sipush dX12_stands_82 (by decide) rfl ?_
    obtain ⟨c2418, h⟩ := qk_some h
    refine q_icmp_ge (tgt := 105) dX12_stands_85 (by decide) rfl (qRb_R c2418) ⟨by decide, by decide⟩ (fun g => ?_) (fun g => ?_)
    · rw [if_pos (show 336 ≤ x1 from g)] at h
      cases h
      exact q_pick [0] rfl (hE)
    · rw [if_neg (show ¬ (336 ≤ x1) from g)] at h
      refine q_aload_n dX12_stands_88 rfl rfl ?_
      refine q_getA dX12_stands_89 fl_X12_33 (hL 70 (by decide)) sh_70 (by decide) rfl rfl ?_
      refine q_iload_n dX12_stands_92 rfl rfl ?_
      refine q_aload_n dX12_stands_93 rfl rfl ?_
      refine q_iload_n dX12_stands_94 rfl rfl ?_
      obtain ⟨q2452, h2453, h⟩ := Option.bind_eq_some_iff.mp h
      refine q_callVi (as := [qi x1]) (c := 70) dX12_stands_95 ml_X12_249 rfl rfl (hL 70 (by decide)) sh_70 rfl rfl (Nat.le_of_ble_eq_true rfl) (M_levelBy_ok hL d x1 _ _ h2453) rfl ?_
      obtain ⟨c2454, h⟩ := qk_some h
      refine q_iastore dX12_stands_98 (hL 77 (by decide)) sh_77 (qIx_0 c2454) (qIx_1 c2454) rfl ?_
      refine q_iinc (lv' := [(1, qi (x1 + 1)), (0, qr 70)]) dX12_stands_99 (by decide) rfl rfl rfl ?_
      refine q_goto (pc' := 81) dX12_stands_102 (by decide) ?_
      exact q_pick [1, 0] rfl (ih (x1 + 1) _ _ h hE)
set_option maxRecDepth 20000 in
theorem M_stands_L107_ok {X : qX} (hL : ∀ c, c < 93 → c ∈ qLs X) (d : Nat) {Q : Option qV → qSto → Prop} : ∀ (n : Nat) (x1 : Int) (S : qSto) (o : qSto), M_stands_L107 n x1 S = some o → (qW X (d + 1) yX12_stands cX12_stands 2 none 126 [(0, qr 70)] [] o Q) → qW X (d + 1) yX12_stands cX12_stands 2 none 107 [(0, qr 70), (1, qi x1)] [] S Q := by
  intro n
  induction n with
  | zero =>
    intro x1 S o h
    simp [M_stands_L107] at h
  | succ n ih =>
    intro x1 S o h hE
    rw [M_stands_L107] at h
    refine q_iload_n dX12_stands_107 rfl rfl ?_
    refine q_bipush dX12_stands_108 (by decide) rfl ?_
    obtain ⟨c2457, h⟩ := qk_some h
    refine q_icmp_ge (tgt := 126) dX12_stands_110 (by decide) rfl (qRb_R c2457) ⟨by decide, by decide⟩ (fun g => ?_) (fun g => ?_)
    · rw [if_pos (show 14 ≤ x1 from g)] at h
      cases h
      exact q_pick [0] rfl (hE)
    · rw [if_neg (show ¬ (14 ≤ x1) from g)] at h
      refine q_aload_n dX12_stands_113 rfl rfl ?_
      refine q_getA dX12_stands_114 fl_X12_42 (hL 70 (by decide)) sh_70 (by decide) rfl rfl ?_
      refine q_iload_n dX12_stands_117 rfl rfl ?_
      refine q_iconst dX12_stands_118 rfl rfl ?_
      obtain ⟨c2458, h⟩ := qk_some h
      refine q_iastore dX12_stands_119 (hL 80 (by decide)) sh_80 (qIx_0 c2458) (qIx_1 c2458) rfl ?_
      refine q_iinc (lv' := [(1, qi (x1 + 1)), (0, qr 70)]) dX12_stands_120 (by decide) rfl rfl rfl ?_
      refine q_goto (pc' := 107) dX12_stands_123 (by decide) ?_
      exact q_pick [1, 0] rfl (ih (x1 + 1) _ _ h hE)
set_option maxRecDepth 20000 in
theorem M_stands_L133_ok {X : qX} (hL : ∀ c, c < 93 → c ∈ qLs X) (d : Nat) {Q : Option qV → qSto → Prop} : ∀ (n : Nat) (x1 : Int) (S : qSto) (o : qSto), M_stands_L133 n x1 S = some o → (qW X (d + 1) yX12_stands cX12_stands 2 none 151 [] [] o Q) → qW X (d + 1) yX12_stands cX12_stands 2 none 133 [(0, qr 70), (1, qi x1)] [] S Q := by
  intro n
  induction n with
  | zero =>
    intro x1 S o h
    simp [M_stands_L133] at h
  | succ n ih =>
    intro x1 S o h hE
    rw [M_stands_L133] at h
    refine q_iload_n dX12_stands_133 rfl rfl ?_
    refine q_iconst dX12_stands_134 rfl rfl ?_
    obtain ⟨c2461, h⟩ := qk_some h
    refine q_icmp_ge (tgt := 151) dX12_stands_135 (by decide) rfl (qRb_R c2461) ⟨by decide, by decide⟩ (fun g => ?_) (fun g => ?_)
    · rw [if_pos (show 4 ≤ x1 from g)] at h
      cases h
      exact q_pick [] rfl (hE)
    · rw [if_neg (show ¬ (4 ≤ x1) from g)] at h
      refine q_aload_n dX12_stands_138 rfl rfl ?_
      refine q_getA dX12_stands_139 fl_X12_60 (hL 70 (by decide)) sh_70 (by decide) rfl rfl ?_
      refine q_iload_n dX12_stands_142 rfl rfl ?_
      refine q_iconst dX12_stands_143 rfl rfl ?_
      obtain ⟨c2462, h⟩ := qk_some h
      refine q_zastore dX12_stands_144 (hL 86 (by decide)) sh_86 (qIx_0 c2462) (qIx_1 c2462) (by decide) rfl ?_
      refine q_iinc (lv' := [(1, qi (x1 + 1)), (0, qr 70)]) dX12_stands_145 (by decide) rfl rfl rfl ?_
      refine q_goto (pc' := 133) dX12_stands_148 (by decide) ?_
      exact q_pick [1, 0] rfl (ih (x1 + 1) _ _ h hE)
set_option maxRecDepth 20000 in
theorem M_stands_ok {X : qX} (hL : ∀ c, c < 93 → c ∈ qLs X) (d : Nat) (S : qSto) (o : qSto) (h : M_stands S = some o) (Q : Option qV → qSto → Prop) (hQ : Q none o) : qC X (d + 1) yX12_stands cX12_stands 2 none [qr 70] S Q := by
  refine q_entry (lv := [(0, qr 70)]) pn_X12 (Nat.le_of_ble_eq_true rfl) rfl ?_
  unfold M_stands at h
  refine q_iconst dX12_stands_0 rfl rfl ?_
  refine q_istore_n (lv' := [(1, qi 0), (0, qr 70)]) dX12_stands_1 (by decide) rfl rfl ?_
  obtain ⟨q2394, h2395, h⟩ := Option.bind_eq_some_iff.mp h
  refine q_pick [1, 0] rfl (M_stands_L2_ok hL d qF 0 _ _ h2395 ?_)
  refine q_iconst dX12_stands_27 rfl rfl ?_
  refine q_istore_n (lv' := [(1, qi 0), (0, qr 70)]) dX12_stands_28 (by decide) rfl rfl ?_
  obtain ⟨q2399, h2400, h⟩ := Option.bind_eq_some_iff.mp h
  refine q_pick [1, 0] rfl (M_stands_L29_ok hL d qF 0 _ _ h2400 ?_)
  refine q_iconst dX12_stands_53 rfl rfl ?_
  refine q_istore_n (lv' := [(1, qi 0), (0, qr 70)]) dX12_stands_54 (by decide) rfl rfl ?_
  obtain ⟨q2416, h2417, h⟩ := Option.bind_eq_some_iff.mp h
  refine q_pick [1, 0] rfl (M_stands_L55_ok hL d qF 0 _ _ h2417 ?_)
  refine q_iconst dX12_stands_79 rfl rfl ?_
  refine q_istore_n (lv' := [(1, qi 0), (0, qr 70)]) dX12_stands_80 (by decide) rfl rfl ?_
  obtain ⟨q2455, h2456, h⟩ := Option.bind_eq_some_iff.mp h
  refine q_pick [1, 0] rfl (M_stands_L81_ok hL d qF 0 _ _ h2456 ?_)
  refine q_iconst dX12_stands_105 rfl rfl ?_
  refine q_istore_n (lv' := [(1, qi 0), (0, qr 70)]) dX12_stands_106 (by decide) rfl rfl ?_
  obtain ⟨q2459, h2460, h⟩ := Option.bind_eq_some_iff.mp h
  refine q_pick [1, 0] rfl (M_stands_L107_ok hL d qF 0 _ _ h2460 ?_)
  refine q_aload_n dX12_stands_126 rfl rfl ?_
  refine q_iconst dX12_stands_127 rfl rfl ?_
  refine q_putI dX12_stands_128 fl_X12_252 (hL 70 (by decide)) sh_70 (by decide) pf_12_31 pt_12_31 rfl rfl ?_
  refine q_iconst dX12_stands_131 rfl rfl ?_
  refine q_istore_n (lv' := [(1, qi 0), (0, qr 70)]) dX12_stands_132 (by decide) rfl rfl ?_
  obtain ⟨q2463, h2464, h⟩ := Option.bind_eq_some_iff.mp h
  refine q_pick [1, 0] rfl (M_stands_L133_ok hL d qF 0 _ _ h2464 ?_)
  cases h
  exact q_return dX12_stands_151 rfl hQ
set_option maxRecDepth 20000 in
theorem M_text_L48_ok {X : qX} (hL : ∀ c, c < 93 → c ∈ qLs X) (d : Nat) {Q : Option qV → qSto → Prop} : ∀ (n : Nat) (S : qSto) (o : qSto), M_text_L48 n S = some o → (qW X (d + 7) yX12_text cX12_text 2 (some .int) 70 [(0, qr 70)] [] o Q) → qW X (d + 7) yX12_text cX12_text 2 (some .int) 48 [(0, qr 70)] [] S Q := by
  intro n
  induction n with
  | zero =>
    intro S o h
    simp [M_text_L48] at h
  | succ n ih =>
    intro S o h hE
    rw [M_text_L48] at h
    refine q_aload_n dX12_text_48 rfl rfl ?_
    refine q_getI dX12_text_49 fl_X12_147 (hL 70 (by decide)) sh_70 (by decide) rfl rfl ?_
    obtain ⟨c2173, h⟩ := qk_some h
    refine q_if_ne (tgt := 70) dX12_text_52 (by decide) rfl (qRb_R c2173)  (fun g => ?_) (fun g => ?_)
    · rw [if_neg (show ¬ ((S 70 11) = 0) from g)] at h
      cases h
      exact q_pick [0] rfl (hE)
    · rw [if_pos (show (S 70 11) = 0 from g)] at h
      refine q_aload_n dX12_text_55 rfl rfl ?_
      refine q_getI dX12_text_56 fl_X12_120 (hL 70 (by decide)) sh_70 (by decide) rfl rfl ?_
      refine q_iconst dX12_text_59 rfl rfl ?_
      obtain ⟨c2174, h⟩ := qk_some h
      refine q_icmp_eq (tgt := 70) dX12_text_60 (by decide) rfl (qRb_R c2174) ⟨by decide, by decide⟩ (fun g => ?_) (fun g => ?_)
      · rw [if_pos (show (S 70 9) = 4 from g)] at h
        cases h
        exact q_pick [0] rfl (hE)
      · rw [if_neg (show ¬ ((S 70 9) = 4) from g)] at h
        refine q_aload_n dX12_text_63 rfl rfl ?_
        obtain ⟨q2386, h2387, h⟩ := Option.bind_eq_some_iff.mp h
        refine q_callVv (as := []) (c := 70) dX12_text_64 ml_X12_240 rfl rfl (hL 70 (by decide)) sh_70 rfl rfl (Nat.le_of_ble_eq_true rfl) (M_line_ok hL d _ _ h2387) rfl ?_
        refine q_goto (pc' := 48) dX12_text_67 (by decide) ?_
        exact q_pick [0] rfl (ih _ _ h hE)
set_option maxRecDepth 20000 in
theorem M_text_ok {X : qX} (hL : ∀ c, c < 93 → c ∈ qLs X) (d : Nat) (a1 : Int) (S : qSto) (o : (Int × qSto)) (h : M_text a1 S = some o) (Q : Option qV → qSto → Prop) (hQ : Q (some (qi o.1)) o.2) : qC X (d + 7) yX12_text cX12_text 2 (some .int) [qr 70, qi a1] S Q := by
  refine q_entry (lv := [(0, qr 70), (1, qi a1)]) pn_X12 (Nat.le_of_ble_eq_true rfl) rfl ?_
  unfold M_text at h
  refine q_iload_n dX12_text_0 rfl rfl ?_
  obtain ⟨c2085, h⟩ := qk_some h
  refine q_if_lt (tgt := 12) dX12_text_1 (by decide) rfl (qRb_R c2085)  (fun g => ?_) (fun g => ?_)
  · rw [if_pos (show a1 < 0 from g)] at h
    refine q_bipush dX12_text_12 (by decide) rfl ?_
    cases h
    exact q_ireturn dX12_text_14 rfl hQ
  · rw [if_neg (show ¬ (a1 < 0) from g)] at h
    refine q_iload_n dX12_text_4 rfl rfl ?_
    refine q_aload_n dX12_text_5 rfl rfl ?_
    refine q_getI dX12_text_6 fl_X12_88 (hL 70 (by decide)) sh_70 (by decide) rfl rfl ?_
    obtain ⟨c2086, h⟩ := qk_some h
    obtain ⟨c2087, h⟩ := qk_some h
    refine q_icmp_le (tgt := 15) dX12_text_9 (by decide) rfl (qRb_R c2086) (qRb_R c2087) (fun g => ?_) (fun g => ?_)
    · rw [if_pos (show a1 ≤ (S 70 5) from g)] at h
      refine q_aload_n dX12_text_15 rfl rfl ?_
      refine q_iload_n dX12_text_16 rfl rfl ?_
      refine q_putI dX12_text_17 fl_X12_107 (hL 70 (by decide)) sh_70 (by decide) pf_12_6 pt_12_6 rfl rfl ?_
      refine q_aload_n dX12_text_20 rfl rfl ?_
      refine q_iconst dX12_text_21 rfl rfl ?_
      refine q_putI dX12_text_22 fl_X12_88 (hL 70 (by decide)) sh_70 (by decide) pf_12_5 pt_12_5 rfl rfl ?_
      refine q_aload_n dX12_text_25 rfl rfl ?_
      refine q_iconst dX12_text_26 rfl rfl ?_
      refine q_putI dX12_text_27 fl_X12_110 (hL 70 (by decide)) sh_70 (by decide) pf_12_7 pt_12_7 rfl rfl ?_
      refine q_aload_n dX12_text_30 rfl rfl ?_
      refine q_iconst dX12_text_31 rfl rfl ?_
      refine q_putI dX12_text_32 fl_X12_147 (hL 70 (by decide)) sh_70 (by decide) pf_12_11 pt_12_11 rfl rfl ?_
      refine q_aload_n dX12_text_35 rfl rfl ?_
      refine q_iconst dX12_text_36 rfl rfl ?_
      refine q_putI dX12_text_37 fl_X12_150 (hL 70 (by decide)) sh_70 (by decide) pf_12_12 pt_12_12 rfl rfl ?_
      refine q_aload_n dX12_text_40 rfl rfl ?_
      obtain ⟨q2096, h2097, h⟩ := Option.bind_eq_some_iff.mp h
      refine q_callVv (as := []) (c := 70) dX12_text_41 ml_X12_82 rfl rfl (hL 70 (by decide)) sh_70 rfl rfl (Nat.le_of_ble_eq_true rfl) (M_blank_ok hL (d + 6) _ _ h2097) rfl ?_
      refine q_aload_n dX12_text_44 rfl rfl ?_
      obtain ⟨q2171, h2172, h⟩ := Option.bind_eq_some_iff.mp h
      refine q_callVv (as := []) (c := 70) dX12_text_45 ml_X12_160 rfl rfl (hL 70 (by decide)) sh_70 rfl rfl (Nat.le_of_ble_eq_true rfl) (M_goOn_ok hL (d + 3) _ _ h2172) rfl ?_
      obtain ⟨q2388, h2389, h⟩ := Option.bind_eq_some_iff.mp h
      refine q_pick [0] rfl (M_text_L48_ok hL d qF _ _ h2389 ?_)
      refine q_aload_n dX12_text_70 rfl rfl ?_
      refine q_aload_n dX12_text_71 rfl rfl ?_
      refine q_getI dX12_text_72 fl_X12_147 (hL 70 (by decide)) sh_70 (by decide) rfl rfl ?_
      refine q_putI dX12_text_75 fl_X12_243 (hL 70 (by decide)) sh_70 (by decide) pf_12_15 pt_12_15 rfl rfl ?_
      refine q_aload_n dX12_text_78 rfl rfl ?_
      refine q_aload_n dX12_text_79 rfl rfl ?_
      refine q_getI dX12_text_80 fl_X12_150 (hL 70 (by decide)) sh_70 (by decide) rfl rfl ?_
      refine q_putI dX12_text_83 fl_X12_26 (hL 70 (by decide)) sh_70 (by decide) pf_12_16 pt_12_16 rfl rfl ?_
      refine q_aload_n dX12_text_86 rfl rfl ?_
      refine q_getI dX12_text_87 fl_X12_147 (hL 70 (by decide)) sh_70 (by decide) rfl rfl ?_
      obtain ⟨c2390, h⟩ := qk_some h
      refine q_if_le (tgt := 95) dX12_text_90 (by decide) rfl (qRb_R c2390)  (fun g => ?_) (fun g => ?_)
      · rw [if_pos (show ((qup (qup q2388 70 15 (q2388 70 11)) 70 16 ((qup q2388 70 15 (q2388 70 11)) 70 12)) 70 11) ≤ 0 from g)] at h
        refine q_aload_n dX12_text_95 rfl rfl ?_
        obtain ⟨q2465, h2466, h⟩ := Option.bind_eq_some_iff.mp h
        refine q_callVv (as := []) (c := 70) dX12_text_96 ml_X12_85 rfl rfl (hL 70 (by decide)) sh_70 rfl rfl (Nat.le_of_ble_eq_true rfl) (M_stands_ok hL (d + 5) _ _ h2466) rfl ?_
        refine q_aload_n dX12_text_99 rfl rfl ?_
        refine q_getA dX12_text_100 fl_X12_13 (hL 70 (by decide)) sh_70 (by decide) rfl rfl ?_
        refine q_bipush dX12_text_103 (by decide) rfl ?_
        refine q_iaload dX12_text_105 (hL 72 (by decide)) sh_72 (by decide) (by decide) rfl ?_
        cases h
        exact q_ireturn dX12_text_106 rfl hQ
      · rw [if_neg (show ¬ (((qup (qup q2388 70 15 (q2388 70 11)) 70 16 ((qup q2388 70 15 (q2388 70 11)) 70 12)) 70 11) ≤ 0) from g)] at h
        refine q_iconst dX12_text_93 rfl rfl ?_
        cases h
        exact q_ireturn dX12_text_94 rfl hQ
    · rw [if_neg (show ¬ (a1 ≤ (S 70 5)) from g)] at h
      refine q_bipush dX12_text_12 (by decide) rfl ?_
      cases h
      exact q_ireturn dX12_text_14 rfl hQ
set_option maxRecDepth 20000 in
theorem M_fault_ok {X : qX} (hL : ∀ c, c < 93 → c ∈ qLs X) (d : Nat) (a1 : Int) (S : qSto) (o : (Int × qSto)) (h : M_fault a1 S = some o) (Q : Option qV → qSto → Prop) (hQ : Q (some (qi o.1)) o.2) : qC X d yX12_fault cX12_fault 2 (some .int) [qr 70, qi a1] S Q := by
  refine q_entry (lv := [(0, qr 70), (1, qi a1)]) pn_X12 (Nat.le_of_ble_eq_true rfl) rfl ?_
  unfold M_fault at h
  refine q_iload_n dX12_fault_0 rfl rfl ?_
  obtain ⟨c2467, h⟩ := qk_some h
  refine q_if_ne (tgt := 11) dX12_fault_1 (by decide) rfl (qRb_R c2467)  (fun g => ?_) (fun g => ?_)
  · rw [if_neg (show ¬ (a1 = 0) from g)] at h
    refine q_iload_n dX12_fault_11 rfl rfl ?_
    refine q_iconst dX12_fault_12 rfl rfl ?_
    obtain ⟨c2468, h⟩ := qk_some h
    refine q_icmp_ne (tgt := 23) dX12_fault_13 (by decide) rfl (qRb_R c2468) ⟨by decide, by decide⟩ (fun g => ?_) (fun g => ?_)
    · rw [if_neg (show ¬ (a1 = 1) from g)] at h
      refine q_iconst dX12_fault_23 rfl rfl ?_
      cases h
      exact q_ireturn dX12_fault_24 rfl hQ
    · rw [if_pos (show a1 = 1 from g)] at h
      refine q_aload_n dX12_fault_16 rfl rfl ?_
      refine q_getI dX12_fault_17 fl_X12_26 (hL 70 (by decide)) sh_70 (by decide) rfl rfl ?_
      refine q_goto (pc' := 24) dX12_fault_20 (by decide) ?_
      cases h
      exact q_ireturn dX12_fault_24 rfl hQ
  · rw [if_pos (show a1 = 0 from g)] at h
    refine q_aload_n dX12_fault_4 rfl rfl ?_
    refine q_getI dX12_fault_5 fl_X12_243 (hL 70 (by decide)) sh_70 (by decide) rfl rfl ?_
    refine q_goto (pc' := 24) dX12_fault_8 (by decide) ?_
    cases h
    exact q_ireturn dX12_fault_24 rfl hQ
set_option maxRecDepth 20000 in
theorem M_stays_ok {X : qX} (hL : ∀ c, c < 93 → c ∈ qLs X) (d : Nat) (a1 : Int) (S : qSto) (o : (Int × qSto)) (h : M_stays a1 S = some o) (Q : Option qV → qSto → Prop) (hQ : Q (some (qi o.1)) o.2) : qC X d yX12_stays cX12_stays 2 (some .boolean) [qr 70, qi a1] S Q := by
  refine q_entry (lv := [(0, qr 70), (1, qi a1)]) pn_X12 (Nat.le_of_ble_eq_true rfl) rfl ?_
  unfold M_stays at h
  refine q_aload_n dX12_stays_0 rfl rfl ?_
  refine q_getA dX12_stays_1 fl_X12_42 (hL 70 (by decide)) sh_70 (by decide) rfl rfl ?_
  refine q_iload_n dX12_stays_4 rfl rfl ?_
  obtain ⟨c2472, h⟩ := qk_some h
  refine q_iaload dX12_stays_5 (hL 80 (by decide)) sh_80 (qIx_0 c2472) (qIx_1 c2472) rfl ?_
  obtain ⟨c2473, h⟩ := qk_some h
  refine q_if_le (tgt := 13) dX12_stays_6 (by decide) rfl (qRb_R c2473)  (fun g => ?_) (fun g => ?_)
  · rw [if_pos (show (S 80 (Int.toNat a1)) ≤ 0 from g)] at h
    refine q_iconst dX12_stays_13 rfl rfl ?_
    cases h
    exact q_zreturn dX12_stays_14 rfl (by decide) hQ
  · rw [if_neg (show ¬ ((S 80 (Int.toNat a1)) ≤ 0) from g)] at h
    refine q_iconst dX12_stays_9 rfl rfl ?_
    refine q_goto (pc' := 14) dX12_stays_10 (by decide) ?_
    cases h
    exact q_zreturn dX12_stays_14 rfl (by decide) hQ
set_option maxRecDepth 20000 in
theorem M_staying_L4_ok {X : qX} (hL : ∀ c, c < 93 → c ∈ qLs X) (d : Nat) {Q : Option qV → qSto → Prop} : ∀ (n : Nat) (x1 : Int) (x2 : Int) (S : qSto) (o : (Int × qSto)), M_staying_L4 n x1 x2 S = some o → (qW X (d + 1) yX12_staying cX12_staying 3 (some .int) 37 [(1, qi o.1)] [] o.2 Q) → qW X (d + 1) yX12_staying cX12_staying 3 (some .int) 4 [(0, qr 70), (1, qi x1), (2, qi x2)] [] S Q := by
  intro n
  induction n with
  | zero =>
    intro x1 x2 S o h
    simp [M_staying_L4] at h
  | succ n ih =>
    intro x1 x2 S o h hE
    rw [M_staying_L4] at h
    refine q_iload_n dX12_staying_4 rfl rfl ?_
    refine q_aload_n dX12_staying_5 rfl rfl ?_
    refine q_getA dX12_staying_6 fl_X12_13 (hL 70 (by decide)) sh_70 (by decide) rfl rfl ?_
    refine q_bipush dX12_staying_9 (by decide) rfl ?_
    refine q_iaload dX12_staying_11 (hL 72 (by decide)) sh_72 (by decide) (by decide) rfl ?_
    obtain ⟨c2470, h⟩ := qk_some h
    obtain ⟨c2471, h⟩ := qk_some h
    refine q_icmp_ge (tgt := 37) dX12_staying_12 (by decide) rfl (qRb_R c2470) (qRb_R c2471) (fun g => ?_) (fun g => ?_)
    · rw [if_pos (show (S 72 9) ≤ x2 from g)] at h
      cases h
      exact q_pick [1] rfl (hE)
    · rw [if_neg (show ¬ ((S 72 9) ≤ x2) from g)] at h
      refine q_aload_n dX12_staying_15 rfl rfl ?_
      refine q_iload_n dX12_staying_16 rfl rfl ?_
      obtain ⟨q2474, h2475, h⟩ := Option.bind_eq_some_iff.mp h
      refine q_callVi (as := [qi x2]) (c := 70) dX12_staying_17 ml_X12_326 rfl rfl (hL 70 (by decide)) sh_70 rfl rfl (Nat.le_of_ble_eq_true rfl) (M_stays_ok hL d x2 _ _ h2475) rfl ?_
      refine q_jn (G := fun (t2477 : Int) => qW X (d + 1) yX12_staying cX12_staying 3 (some .int) 30 [(0, qr 70), (2, qi x2)] [qi t2477] q2474.2 Q) h (fun t2477 h => ?_) (fun t2477 h hk4208 => ?_)
      · try dsimp only at h
        refine q_istore_n (lv' := [(1, qi t2477), (0, qr 70), (2, qi x2)]) dX12_staying_30 (by decide) rfl rfl ?_
        refine q_iinc (lv' := [(2, qi (x2 + 1)), (1, qi t2477), (0, qr 70)]) dX12_staying_31 (by decide) rfl rfl rfl ?_
        refine q_goto (pc' := 4) dX12_staying_34 (by decide) ?_
        exact q_pick [2, 1, 0] rfl (ih t2477 (x2 + 1) _ _ h hE)
      · skip
        obtain ⟨c2476, h⟩ := qk_some h
        refine q_if_eq (tgt := 29) dX12_staying_20 (by decide) rfl (qRb_R c2476)  (fun g => ?_) (fun g => ?_)
        · rw [if_pos (show q2474.1 = 0 from g)] at h
          refine q_iload_n dX12_staying_29 rfl rfl ?_
          cases h
          exact q_pick [0, 2] rfl hk4208
        · rw [if_neg (show ¬ (q2474.1 = 0) from g)] at h
          refine q_iload_n dX12_staying_23 rfl rfl ?_
          refine q_iconst dX12_staying_24 rfl rfl ?_
          refine q_iadd dX12_staying_25 rfl ?_
          refine q_goto (pc' := 30) dX12_staying_26 (by decide) ?_
          cases h
          exact q_pick [0, 2] rfl hk4208
set_option maxRecDepth 20000 in
theorem M_staying_ok {X : qX} (hL : ∀ c, c < 93 → c ∈ qLs X) (d : Nat) (S : qSto) (o : (Int × qSto)) (h : M_staying S = some o) (Q : Option qV → qSto → Prop) (hQ : Q (some (qi o.1)) o.2) : qC X (d + 1) yX12_staying cX12_staying 3 (some .int) [qr 70] S Q := by
  refine q_entry (lv := [(0, qr 70)]) pn_X12 (Nat.le_of_ble_eq_true rfl) rfl ?_
  unfold M_staying at h
  refine q_iconst dX12_staying_0 rfl rfl ?_
  refine q_istore_n (lv' := [(1, qi 0), (0, qr 70)]) dX12_staying_1 (by decide) rfl rfl ?_
  refine q_iconst dX12_staying_2 rfl rfl ?_
  refine q_istore_n (lv' := [(2, qi 0), (1, qi 0), (0, qr 70)]) dX12_staying_3 (by decide) rfl rfl ?_
  obtain ⟨q2478, h2479, h⟩ := Option.bind_eq_some_iff.mp h
  refine q_pick [2, 1, 0] rfl (M_staying_L4_ok hL d qF 0 0 _ _ h2479 ?_)
  refine q_iload_n dX12_staying_37 rfl rfl ?_
  cases h
  exact q_ireturn dX12_staying_38 rfl hQ
set_option maxRecDepth 20000 in
theorem M_made_L4_ok {X : qX} (hL : ∀ c, c < 93 → c ∈ qLs X) (d : Nat) {Q : Option qV → qSto → Prop} : ∀ (n : Nat) (x1 : Int) (x2 : Int) (S : qSto) (o : (Int × qSto)), M_made_L4 n x1 x2 S = some o → (qW X d yX12_made cX12_made 3 (some .int) 32 [(1, qi o.1)] [] o.2 Q) → qW X d yX12_made cX12_made 3 (some .int) 4 [(0, qr 70), (1, qi x1), (2, qi x2)] [] S Q := by
  intro n
  induction n with
  | zero =>
    intro x1 x2 S o h
    simp [M_made_L4] at h
  | succ n ih =>
    intro x1 x2 S o h hE
    rw [M_made_L4] at h
    refine q_iload_n dX12_made_4 rfl rfl ?_
    refine q_iconst dX12_made_5 rfl rfl ?_
    obtain ⟨c2482, h⟩ := qk_some h
    refine q_icmp_ge (tgt := 32) dX12_made_6 (by decide) rfl (qRb_R c2482) ⟨by decide, by decide⟩ (fun g => ?_) (fun g => ?_)
    · rw [if_pos (show 4 ≤ x2 from g)] at h
      cases h
      exact q_pick [1] rfl (hE)
    · rw [if_neg (show ¬ (4 ≤ x2) from g)] at h
      refine q_aload_n dX12_made_9 rfl rfl ?_
      refine q_getA dX12_made_10 fl_X12_60 (hL 70 (by decide)) sh_70 (by decide) rfl rfl ?_
      refine q_iload_n dX12_made_13 rfl rfl ?_
      obtain ⟨c2483, h⟩ := qk_some h
      refine q_zaload dX12_made_14 (hL 86 (by decide)) sh_86 (qIx_0 c2483) (qIx_1 c2483) rfl ?_
      refine q_jn (G := fun (t2485 : Int) => qW X d yX12_made cX12_made 3 (some .int) 25 [(0, qr 70), (2, qi x2)] [qi t2485] S Q) h (fun t2485 h => ?_) (fun t2485 h hk4209 => ?_)
      · try dsimp only at h
        refine q_istore_n (lv' := [(1, qi t2485), (0, qr 70), (2, qi x2)]) dX12_made_25 (by decide) rfl rfl ?_
        refine q_iinc (lv' := [(2, qi (x2 + 1)), (1, qi t2485), (0, qr 70)]) dX12_made_26 (by decide) rfl rfl rfl ?_
        refine q_goto (pc' := 4) dX12_made_29 (by decide) ?_
        exact q_pick [2, 1, 0] rfl (ih t2485 (x2 + 1) _ _ h hE)
      · skip
        obtain ⟨c2484, h⟩ := qk_some h
        refine q_if_eq (tgt := 24) dX12_made_15 (by decide) rfl (qRb_R c2484)  (fun g => ?_) (fun g => ?_)
        · rw [if_pos (show (S 86 (Int.toNat x2)) = 0 from g)] at h
          refine q_iload_n dX12_made_24 rfl rfl ?_
          cases h
          exact q_pick [0, 2] rfl hk4209
        · rw [if_neg (show ¬ ((S 86 (Int.toNat x2)) = 0) from g)] at h
          refine q_iload_n dX12_made_18 rfl rfl ?_
          refine q_iconst dX12_made_19 rfl rfl ?_
          refine q_iadd dX12_made_20 rfl ?_
          refine q_goto (pc' := 25) dX12_made_21 (by decide) ?_
          cases h
          exact q_pick [0, 2] rfl hk4209
set_option maxRecDepth 20000 in
theorem M_made_ok {X : qX} (hL : ∀ c, c < 93 → c ∈ qLs X) (d : Nat) (S : qSto) (o : (Int × qSto)) (h : M_made S = some o) (Q : Option qV → qSto → Prop) (hQ : Q (some (qi o.1)) o.2) : qC X d yX12_made cX12_made 3 (some .int) [qr 70] S Q := by
  refine q_entry (lv := [(0, qr 70)]) pn_X12 (Nat.le_of_ble_eq_true rfl) rfl ?_
  unfold M_made at h
  refine q_iconst dX12_made_0 rfl rfl ?_
  refine q_istore_n (lv' := [(1, qi 0), (0, qr 70)]) dX12_made_1 (by decide) rfl rfl ?_
  refine q_iconst dX12_made_2 rfl rfl ?_
  refine q_istore_n (lv' := [(2, qi 0), (1, qi 0), (0, qr 70)]) dX12_made_3 (by decide) rfl rfl ?_
  obtain ⟨q2486, h2487, h⟩ := Option.bind_eq_some_iff.mp h
  refine q_pick [2, 1, 0] rfl (M_made_L4_ok hL d qF 0 0 _ _ h2487 ?_)
  refine q_iload_n dX12_made_32 rfl rfl ?_
  cases h
  exact q_ireturn dX12_made_33 rfl hQ
set_option maxRecDepth 20000 in
theorem M_of_ok {X : qX} (hL : ∀ c, c < 93 → c ∈ qLs X) (d : Nat) (a1 : Int) (a2 : Int) (S : qSto) (o : (Int × qSto)) (h : M_of a1 a2 S = some o) (Q : Option qV → qSto → Prop) (hQ : Q (some (qi o.1)) o.2) : qC X d yX12_of cX12_of 3 (some .int) [qr 70, qi a1, qi a2] S Q := by
  refine q_entry (lv := [(0, qr 70), (1, qi a1), (2, qi a2)]) pn_X12 (Nat.le_of_ble_eq_true rfl) rfl ?_
  unfold M_of at h
  refine q_aload_n dX12_of_0 rfl rfl ?_
  refine q_getA dX12_of_1 fl_X12_13 (hL 70 (by decide)) sh_70 (by decide) rfl rfl ?_
  refine q_bipush dX12_of_4 (by decide) rfl ?_
  refine q_bipush dX12_of_6 (by decide) rfl ?_
  refine q_iload_n dX12_of_8 rfl rfl ?_
  refine q_imul dX12_of_9 rfl ?_
  refine q_iadd dX12_of_10 rfl ?_
  refine q_iload_n dX12_of_11 rfl rfl ?_
  refine q_iadd dX12_of_12 rfl ?_
  obtain ⟨c2496, h⟩ := qk_some h
  refine q_iaload dX12_of_13 (hL 72 (by decide)) sh_72 (qIx_0 c2496) (qIx_1 c2496) rfl ?_
  cases h
  exact q_ireturn dX12_of_14 rfl hQ
