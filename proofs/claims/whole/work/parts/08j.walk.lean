set_option maxRecDepth 20000 in
theorem M_nextOld_L5_ok {X : qX} (hL : ∀ c, c < 93 → c ∈ qLs X) (d : Nat) {Q : Option qV → qSto → Prop} : ∀ (n : Nat) (x1 : Int) (x2 : Int) (x3 : Int) (x4 : Int) (S : qSto) (o : (Int × qSto)), M_nextOld_L5 n x1 x2 x3 x4 S = some o → (qW X (d + 1) yX12_nextOld cX12_nextOld 6 (some .int) 103 [(3, qi o.1)] [] o.2 Q) → qW X (d + 1) yX12_nextOld cX12_nextOld 6 (some .int) 5 [(0, qr 70), (1, qi x1), (2, qi x2), (3, qi x3), (4, qi x4)] [] S Q := by
  intro n
  induction n with
  | zero =>
    intro x1 x2 x3 x4 S o h
    simp [M_nextOld_L5] at h
  | succ n ih =>
    intro x1 x2 x3 x4 S o h hE
    rw [M_nextOld_L5] at h
    refine q_iload dX12_nextOld_5 rfl rfl ?_
    refine q_aload_n dX12_nextOld_7 rfl rfl ?_
    refine q_getA dX12_nextOld_8 fl_X12_13 (hL 70 (by decide)) sh_70 (by decide) rfl rfl ?_
    refine q_bipush dX12_nextOld_11 (by decide) rfl ?_
    refine q_iaload dX12_nextOld_13 (hL 72 (by decide)) sh_72 (by decide) (by decide) rfl ?_
    obtain ⟨c2985, h⟩ := qk_some h
    obtain ⟨c2986, h⟩ := qk_some h
    refine q_icmp_ge (tgt := 103) dX12_nextOld_14 (by decide) rfl (qRb_R c2985) (qRb_R c2986) (fun g => ?_) (fun g => ?_)
    · rw [if_pos (show (S 72 9) ≤ x4 from g)] at h
      cases h
      exact q_pick [3] rfl (hE)
    · rw [if_neg (show ¬ ((S 72 9) ≤ x4) from g)] at h
      refine q_aload_n dX12_nextOld_17 rfl rfl ?_
      refine q_getA dX12_nextOld_18 fl_X12_64 (hL 70 (by decide)) sh_70 (by decide) rfl rfl ?_
      refine q_iload dX12_nextOld_21 rfl rfl ?_
      obtain ⟨c2987, h⟩ := qk_some h
      refine q_iaload dX12_nextOld_23 (hL 87 (by decide)) sh_87 (qIx_0 c2987) (qIx_1 c2987) rfl ?_
      refine q_iload_n dX12_nextOld_24 rfl rfl ?_
      refine q_jn (G := fun (t2995 : Int) => qW X (d + 1) yX12_nextOld cX12_nextOld 6 (some .int) 50 [(0, qr 70), (1, qi x1), (2, qi x2), (3, qi x3), (4, qi x4)] [qi t2995] S Q) h (fun t2995 h => ?_) (fun t2995 h hk3910 => ?_)
      · try dsimp only at h
        refine q_istore (lv' := [(5, qi t2995), (0, qr 70), (1, qi x1), (2, qi x2), (3, qi x3), (4, qi x4)]) dX12_nextOld_50 (by decide) rfl rfl ?_
        refine q_aload_n dX12_nextOld_52 rfl rfl ?_
        refine q_iload dX12_nextOld_53 rfl rfl ?_
        obtain ⟨q2996, h2997, h⟩ := Option.bind_eq_some_iff.mp h
        refine q_callVi (as := [qi x4]) (c := 70) dX12_nextOld_55 ml_X12_326 rfl rfl (hL 70 (by decide)) sh_70 rfl rfl (Nat.le_of_ble_eq_true rfl) (M_stays_ok hL d x4 _ _ h2997) rfl ?_
        refine q_jn (G := fun (t3006 : Int) => qW X (d + 1) yX12_nextOld cX12_nextOld 6 (some .int) 97 [(0, qr 70), (1, qi x1), (2, qi x2), (3, qi t3006), (4, qi x4)] [] q2996.2 Q) h (fun t3006 h => ?_) (fun t3006 h hk3911 => ?_)
        · try dsimp only at h
          refine q_iinc (lv' := [(4, qi (x4 + 1)), (0, qr 70), (1, qi x1), (2, qi x2), (3, qi t3006)]) dX12_nextOld_97 (by decide) rfl rfl rfl ?_
          refine q_goto (pc' := 5) dX12_nextOld_100 (by decide) ?_
          exact q_pick [1, 2, 3, 4, 0] rfl (ih x1 x2 t3006 (x4 + 1) _ _ h hE)
        · skip
          obtain ⟨c2998, h⟩ := qk_some h
          refine q_if_eq (tgt := 97) dX12_nextOld_58 (by decide) rfl (qRb_R c2998)  (fun g => ?_) (fun g => ?_)
          · rw [if_pos (show q2996.1 = 0 from g)] at h
            cases h
            exact q_pick [1, 2, 3, 4, 5] rfl hk3911
          · rw [if_neg (show ¬ (q2996.1 = 0) from g)] at h
            refine q_iload dX12_nextOld_61 rfl rfl ?_
            obtain ⟨c2999, h⟩ := qk_some h
            refine q_if_ne (tgt := 69) dX12_nextOld_63 (by decide) rfl (qRb_R c2999)  (fun g => ?_) (fun g => ?_)
            · rw [if_neg (show ¬ (t2995 = 0) from g)] at h
              refine q_iload_n dX12_nextOld_69 rfl rfl ?_
              refine q_iconst dX12_nextOld_70 rfl rfl ?_
              refine q_jn (G := fun (t3005 : Int) => qW X (d + 1) yX12_nextOld cX12_nextOld 6 (some .int) 96 [(0, qr 70), (1, qi x1), (2, qi x2), (4, qi x4)] [qi t3005] q2996.2 Q) h (fun t3005 h => ?_) (fun t3005 h hk3912 => ?_)
              · try dsimp only at h
                refine q_istore_n (lv' := [(3, qi t3005), (0, qr 70), (1, qi x1), (2, qi x2), (4, qi x4)]) dX12_nextOld_96 (by decide) rfl rfl ?_
                cases h
                exact q_pick [1, 2, 3, 0, 4] rfl hk3911
              · skip
                obtain ⟨c3000, h⟩ := qk_some h
                refine q_icmp_eq (tgt := 90) dX12_nextOld_71 (by decide) rfl (qRb_R c3000) ⟨by decide, by decide⟩ (fun g => ?_) (fun g => ?_)
                · rw [if_pos (show x3 = (-1) from g)] at h
                  refine q_iload dX12_nextOld_90 rfl rfl ?_
                  refine q_goto (pc' := 96) dX12_nextOld_92 (by decide) ?_
                  cases h
                  exact q_pick [1, 2, 3, 5] rfl hk3912
                · rw [if_neg (show ¬ (x3 = (-1)) from g)] at h
                  refine q_aload_n dX12_nextOld_74 rfl rfl ?_
                  refine q_getA dX12_nextOld_75 fl_X12_64 (hL 70 (by decide)) sh_70 (by decide) rfl rfl ?_
                  refine q_iload dX12_nextOld_78 rfl rfl ?_
                  obtain ⟨c3001, h⟩ := qk_some h
                  refine q_iaload dX12_nextOld_80 (hL 87 (by decide)) sh_87 (qIx_0 c3001) (qIx_1 c3001) rfl ?_
                  refine q_aload_n dX12_nextOld_81 rfl rfl ?_
                  refine q_getA dX12_nextOld_82 fl_X12_64 (hL 70 (by decide)) sh_70 (by decide) rfl rfl ?_
                  refine q_iload_n dX12_nextOld_85 rfl rfl ?_
                  obtain ⟨c3002, h⟩ := qk_some h
                  refine q_iaload dX12_nextOld_86 (hL 87 (by decide)) sh_87 (qIx_0 c3002) (qIx_1 c3002) rfl ?_
                  obtain ⟨c3003, h⟩ := qk_some h
                  obtain ⟨c3004, h⟩ := qk_some h
                  refine q_icmp_ge (tgt := 95) dX12_nextOld_87 (by decide) rfl (qRb_R c3003) (qRb_R c3004) (fun g => ?_) (fun g => ?_)
                  · rw [if_pos (show (q2996.2 87 (Int.toNat x3)) ≤ (q2996.2 87 (Int.toNat x4)) from g)] at h
                    refine q_iload_n dX12_nextOld_95 rfl rfl ?_
                    cases h
                    exact q_pick [1, 2, 3, 5] rfl hk3912
                  · rw [if_neg (show ¬ ((q2996.2 87 (Int.toNat x3)) ≤ (q2996.2 87 (Int.toNat x4))) from g)] at h
                    refine q_iload dX12_nextOld_90 rfl rfl ?_
                    refine q_goto (pc' := 96) dX12_nextOld_92 (by decide) ?_
                    cases h
                    exact q_pick [1, 2, 3, 5] rfl hk3912
            · rw [if_pos (show t2995 = 0 from g)] at h
              refine q_goto (pc' := 97) dX12_nextOld_66 (by decide) ?_
              cases h
              exact q_pick [1, 2, 3, 4, 5] rfl hk3911
      · skip
        obtain ⟨c2988, h⟩ := qk_some h
        obtain ⟨c2989, h⟩ := qk_some h
        refine q_icmp_gt (tgt := 45) dX12_nextOld_25 (by decide) rfl (qRb_R c2988) (qRb_R c2989) (fun g => ?_) (fun g => ?_)
        · rw [if_pos (show x1 < (S 87 (Int.toNat x4)) from g)] at h
          refine q_iconst dX12_nextOld_45 rfl rfl ?_
          refine q_goto (pc' := 50) dX12_nextOld_46 (by decide) ?_
          cases h
          exact q_pick [0, 1, 2, 3, 4] rfl hk3910
        · rw [if_neg (show ¬ (x1 < (S 87 (Int.toNat x4))) from g)] at h
          refine q_aload_n dX12_nextOld_28 rfl rfl ?_
          refine q_getA dX12_nextOld_29 fl_X12_64 (hL 70 (by decide)) sh_70 (by decide) rfl rfl ?_
          refine q_iload dX12_nextOld_32 rfl rfl ?_
          obtain ⟨c2990, h⟩ := qk_some h
          refine q_iaload dX12_nextOld_34 (hL 87 (by decide)) sh_87 (qIx_0 c2990) (qIx_1 c2990) rfl ?_
          refine q_iload_n dX12_nextOld_35 rfl rfl ?_
          obtain ⟨c2991, h⟩ := qk_some h
          obtain ⟨c2992, h⟩ := qk_some h
          refine q_icmp_ne (tgt := 49) dX12_nextOld_36 (by decide) rfl (qRb_R c2991) (qRb_R c2992) (fun g => ?_) (fun g => ?_)
          · rw [if_neg (show ¬ ((S 87 (Int.toNat x4)) = x1) from g)] at h
            refine q_iconst dX12_nextOld_49 rfl rfl ?_
            cases h
            exact q_pick [0, 1, 2, 3, 4] rfl hk3910
          · rw [if_pos (show (S 87 (Int.toNat x4)) = x1 from g)] at h
            refine q_iload dX12_nextOld_39 rfl rfl ?_
            refine q_iload_n dX12_nextOld_41 rfl rfl ?_
            obtain ⟨c2993, h⟩ := qk_some h
            obtain ⟨c2994, h⟩ := qk_some h
            refine q_icmp_le (tgt := 49) dX12_nextOld_42 (by decide) rfl (qRb_R c2993) (qRb_R c2994) (fun g => ?_) (fun g => ?_)
            · rw [if_pos (show x4 ≤ x2 from g)] at h
              refine q_iconst dX12_nextOld_49 rfl rfl ?_
              cases h
              exact q_pick [0, 1, 2, 3, 4] rfl hk3910
            · rw [if_neg (show ¬ (x4 ≤ x2) from g)] at h
              refine q_iconst dX12_nextOld_45 rfl rfl ?_
              refine q_goto (pc' := 50) dX12_nextOld_46 (by decide) ?_
              cases h
              exact q_pick [0, 1, 2, 3, 4] rfl hk3910
set_option maxRecDepth 20000 in
theorem M_nextOld_ok {X : qX} (hL : ∀ c, c < 93 → c ∈ qLs X) (d : Nat) (a1 : Int) (a2 : Int) (S : qSto) (o : (Int × qSto)) (h : M_nextOld a1 a2 S = some o) (Q : Option qV → qSto → Prop) (hQ : Q (some (qi o.1)) o.2) : qC X (d + 1) yX12_nextOld cX12_nextOld 6 (some .int) [qr 70, qi a1, qi a2] S Q := by
  refine q_entry (lv := [(0, qr 70), (1, qi a1), (2, qi a2)]) pn_X12 (Nat.le_of_ble_eq_true rfl) rfl ?_
  unfold M_nextOld at h
  refine q_iconst dX12_nextOld_0 rfl rfl ?_
  refine q_istore_n (lv' := [(3, qi (-1)), (0, qr 70), (1, qi a1), (2, qi a2)]) dX12_nextOld_1 (by decide) rfl rfl ?_
  refine q_iconst dX12_nextOld_2 rfl rfl ?_
  refine q_istore (lv' := [(4, qi 0), (3, qi (-1)), (0, qr 70), (1, qi a1), (2, qi a2)]) dX12_nextOld_3 (by decide) rfl rfl ?_
  obtain ⟨q3007, h3008, h⟩ := Option.bind_eq_some_iff.mp h
  refine q_pick [2, 3, 4, 1, 0] rfl (M_nextOld_L5_ok hL d qF a1 a2 (-1) 0 _ _ h3008 ?_)
  refine q_iload_n dX12_nextOld_103 rfl rfl ?_
  cases h
  exact q_ireturn dX12_nextOld_104 rfl hQ
set_option maxRecDepth 20000 in
theorem M_comesSooner_L7_ok {X : qX} (hL : ∀ c, c < 93 → c ∈ qLs X) (d : Nat) {Q : Option qV → qSto → Prop} : ∀ (n : Nat) (x1 : Int) (x2 : Int) (S : qSto) (o : (qSto ⊕ (Int × qSto))), M_comesSooner_L7 n x1 x2 S = some o → (∀ t, o = Sum.inl t → qW X (d + 7) yX12_comesSooner cX12_comesSooner 3 (some .boolean) 69 [] [] t Q) → (∀ w, o = Sum.inr w → Q (some (qi w.1)) w.2) → qW X (d + 7) yX12_comesSooner cX12_comesSooner 3 (some .boolean) 7 [(0, qr 70), (1, qi x1), (2, qi x2)] [] S Q := by
  intro n
  induction n with
  | zero =>
    intro x1 x2 S o h
    simp [M_comesSooner_L7] at h
  | succ n ih =>
    intro x1 x2 S o h hE hR
    rw [M_comesSooner_L7] at h
    refine q_iload_n dX12_comesSooner_7 rfl rfl ?_
    refine q_aload_n dX12_comesSooner_8 rfl rfl ?_
    refine q_getA dX12_comesSooner_9 fl_X12_39 (hL 70 (by decide)) sh_70 (by decide) rfl rfl ?_
    refine q_iload_n dX12_comesSooner_12 rfl rfl ?_
    obtain ⟨c3014, h⟩ := qk_some h
    refine q_iaload dX12_comesSooner_13 (hL 79 (by decide)) sh_79 (qIx_0 c3014) (qIx_1 c3014) rfl ?_
    obtain ⟨c3015, h⟩ := qk_some h
    obtain ⟨c3016, h⟩ := qk_some h
    refine q_icmp_ge (tgt := 69) dX12_comesSooner_14 (by decide) rfl (qRb_R c3015) (qRb_R c3016) (fun g => ?_) (fun g => ?_)
    · rw [if_pos (show (S 79 (Int.toNat x1)) ≤ x2 from g)] at h
      cases h
      exact q_pick [] rfl (hE _ rfl)
    · rw [if_neg (show ¬ ((S 79 (Int.toNat x1)) ≤ x2) from g)] at h
      refine q_aload_n dX12_comesSooner_17 rfl rfl ?_
      refine q_iload_n dX12_comesSooner_18 rfl rfl ?_
      refine q_aload_n dX12_comesSooner_19 rfl rfl ?_
      refine q_getA dX12_comesSooner_20 fl_X12_36 (hL 70 (by decide)) sh_70 (by decide) rfl rfl ?_
      refine q_iload_n dX12_comesSooner_23 rfl rfl ?_
      obtain ⟨c3017, h⟩ := qk_some h
      refine q_iaload dX12_comesSooner_24 (hL 78 (by decide)) sh_78 (qIx_0 c3017) (qIx_1 c3017) rfl ?_
      obtain ⟨c3018, h⟩ := qk_some h
      refine q_i2l dX12_comesSooner_25 (qRb_R c3018) rfl ?_
      refine q_iload_n dX12_comesSooner_26 rfl rfl ?_
      obtain ⟨c3019, h⟩ := qk_some h
      refine q_i2l dX12_comesSooner_27 (qRb_R c3019) rfl ?_
      refine q_aload_n dX12_comesSooner_28 rfl rfl ?_
      refine q_getA dX12_comesSooner_29 fl_X12_42 (hL 70 (by decide)) sh_70 (by decide) rfl rfl ?_
      refine q_iload_n dX12_comesSooner_32 rfl rfl ?_
      obtain ⟨c3020, h⟩ := qk_some h
      refine q_iaload dX12_comesSooner_33 (hL 80 (by decide)) sh_80 (qIx_0 c3020) (qIx_1 c3020) rfl ?_
      obtain ⟨q3021, h3022, h⟩ := Option.bind_eq_some_iff.mp h
      refine q_callVi (as := [qi x1, ql (S 78 (Int.toNat x1)), ql x2, qi (S 80 (Int.toNat x1))]) (c := 70) dX12_comesSooner_34 ml_X12_390 rfl rfl (hL 70 (by decide)) sh_70 rfl rfl (Nat.le_of_ble_eq_true rfl) (M_lawOf_ok hL d x1 (S 78 (Int.toNat x1)) x2 (S 80 (Int.toNat x1)) _ _ h3022) rfl ?_
      obtain ⟨c3023, h⟩ := qk_some h
      refine q_if_eq (tgt := 43) dX12_comesSooner_37 (by decide) rfl (qRb_R c3023)  (fun g => ?_) (fun g => ?_)
      · rw [if_pos (show q3021.1 = 0 from g)] at h
        refine q_aload_n dX12_comesSooner_43 rfl rfl ?_
        refine q_iload_n dX12_comesSooner_44 rfl rfl ?_
        refine q_aload_n dX12_comesSooner_45 rfl rfl ?_
        refine q_getA dX12_comesSooner_46 fl_X12_36 (hL 70 (by decide)) sh_70 (by decide) rfl rfl ?_
        refine q_iload_n dX12_comesSooner_49 rfl rfl ?_
        obtain ⟨c3024, h⟩ := qk_some h
        refine q_iaload dX12_comesSooner_50 (hL 78 (by decide)) sh_78 (qIx_0 c3024) (qIx_1 c3024) rfl ?_
        refine q_iload_n dX12_comesSooner_51 rfl rfl ?_
        refine q_aload_n dX12_comesSooner_52 rfl rfl ?_
        refine q_getA dX12_comesSooner_53 fl_X12_42 (hL 70 (by decide)) sh_70 (by decide) rfl rfl ?_
        refine q_iload_n dX12_comesSooner_56 rfl rfl ?_
        obtain ⟨c3025, h⟩ := qk_some h
        refine q_iaload dX12_comesSooner_57 (hL 80 (by decide)) sh_80 (qIx_0 c3025) (qIx_1 c3025) rfl ?_
        obtain ⟨q3026, h3027, h⟩ := Option.bind_eq_some_iff.mp h
        refine q_callVv (as := [qi x1, qi (q3021.2 78 (Int.toNat x1)), qi x2, qi (q3021.2 80 (Int.toNat x1))]) (c := 70) dX12_comesSooner_58 ml_X12_383 rfl rfl (hL 70 (by decide)) sh_70 rfl rfl (Nat.le_of_ble_eq_true rfl) (M_lay_ok hL (d + 3) x1 (q3021.2 78 (Int.toNat x1)) x2 (q3021.2 80 (Int.toNat x1)) _ _ h3027) rfl ?_
        refine q_iconst dX12_comesSooner_61 rfl rfl ?_
        cases h
        exact q_zreturn dX12_comesSooner_62 rfl (by decide) (hR _ rfl)
      · rw [if_neg (show ¬ (q3021.1 = 0) from g)] at h
        refine q_goto (pc' := 63) dX12_comesSooner_40 (by decide) ?_
        refine q_iinc (lv' := [(2, qi (x2 + 1)), (0, qr 70), (1, qi x1)]) dX12_comesSooner_63 (by decide) rfl rfl rfl ?_
        refine q_goto (pc' := 7) dX12_comesSooner_66 (by decide) ?_
        exact q_pick [1, 2, 0] rfl (ih x1 (x2 + 1) _ _ h hE hR)
set_option maxRecDepth 20000 in
theorem M_comesSooner_ok {X : qX} (hL : ∀ c, c < 93 → c ∈ qLs X) (d : Nat) (a1 : Int) (S : qSto) (o : (Int × qSto)) (h : M_comesSooner a1 S = some o) (Q : Option qV → qSto → Prop) (hQ : Q (some (qi o.1)) o.2) : qC X (d + 7) yX12_comesSooner cX12_comesSooner 3 (some .boolean) [qr 70, qi a1] S Q := by
  refine q_entry (lv := [(0, qr 70), (1, qi a1)]) pn_X12 (Nat.le_of_ble_eq_true rfl) rfl ?_
  unfold M_comesSooner at h
  refine q_aload_n dX12_comesSooner_0 rfl rfl ?_
  refine q_iload_n dX12_comesSooner_1 rfl rfl ?_
  refine q_iconst dX12_comesSooner_2 rfl rfl ?_
  obtain ⟨q3012, h3013, h⟩ := Option.bind_eq_some_iff.mp h
  refine q_callVi (as := [qi a1, qi 4]) (c := 70) dX12_comesSooner_3 ml_X12_316 rfl rfl (hL 70 (by decide)) sh_70 rfl rfl (Nat.le_of_ble_eq_true rfl) (M_of_ok hL (d + 6) a1 4 _ _ h3013) rfl ?_
  refine q_istore_n (lv' := [(2, qi q3012.1), (0, qr 70), (1, qi a1)]) dX12_comesSooner_6 (by decide) rfl rfl ?_
  obtain ⟨q3028, h3029, h⟩ := Option.bind_eq_some_iff.mp h
  refine q_pick [1, 2, 0] rfl (M_comesSooner_L7_ok hL d qF a1 q3012.1 _ _ h3029 (fun t3030 e3913 => ?_) (fun w e3913 => ?_))
  · subst e3913
    simp only [Sum.elim_inl] at h
    refine q_iconst dX12_comesSooner_69 rfl rfl ?_
    cases h
    exact q_zreturn dX12_comesSooner_70 rfl (by decide) hQ
  · subst e3913
    simp only [Sum.elim_inr] at h
    cases h
    exact hQ
set_option maxRecDepth 20000 in
theorem M_squeeze_L8_ok {X : qX} (hL : ∀ c, c < 93 → c ∈ qLs X) (d : Nat) {Q : Option qV → qSto → Prop} : ∀ (n : Nat) (x1 : Int) (S : qSto) (o : qSto), M_squeeze_L8 n x1 S = some o → (qW X (d + 8) yX12_squeeze cX12_squeeze 3 (some .int) 32 [(0, qr 70)] [] o Q) → qW X (d + 8) yX12_squeeze cX12_squeeze 3 (some .int) 8 [(0, qr 70), (1, qi x1)] [] S Q := by
  intro n
  induction n with
  | zero =>
    intro x1 S o h
    simp [M_squeeze_L8] at h
  | succ n ih =>
    intro x1 S o h hE
    rw [M_squeeze_L8] at h
    refine q_iload_n dX12_squeeze_8 rfl rfl ?_
    refine q_bipush dX12_squeeze_9 (by decide) rfl ?_
    obtain ⟨c2980, h⟩ := qk_some h
    refine q_icmp_ge (tgt := 32) dX12_squeeze_11 (by decide) rfl (qRb_R c2980) ⟨by decide, by decide⟩ (fun g => ?_) (fun g => ?_)
    · rw [if_pos (show 14 ≤ x1 from g)] at h
      cases h
      exact q_pick [0] rfl (hE)
    · rw [if_neg (show ¬ (14 ≤ x1) from g)] at h
      refine q_aload_n dX12_squeeze_14 rfl rfl ?_
      refine q_getA dX12_squeeze_15 fl_X12_64 (hL 70 (by decide)) sh_70 (by decide) rfl rfl ?_
      refine q_iload_n dX12_squeeze_18 rfl rfl ?_
      refine q_aload_n dX12_squeeze_19 rfl rfl ?_
      refine q_getA dX12_squeeze_20 fl_X12_39 (hL 70 (by decide)) sh_70 (by decide) rfl rfl ?_
      refine q_iload_n dX12_squeeze_23 rfl rfl ?_
      obtain ⟨c2981, h⟩ := qk_some h
      refine q_iaload dX12_squeeze_24 (hL 79 (by decide)) sh_79 (qIx_0 c2981) (qIx_1 c2981) rfl ?_
      obtain ⟨c2982, h⟩ := qk_some h
      refine q_iastore dX12_squeeze_25 (hL 87 (by decide)) sh_87 (qIx_0 c2982) (qIx_1 c2982) rfl ?_
      refine q_iinc (lv' := [(1, qi (x1 + 1)), (0, qr 70)]) dX12_squeeze_26 (by decide) rfl rfl rfl ?_
      refine q_goto (pc' := 8) dX12_squeeze_29 (by decide) ?_
      exact q_pick [1, 0] rfl (ih (x1 + 1) _ _ h hE)
set_option maxRecDepth 20000 in
theorem M_squeeze_L41_ok {X : qX} (hL : ∀ c, c < 93 → c ∈ qLs X) (d : Nat) {Q : Option qV → qSto → Prop} : ∀ (n : Nat) (x1 : Int) (x2 : Int) (S : qSto) (o : (Int × qSto)), M_squeeze_L41 n x1 x2 S = some o → (qW X (d + 8) yX12_squeeze cX12_squeeze 3 (some .int) 77 [(0, qr 70), (1, qi o.1)] [] o.2 Q) → qW X (d + 8) yX12_squeeze cX12_squeeze 3 (some .int) 41 [(0, qr 70), (1, qi x1), (2, qi x2)] [] S Q := by
  intro n
  induction n with
  | zero =>
    intro x1 x2 S o h
    simp [M_squeeze_L41] at h
  | succ n ih =>
    intro x1 x2 S o h hE
    rw [M_squeeze_L41] at h
    refine q_iload_n dX12_squeeze_41 rfl rfl ?_
    refine q_iconst dX12_squeeze_42 rfl rfl ?_
    obtain ⟨c3011, h⟩ := qk_some h
    refine q_icmp_eq (tgt := 77) dX12_squeeze_43 (by decide) rfl (qRb_R c3011) ⟨by decide, by decide⟩ (fun g => ?_) (fun g => ?_)
    · rw [if_pos (show x2 = (-1) from g)] at h
      cases h
      exact q_pick [0, 1] rfl (hE)
    · rw [if_neg (show ¬ (x2 = (-1)) from g)] at h
      refine q_aload_n dX12_squeeze_46 rfl rfl ?_
      refine q_iload_n dX12_squeeze_47 rfl rfl ?_
      obtain ⟨q3031, h3032, h⟩ := Option.bind_eq_some_iff.mp h
      refine q_callVi (as := [qi x2]) (c := 70) dX12_squeeze_48 ml_X12_432 rfl rfl (hL 70 (by decide)) sh_70 rfl rfl (Nat.le_of_ble_eq_true rfl) (M_comesSooner_ok hL d x2 _ _ h3032) rfl ?_
      refine q_jn (G := fun (t3034 : Int) => qW X (d + 8) yX12_squeeze cX12_squeeze 3 (some .int) 61 [(0, qr 70), (2, qi x2)] [qi t3034] q3031.2 Q) h (fun t3034 h => ?_) (fun t3034 h hk3914 => ?_)
      · try dsimp only at h
        refine q_istore_n (lv' := [(1, qi t3034), (0, qr 70), (2, qi x2)]) dX12_squeeze_61 (by decide) rfl rfl ?_
        refine q_aload_n dX12_squeeze_62 rfl rfl ?_
        refine q_aload_n dX12_squeeze_63 rfl rfl ?_
        refine q_getA dX12_squeeze_64 fl_X12_64 (hL 70 (by decide)) sh_70 (by decide) rfl rfl ?_
        refine q_iload_n dX12_squeeze_67 rfl rfl ?_
        obtain ⟨c3035, h⟩ := qk_some h
        refine q_iaload dX12_squeeze_68 (hL 87 (by decide)) sh_87 (qIx_0 c3035) (qIx_1 c3035) rfl ?_
        refine q_iload_n dX12_squeeze_69 rfl rfl ?_
        obtain ⟨q3036, h3037, h⟩ := Option.bind_eq_some_iff.mp h
        refine q_callVi (as := [qi (q3031.2 87 (Int.toNat x2)), qi x2]) (c := 70) dX12_squeeze_70 ml_X12_429 rfl rfl (hL 70 (by decide)) sh_70 rfl rfl (Nat.le_of_ble_eq_true rfl) (M_nextOld_ok hL (d + 6) (q3031.2 87 (Int.toNat x2)) x2 _ _ h3037) rfl ?_
        refine q_istore_n (lv' := [(2, qi q3036.1), (1, qi t3034), (0, qr 70)]) dX12_squeeze_73 (by decide) rfl rfl ?_
        refine q_goto (pc' := 41) dX12_squeeze_74 (by decide) ?_
        exact q_pick [2, 1, 0] rfl (ih t3034 q3036.1 _ _ h hE)
      · skip
        obtain ⟨c3033, h⟩ := qk_some h
        refine q_if_eq (tgt := 60) dX12_squeeze_51 (by decide) rfl (qRb_R c3033)  (fun g => ?_) (fun g => ?_)
        · rw [if_pos (show q3031.1 = 0 from g)] at h
          refine q_iload_n dX12_squeeze_60 rfl rfl ?_
          cases h
          exact q_pick [0, 2] rfl hk3914
        · rw [if_neg (show ¬ (q3031.1 = 0) from g)] at h
          refine q_iload_n dX12_squeeze_54 rfl rfl ?_
          refine q_iconst dX12_squeeze_55 rfl rfl ?_
          refine q_iadd dX12_squeeze_56 rfl ?_
          refine q_goto (pc' := 61) dX12_squeeze_57 (by decide) ?_
          cases h
          exact q_pick [0, 2] rfl hk3914
set_option maxRecDepth 20000 in
theorem M_squeeze_ok {X : qX} (hL : ∀ c, c < 93 → c ∈ qLs X) (d : Nat) (S : qSto) (o : (Int × qSto)) (h : M_squeeze S = some o) (Q : Option qV → qSto → Prop) (hQ : Q (some (qi o.1)) o.2) : qC X (d + 8) yX12_squeeze cX12_squeeze 3 (some .int) [qr 70] S Q := by
  refine q_entry (lv := [(0, qr 70)]) pn_X12 (Nat.le_of_ble_eq_true rfl) rfl ?_
  unfold M_squeeze at h
  refine q_aload_n dX12_squeeze_0 rfl rfl ?_
  refine q_bipush dX12_squeeze_1 (by decide) rfl ?_
  obtain ⟨q2978, h2979, h⟩ := Option.bind_eq_some_iff.mp h
  refine q_callVv (as := [qi 16]) (c := 70) dX12_squeeze_3 ml_X12_414 rfl rfl (hL 70 (by decide)) sh_70 rfl rfl (Nat.le_of_ble_eq_true rfl) (M_puts_ok hL (d + 7) 16 _ _ h2979) rfl ?_
  refine q_iconst dX12_squeeze_6 rfl rfl ?_
  refine q_istore_n (lv' := [(1, qi 0), (0, qr 70)]) dX12_squeeze_7 (by decide) rfl rfl ?_
  obtain ⟨q2983, h2984, h⟩ := Option.bind_eq_some_iff.mp h
  refine q_pick [1, 0] rfl (M_squeeze_L8_ok hL d qF 0 _ _ h2984 ?_)
  refine q_iconst dX12_squeeze_32 rfl rfl ?_
  refine q_istore_n (lv' := [(1, qi 0), (0, qr 70)]) dX12_squeeze_33 (by decide) rfl rfl ?_
  refine q_aload_n dX12_squeeze_34 rfl rfl ?_
  refine q_iconst dX12_squeeze_35 rfl rfl ?_
  refine q_iconst dX12_squeeze_36 rfl rfl ?_
  obtain ⟨q3009, h3010, h⟩ := Option.bind_eq_some_iff.mp h
  refine q_callVi (as := [qi (-1), qi (-1)]) (c := 70) dX12_squeeze_37 ml_X12_429 rfl rfl (hL 70 (by decide)) sh_70 rfl rfl (Nat.le_of_ble_eq_true rfl) (M_nextOld_ok hL (d + 6) (-1) (-1) _ _ h3010) rfl ?_
  refine q_istore_n (lv' := [(2, qi q3009.1), (1, qi 0), (0, qr 70)]) dX12_squeeze_40 (by decide) rfl rfl ?_
  obtain ⟨q3038, h3039, h⟩ := Option.bind_eq_some_iff.mp h
  refine q_pick [2, 1, 0] rfl (M_squeeze_L41_ok hL d qF 0 q3009.1 _ _ h3039 ?_)
  refine q_iload_n dX12_squeeze_77 rfl rfl ?_
  obtain ⟨c3040, h⟩ := qk_some h
  refine q_if_ne (tgt := 83) dX12_squeeze_78 (by decide) rfl (qRb_R c3040)  (fun g => ?_) (fun g => ?_)
  · rw [if_neg (show ¬ (q3038.1 = 0) from g)] at h
    refine q_aload_n dX12_squeeze_83 rfl rfl ?_
    obtain ⟨q3041, h3042, h⟩ := Option.bind_eq_some_iff.mp h
    refine q_callVv (as := []) (c := 70) dX12_squeeze_84 ml_X12_417 rfl rfl (hL 70 (by decide)) sh_70 rfl rfl (Nat.le_of_ble_eq_true rfl) (M_keeps_ok hL (d + 6) _ _ h3042) rfl ?_
    refine q_iload_n dX12_squeeze_87 rfl rfl ?_
    cases h
    exact q_ireturn dX12_squeeze_88 rfl hQ
  · rw [if_pos (show q3038.1 = 0 from g)] at h
    refine q_iconst dX12_squeeze_81 rfl rfl ?_
    cases h
    exact q_ireturn dX12_squeeze_82 rfl hQ
set_option maxRecDepth 20000 in
theorem M_places_L22_ok {X : qX} (hL : ∀ c, c < 93 → c ∈ qLs X) (d : Nat) {Q : Option qV → qSto → Prop} : ∀ (n : Nat) (x1 : Int) (x2 : Int) (x3 : Int) (x4 : Int) (x5 : Int) (x6 : Int) (S : qSto) (o : ((Int × qSto) ⊕ (Int × qSto))), M_places_L22 n x1 x2 x3 x4 x5 x6 S = some o → (∀ t, o = Sum.inl t → qW X (d + 7) yX12_places cX12_places 7 (some .int) 83 [(4, qi x4), (5, qi t.1)] [] t.2 Q) → (∀ w, o = Sum.inr w → Q (some (qi w.1)) w.2) → qW X (d + 7) yX12_places cX12_places 7 (some .int) 22 [(0, qr 70), (1, qi x1), (2, qi x2), (3, qi x3), (4, qi x4), (5, qi x5), (6, qi x6)] [] S Q := by
  intro n
  induction n with
  | zero =>
    intro x1 x2 x3 x4 x5 x6 S o h
    simp [M_places_L22] at h
  | succ n ih =>
    intro x1 x2 x3 x4 x5 x6 S o h hE hR
    rw [M_places_L22] at h
    refine q_iload dX12_places_22 rfl rfl ?_
    refine q_aload_n dX12_places_24 rfl rfl ?_
    refine q_iload_n dX12_places_25 rfl rfl ?_
    refine q_iconst dX12_places_26 rfl rfl ?_
    obtain ⟨q3047, h3048, h⟩ := Option.bind_eq_some_iff.mp h
    refine q_callVi (as := [qi x1, qi 0]) (c := 70) dX12_places_27 ml_X12_316 rfl rfl (hL 70 (by decide)) sh_70 rfl rfl (Nat.le_of_ble_eq_true rfl) (M_of_ok hL (d + 6) x1 0 _ _ h3048) rfl ?_
    refine q_iadd dX12_places_30 rfl ?_
    refine q_aload_n dX12_places_31 rfl rfl ?_
    refine q_getA dX12_places_32 fl_X12_13 (hL 70 (by decide)) sh_70 (by decide) rfl rfl ?_
    refine q_iconst dX12_places_35 rfl rfl ?_
    refine q_iaload dX12_places_36 (hL 72 (by decide)) sh_72 (by decide) (by decide) rfl ?_
    obtain ⟨c3049, h⟩ := qk_some h
    obtain ⟨c3050, h⟩ := qk_some h
    refine q_icmp_gt (tgt := 83) dX12_places_37 (by decide) rfl (qRb_R c3049) (qRb_R c3050) (fun g => ?_) (fun g => ?_)
    · rw [if_pos (show (q3047.2 72 0) < (x6 + q3047.1) from g)] at h
      cases h
      exact q_pick [4, 5] rfl (hE _ rfl)
    · rw [if_neg (show ¬ ((q3047.2 72 0) < (x6 + q3047.1)) from g)] at h
      refine q_aload_n dX12_places_40 rfl rfl ?_
      refine q_iload_n dX12_places_41 rfl rfl ?_
      refine q_iload dX12_places_42 rfl rfl ?_
      obtain ⟨c3051, h⟩ := qk_some h
      refine q_i2l dX12_places_44 (qRb_R c3051) rfl ?_
      refine q_iload_n dX12_places_45 rfl rfl ?_
      obtain ⟨c3052, h⟩ := qk_some h
      refine q_i2l dX12_places_46 (qRb_R c3052) rfl ?_
      refine q_iload_n dX12_places_47 rfl rfl ?_
      obtain ⟨q3053, h3054, h⟩ := Option.bind_eq_some_iff.mp h
      refine q_callVi (as := [qi x1, ql x6, ql x2, qi x3]) (c := 70) dX12_places_48 ml_X12_390 rfl rfl (hL 70 (by decide)) sh_70 rfl rfl (Nat.le_of_ble_eq_true rfl) (M_lawOf_ok hL d x1 x6 x2 x3 _ _ h3054) rfl ?_
      obtain ⟨c3055, h⟩ := qk_some h
      refine q_if_eq (tgt := 57) dX12_places_51 (by decide) rfl (qRb_R c3055)  (fun g => ?_) (fun g => ?_)
      · rw [if_pos (show q3053.1 = 0 from g)] at h
        refine q_iload dX12_places_57 rfl rfl ?_
        refine q_iload dX12_places_59 rfl rfl ?_
        obtain ⟨c3056, h⟩ := qk_some h
        obtain ⟨c3057, h⟩ := qk_some h
        refine q_icmp_ne (tgt := 67) dX12_places_61 (by decide) rfl (qRb_R c3056) (qRb_R c3057) (fun g => ?_) (fun g => ?_)
        · rw [if_neg (show ¬ (x5 = x4) from g)] at h
          refine q_iload dX12_places_67 rfl rfl ?_
          refine q_iconst dX12_places_69 rfl rfl ?_
          refine q_iadd dX12_places_70 rfl ?_
          refine q_istore (lv' := [(5, qi (x5 + 1)), (0, qr 70), (1, qi x1), (2, qi x2), (3, qi x3), (4, qi x4), (6, qi x6)]) dX12_places_71 (by decide) rfl rfl ?_
          refine q_iload dX12_places_73 rfl rfl ?_
          refine q_bipush dX12_places_75 (by decide) rfl ?_
          refine q_iadd dX12_places_77 rfl ?_
          refine q_istore (lv' := [(6, qi (x6 + 10)), (5, qi (x5 + 1)), (0, qr 70), (1, qi x1), (2, qi x2), (3, qi x3), (4, qi x4)]) dX12_places_78 (by decide) rfl rfl ?_
          refine q_goto (pc' := 22) dX12_places_80 (by decide) ?_
          exact q_pick [2, 3, 4, 5, 6, 1, 0] rfl (ih x1 x2 x3 x4 (x5 + 1) (x6 + 10) _ _ h hE hR)
        · rw [if_pos (show x5 = x4 from g)] at h
          refine q_iload dX12_places_64 rfl rfl ?_
          cases h
          exact q_ireturn dX12_places_66 rfl (hR _ rfl)
      · rw [if_neg (show ¬ (q3053.1 = 0) from g)] at h
        refine q_goto (pc' := 73) dX12_places_54 (by decide) ?_
        refine q_iload dX12_places_73 rfl rfl ?_
        refine q_bipush dX12_places_75 (by decide) rfl ?_
        refine q_iadd dX12_places_77 rfl ?_
        refine q_istore (lv' := [(6, qi (x6 + 10)), (0, qr 70), (1, qi x1), (2, qi x2), (3, qi x3), (4, qi x4), (5, qi x5)]) dX12_places_78 (by decide) rfl rfl ?_
        refine q_goto (pc' := 22) dX12_places_80 (by decide) ?_
        exact q_pick [1, 2, 3, 4, 5, 6, 0] rfl (ih x1 x2 x3 x4 x5 (x6 + 10) _ _ h hE hR)
set_option maxRecDepth 20000 in
theorem M_places_ok {X : qX} (hL : ∀ c, c < 93 → c ∈ qLs X) (d : Nat) (a1 : Int) (a2 : Int) (a3 : Int) (a4 : Int) (S : qSto) (o : (Int × qSto)) (h : M_places a1 a2 a3 a4 S = some o) (Q : Option qV → qSto → Prop) (hQ : Q (some (qi o.1)) o.2) : qC X (d + 7) yX12_places cX12_places 7 (some .int) [qr 70, qi a1, qi a2, qi a3, qi a4] S Q := by
  refine q_entry (lv := [(0, qr 70), (1, qi a1), (2, qi a2), (3, qi a3), (4, qi a4)]) pn_X12 (Nat.le_of_ble_eq_true rfl) rfl ?_
  unfold M_places at h
  refine q_aload_n dX12_places_0 rfl rfl ?_
  refine q_iload_n dX12_places_1 rfl rfl ?_
  obtain ⟨q3043, h3044, h⟩ := Option.bind_eq_some_iff.mp h
  refine q_callVi (as := [qi a1]) (c := 70) dX12_places_2 ml_X12_297 rfl rfl (hL 70 (by decide)) sh_70 rfl rfl (Nat.le_of_ble_eq_true rfl) (M_isShip_ok hL (d + 5) a1 _ _ h3044) rfl ?_
  obtain ⟨c3045, h⟩ := qk_some h
  refine q_if_eq (tgt := 14) dX12_places_5 (by decide) rfl (qRb_R c3045)  (fun g => ?_) (fun g => ?_)
  · rw [if_pos (show q3043.1 = 0 from g)] at h
    refine q_iconst dX12_places_14 rfl rfl ?_
    cases h
    exact q_ireturn dX12_places_15 rfl hQ
  · rw [if_neg (show ¬ (q3043.1 = 0) from g)] at h
    refine q_iload dX12_places_8 rfl rfl ?_
    refine q_iconst dX12_places_10 rfl rfl ?_
    obtain ⟨c3046, h⟩ := qk_some h
    refine q_icmp_ge (tgt := 16) dX12_places_11 (by decide) rfl (qRb_R c3046) ⟨by decide, by decide⟩ (fun g => ?_) (fun g => ?_)
    · rw [if_pos (show (-1) ≤ a4 from g)] at h
      refine q_iconst dX12_places_16 rfl rfl ?_
      refine q_istore (lv' := [(5, qi 0), (0, qr 70), (1, qi a1), (2, qi a2), (3, qi a3), (4, qi a4)]) dX12_places_17 (by decide) rfl rfl ?_
      refine q_iconst dX12_places_19 rfl rfl ?_
      refine q_istore (lv' := [(6, qi 0), (5, qi 0), (0, qr 70), (1, qi a1), (2, qi a2), (3, qi a3), (4, qi a4)]) dX12_places_20 (by decide) rfl rfl ?_
      obtain ⟨q3058, h3059, h⟩ := Option.bind_eq_some_iff.mp h
      refine q_pick [2, 3, 4, 5, 6, 1, 0] rfl (M_places_L22_ok hL d qF a1 a2 a3 a4 0 0 _ _ h3059 (fun t3060 e3915 => ?_) (fun w e3915 => ?_))
      · subst e3915
        simp only [Sum.elim_inl] at h
        refine q_iload dX12_places_83 rfl rfl ?_
        refine q_iconst dX12_places_85 rfl rfl ?_
        obtain ⟨c3061, h⟩ := qk_some h
        refine q_icmp_ne (tgt := 94) dX12_places_86 (by decide) rfl (qRb_R c3061) ⟨by decide, by decide⟩ (fun g => ?_) (fun g => ?_)
        · rw [if_neg (show ¬ (a4 = (-1)) from g)] at h
          refine q_bipush dX12_places_94 (by decide) rfl ?_
          cases h
          exact q_ireturn dX12_places_96 rfl hQ
        · rw [if_pos (show a4 = (-1) from g)] at h
          refine q_iload dX12_places_89 rfl rfl ?_
          refine q_goto (pc' := 96) dX12_places_91 (by decide) ?_
          cases h
          exact q_ireturn dX12_places_96 rfl hQ
      · subst e3915
        simp only [Sum.elim_inr] at h
        cases h
        exact hQ
    · rw [if_neg (show ¬ ((-1) ≤ a4) from g)] at h
      refine q_iconst dX12_places_14 rfl rfl ?_
      cases h
      exact q_ireturn dX12_places_15 rfl hQ
set_option maxRecDepth 20000 in
theorem M_hopeless_L8_ok {X : qX} (hL : ∀ c, c < 93 → c ∈ qLs X) (d : Nat) {Q : Option qV → qSto → Prop} : ∀ (n : Nat) (x1 : Int) (S : qSto) (o : qSto), M_hopeless_L8 n x1 S = some o → (qW X (d + 8) yX12_hopeless cX12_hopeless 3 (some .int) 27 [(0, qr 70)] [] o Q) → qW X (d + 8) yX12_hopeless cX12_hopeless 3 (some .int) 8 [(0, qr 70), (1, qi x1)] [] S Q := by
  intro n
  induction n with
  | zero =>
    intro x1 S o h
    simp [M_hopeless_L8] at h
  | succ n ih =>
    intro x1 S o h hE
    rw [M_hopeless_L8] at h
    refine q_iload_n dX12_hopeless_8 rfl rfl ?_
    refine q_bipush dX12_hopeless_9 (by decide) rfl ?_
    obtain ⟨c3064, h⟩ := qk_some h
    refine q_icmp_ge (tgt := 27) dX12_hopeless_11 (by decide) rfl (qRb_R c3064) ⟨by decide, by decide⟩ (fun g => ?_) (fun g => ?_)
    · rw [if_pos (show 14 ≤ x1 from g)] at h
      cases h
      exact q_pick [0] rfl (hE)
    · rw [if_neg (show ¬ (14 ≤ x1) from g)] at h
      refine q_aload_n dX12_hopeless_14 rfl rfl ?_
      refine q_getA dX12_hopeless_15 fl_X12_42 (hL 70 (by decide)) sh_70 (by decide) rfl rfl ?_
      refine q_iload_n dX12_hopeless_18 rfl rfl ?_
      refine q_iconst dX12_hopeless_19 rfl rfl ?_
      obtain ⟨c3065, h⟩ := qk_some h
      refine q_iastore dX12_hopeless_20 (hL 80 (by decide)) sh_80 (qIx_0 c3065) (qIx_1 c3065) rfl ?_
      refine q_iinc (lv' := [(1, qi (x1 + 1)), (0, qr 70)]) dX12_hopeless_21 (by decide) rfl rfl rfl ?_
      refine q_goto (pc' := 8) dX12_hopeless_24 (by decide) ?_
      exact q_pick [1, 0] rfl (ih (x1 + 1) _ _ h hE)
set_option maxRecDepth 20000 in
theorem M_hopeless_L31_ok {X : qX} (hL : ∀ c, c < 93 → c ∈ qLs X) (d : Nat) {Q : Option qV → qSto → Prop} : ∀ (n : Nat) (x1 : Int) (x2 : Int) (S : qSto) (o : (Int × qSto)), M_hopeless_L31 n x1 x2 S = some o → (qW X (d + 8) yX12_hopeless cX12_hopeless 3 (some .int) 67 [(0, qr 70), (1, qi o.1)] [] o.2 Q) → qW X (d + 8) yX12_hopeless cX12_hopeless 3 (some .int) 31 [(0, qr 70), (1, qi x1), (2, qi x2)] [] S Q := by
  intro n
  induction n with
  | zero =>
    intro x1 x2 S o h
    simp [M_hopeless_L31] at h
  | succ n ih =>
    intro x1 x2 S o h hE
    rw [M_hopeless_L31] at h
    refine q_iload_n dX12_hopeless_31 rfl rfl ?_
    refine q_aload_n dX12_hopeless_32 rfl rfl ?_
    refine q_getA dX12_hopeless_33 fl_X12_13 (hL 70 (by decide)) sh_70 (by decide) rfl rfl ?_
    refine q_bipush dX12_hopeless_36 (by decide) rfl ?_
    refine q_iaload dX12_hopeless_38 (hL 72 (by decide)) sh_72 (by decide) (by decide) rfl ?_
    obtain ⟨c3068, h⟩ := qk_some h
    obtain ⟨c3069, h⟩ := qk_some h
    refine q_icmp_ge (tgt := 67) dX12_hopeless_39 (by decide) rfl (qRb_R c3068) (qRb_R c3069) (fun g => ?_) (fun g => ?_)
    · rw [if_pos (show (S 72 9) ≤ x2 from g)] at h
      cases h
      exact q_pick [0, 1] rfl (hE)
    · rw [if_neg (show ¬ ((S 72 9) ≤ x2) from g)] at h
      refine q_aload_n dX12_hopeless_42 rfl rfl ?_
      refine q_iload_n dX12_hopeless_43 rfl rfl ?_
      obtain ⟨q3070, h3071, h⟩ := Option.bind_eq_some_iff.mp h
      refine q_callVi (as := [qi x2]) (c := 70) dX12_hopeless_44 ml_X12_408 rfl rfl (hL 70 (by decide)) sh_70 rfl rfl (Nat.le_of_ble_eq_true rfl) (M_seeksItself_ok hL d x2 _ _ h3071) rfl ?_
      refine q_iconst dX12_hopeless_47 rfl rfl ?_
      refine q_jn (G := fun (t3073 : Int) => qW X (d + 8) yX12_hopeless cX12_hopeless 3 (some .int) 60 [(0, qr 70), (2, qi x2)] [qi t3073] q3070.2 Q) h (fun t3073 h => ?_) (fun t3073 h hk3916 => ?_)
      · try dsimp only at h
        refine q_istore_n (lv' := [(1, qi t3073), (0, qr 70), (2, qi x2)]) dX12_hopeless_60 (by decide) rfl rfl ?_
        refine q_iinc (lv' := [(2, qi (x2 + 1)), (1, qi t3073), (0, qr 70)]) dX12_hopeless_61 (by decide) rfl rfl rfl ?_
        refine q_goto (pc' := 31) dX12_hopeless_64 (by decide) ?_
        exact q_pick [2, 1, 0] rfl (ih t3073 (x2 + 1) _ _ h hE)
      · skip
        obtain ⟨c3072, h⟩ := qk_some h
        refine q_icmp_ne (tgt := 59) dX12_hopeless_48 (by decide) rfl (qRb_R c3072) ⟨by decide, by decide⟩ (fun g => ?_) (fun g => ?_)
        · rw [if_neg (show ¬ (q3070.1 = (-1)) from g)] at h
          refine q_iload_n dX12_hopeless_59 rfl rfl ?_
          cases h
          exact q_pick [0, 2] rfl hk3916
        · rw [if_pos (show q3070.1 = (-1) from g)] at h
          refine q_iload_n dX12_hopeless_51 rfl rfl ?_
          refine q_iconst dX12_hopeless_52 rfl rfl ?_
          refine q_iload_n dX12_hopeless_53 rfl rfl ?_
          refine q_ishl dX12_hopeless_54 rfl ?_
          refine q_ior dX12_hopeless_55 rfl ?_
          refine q_goto (pc' := 60) dX12_hopeless_56 (by decide) ?_
          cases h
          exact q_pick [0, 2] rfl hk3916
set_option maxRecDepth 20000 in
theorem M_hopeless_ok {X : qX} (hL : ∀ c, c < 93 → c ∈ qLs X) (d : Nat) (S : qSto) (o : (Int × qSto)) (h : M_hopeless S = some o) (Q : Option qV → qSto → Prop) (hQ : Q (some (qi o.1)) o.2) : qC X (d + 8) yX12_hopeless cX12_hopeless 3 (some .int) [qr 70] S Q := by
  refine q_entry (lv := [(0, qr 70)]) pn_X12 (Nat.le_of_ble_eq_true rfl) rfl ?_
  unfold M_hopeless at h
  refine q_aload_n dX12_hopeless_0 rfl rfl ?_
  refine q_bipush dX12_hopeless_1 (by decide) rfl ?_
  obtain ⟨q3062, h3063, h⟩ := Option.bind_eq_some_iff.mp h
  refine q_callVv (as := [qi 16]) (c := 70) dX12_hopeless_3 ml_X12_414 rfl rfl (hL 70 (by decide)) sh_70 rfl rfl (Nat.le_of_ble_eq_true rfl) (M_puts_ok hL (d + 7) 16 _ _ h3063) rfl ?_
  refine q_iconst dX12_hopeless_6 rfl rfl ?_
  refine q_istore_n (lv' := [(1, qi 0), (0, qr 70)]) dX12_hopeless_7 (by decide) rfl rfl ?_
  obtain ⟨q3066, h3067, h⟩ := Option.bind_eq_some_iff.mp h
  refine q_pick [1, 0] rfl (M_hopeless_L8_ok hL d qF 0 _ _ h3067 ?_)
  refine q_iconst dX12_hopeless_27 rfl rfl ?_
  refine q_istore_n (lv' := [(1, qi 0), (0, qr 70)]) dX12_hopeless_28 (by decide) rfl rfl ?_
  refine q_iconst dX12_hopeless_29 rfl rfl ?_
  refine q_istore_n (lv' := [(2, qi 0), (1, qi 0), (0, qr 70)]) dX12_hopeless_30 (by decide) rfl rfl ?_
  obtain ⟨q3074, h3075, h⟩ := Option.bind_eq_some_iff.mp h
  refine q_pick [2, 1, 0] rfl (M_hopeless_L31_ok hL d qF 0 0 _ _ h3075 ?_)
  refine q_aload_n dX12_hopeless_67 rfl rfl ?_
  refine q_bipush dX12_hopeless_68 (by decide) rfl ?_
  obtain ⟨q3076, h3077, h⟩ := Option.bind_eq_some_iff.mp h
  refine q_callVv (as := [qi 16]) (c := 70) dX12_hopeless_70 ml_X12_426 rfl rfl (hL 70 (by decide)) sh_70 rfl rfl (Nat.le_of_ble_eq_true rfl) (M_takes_ok hL (d + 3) 16 _ _ h3077) rfl ?_
  refine q_iload_n dX12_hopeless_73 rfl rfl ?_
  cases h
  exact q_ireturn dX12_hopeless_74 rfl hQ
set_option maxRecDepth 20000 in
theorem M_slack_L25_ok {X : qX} (hL : ∀ c, c < 93 → c ∈ qLs X) (d : Nat) {Q : Option qV → qSto → Prop} : ∀ (n : Nat) (x1 : Int) (x2 : Int) (S : qSto) (o : (qSto ⊕ (Int × qSto))), M_slack_L25 n x1 x2 S = some o → (∀ t, o = Sum.inl t → qW X (d + 7) yX12_slack cX12_slack 3 (some .int) 73 [] [] t Q) → (∀ w, o = Sum.inr w → Q (some (qi w.1)) w.2) → qW X (d + 7) yX12_slack cX12_slack 3 (some .int) 25 [(0, qr 70), (1, qi x1), (2, qi x2)] [] S Q := by
  intro n
  induction n with
  | zero =>
    intro x1 x2 S o h
    simp [M_slack_L25] at h
  | succ n ih =>
    intro x1 x2 S o h hE hR
    rw [M_slack_L25] at h
    refine q_iload_n dX12_slack_25 rfl rfl ?_
    refine q_aload_n dX12_slack_26 rfl rfl ?_
    refine q_getA dX12_slack_27 fl_X12_39 (hL 70 (by decide)) sh_70 (by decide) rfl rfl ?_
    refine q_iload_n dX12_slack_30 rfl rfl ?_
    obtain ⟨c3084, h⟩ := qk_some h
    refine q_iaload dX12_slack_31 (hL 79 (by decide)) sh_79 (qIx_0 c3084) (qIx_1 c3084) rfl ?_
    obtain ⟨c3085, h⟩ := qk_some h
    obtain ⟨c3086, h⟩ := qk_some h
    refine q_icmp_le (tgt := 73) dX12_slack_32 (by decide) rfl (qRb_R c3085) (qRb_R c3086) (fun g => ?_) (fun g => ?_)
    · rw [if_pos (show x2 ≤ (S 79 (Int.toNat x1)) from g)] at h
      cases h
      exact q_pick [] rfl (hE _ rfl)
    · rw [if_neg (show ¬ (x2 ≤ (S 79 (Int.toNat x1))) from g)] at h
      refine q_aload_n dX12_slack_35 rfl rfl ?_
      refine q_iload_n dX12_slack_36 rfl rfl ?_
      refine q_aload_n dX12_slack_37 rfl rfl ?_
      refine q_getA dX12_slack_38 fl_X12_36 (hL 70 (by decide)) sh_70 (by decide) rfl rfl ?_
      refine q_iload_n dX12_slack_41 rfl rfl ?_
      obtain ⟨c3087, h⟩ := qk_some h
      refine q_iaload dX12_slack_42 (hL 78 (by decide)) sh_78 (qIx_0 c3087) (qIx_1 c3087) rfl ?_
      obtain ⟨c3088, h⟩ := qk_some h
      refine q_i2l dX12_slack_43 (qRb_R c3088) rfl ?_
      refine q_iload_n dX12_slack_44 rfl rfl ?_
      obtain ⟨c3089, h⟩ := qk_some h
      refine q_i2l dX12_slack_45 (qRb_R c3089) rfl ?_
      refine q_aload_n dX12_slack_46 rfl rfl ?_
      refine q_getA dX12_slack_47 fl_X12_42 (hL 70 (by decide)) sh_70 (by decide) rfl rfl ?_
      refine q_iload_n dX12_slack_50 rfl rfl ?_
      obtain ⟨c3090, h⟩ := qk_some h
      refine q_iaload dX12_slack_51 (hL 80 (by decide)) sh_80 (qIx_0 c3090) (qIx_1 c3090) rfl ?_
      obtain ⟨q3091, h3092, h⟩ := Option.bind_eq_some_iff.mp h
      refine q_callVi (as := [qi x1, ql (S 78 (Int.toNat x1)), ql x2, qi (S 80 (Int.toNat x1))]) (c := 70) dX12_slack_52 ml_X12_390 rfl rfl (hL 70 (by decide)) sh_70 rfl rfl (Nat.le_of_ble_eq_true rfl) (M_lawOf_ok hL d x1 (S 78 (Int.toNat x1)) x2 (S 80 (Int.toNat x1)) _ _ h3092) rfl ?_
      obtain ⟨c3093, h⟩ := qk_some h
      refine q_if_ne (tgt := 67) dX12_slack_55 (by decide) rfl (qRb_R c3093)  (fun g => ?_) (fun g => ?_)
      · rw [if_neg (show ¬ (q3091.1 = 0) from g)] at h
        refine q_iinc (lv' := [(2, qi (x2 + (-1))), (0, qr 70), (1, qi x1)]) dX12_slack_67 (by decide) rfl rfl rfl ?_
        refine q_goto (pc' := 25) dX12_slack_70 (by decide) ?_
        exact q_pick [1, 2, 0] rfl (ih x1 (x2 + (-1)) _ _ h hE hR)
      · rw [if_pos (show q3091.1 = 0 from g)] at h
        refine q_iload_n dX12_slack_58 rfl rfl ?_
        refine q_aload_n dX12_slack_59 rfl rfl ?_
        refine q_getA dX12_slack_60 fl_X12_39 (hL 70 (by decide)) sh_70 (by decide) rfl rfl ?_
        refine q_iload_n dX12_slack_63 rfl rfl ?_
        obtain ⟨c3094, h⟩ := qk_some h
        refine q_iaload dX12_slack_64 (hL 79 (by decide)) sh_79 (qIx_0 c3094) (qIx_1 c3094) rfl ?_
        refine q_isub dX12_slack_65 rfl ?_
        cases h
        exact q_ireturn dX12_slack_66 rfl (hR _ rfl)
set_option maxRecDepth 20000 in
theorem M_slack_ok {X : qX} (hL : ∀ c, c < 93 → c ∈ qLs X) (d : Nat) (a1 : Int) (S : qSto) (o : (Int × qSto)) (h : M_slack a1 S = some o) (Q : Option qV → qSto → Prop) (hQ : Q (some (qi o.1)) o.2) : qC X (d + 7) yX12_slack cX12_slack 3 (some .int) [qr 70, qi a1] S Q := by
  refine q_entry (lv := [(0, qr 70), (1, qi a1)]) pn_X12 (Nat.le_of_ble_eq_true rfl) rfl ?_
  unfold M_slack at h
  refine q_aload_n dX12_slack_0 rfl rfl ?_
  refine q_iload_n dX12_slack_1 rfl rfl ?_
  obtain ⟨q3078, h3079, h⟩ := Option.bind_eq_some_iff.mp h
  refine q_callVi (as := [qi a1]) (c := 70) dX12_slack_2 ml_X12_297 rfl rfl (hL 70 (by decide)) sh_70 rfl rfl (Nat.le_of_ble_eq_true rfl) (M_isShip_ok hL (d + 5) a1 _ _ h3079) rfl ?_
  obtain ⟨c3080, h⟩ := qk_some h
  refine q_if_ne (tgt := 10) dX12_slack_5 (by decide) rfl (qRb_R c3080)  (fun g => ?_) (fun g => ?_)
  · rw [if_neg (show ¬ (q3078.1 = 0) from g)] at h
    refine q_aload_n dX12_slack_10 rfl rfl ?_
    refine q_iload_n dX12_slack_11 rfl rfl ?_
    obtain ⟨q3081, h3082, h⟩ := Option.bind_eq_some_iff.mp h
    refine q_callVi (as := [qi a1]) (c := 70) dX12_slack_12 ml_X12_326 rfl rfl (hL 70 (by decide)) sh_70 rfl rfl (Nat.le_of_ble_eq_true rfl) (M_stays_ok hL (d + 6) a1 _ _ h3082) rfl ?_
    obtain ⟨c3083, h⟩ := qk_some h
    refine q_if_ne (tgt := 21) dX12_slack_15 (by decide) rfl (qRb_R c3083)  (fun g => ?_) (fun g => ?_)
    · rw [if_neg (show ¬ (q3081.1 = 0) from g)] at h
      refine q_sipush dX12_slack_21 (by decide) rfl ?_
      refine q_istore_n (lv' := [(2, qi 335), (0, qr 70), (1, qi a1)]) dX12_slack_24 (by decide) rfl rfl ?_
      obtain ⟨q3095, h3096, h⟩ := Option.bind_eq_some_iff.mp h
      refine q_pick [1, 2, 0] rfl (M_slack_L25_ok hL d qF a1 335 _ _ h3096 (fun t3097 e3917 => ?_) (fun w e3917 => ?_))
      · subst e3917
        simp only [Sum.elim_inl] at h
        refine q_iconst dX12_slack_73 rfl rfl ?_
        cases h
        exact q_ireturn dX12_slack_74 rfl hQ
      · subst e3917
        simp only [Sum.elim_inr] at h
        cases h
        exact hQ
    · rw [if_pos (show q3081.1 = 0 from g)] at h
      refine q_bipush dX12_slack_18 (by decide) rfl ?_
      cases h
      exact q_ireturn dX12_slack_20 rfl hQ
  · rw [if_pos (show q3078.1 = 0 from g)] at h
    refine q_iconst dX12_slack_8 rfl rfl ?_
    cases h
    exact q_ireturn dX12_slack_9 rfl hQ
set_option maxRecDepth 20000 in
theorem M_along_L49_ok {X : qX} (hL : ∀ c, c < 93 → c ∈ qLs X) (d : Nat) {Q : Option qV → qSto → Prop} : ∀ (n : Nat) (x1 : Int) (x3 : Int) (x4 : Int) (S : qSto) (o : (Int × qSto)), M_along_L49 n x1 x3 x4 S = some o → (qW X (d + 7) yX12_along cX12_along 5 (some .int) 84 [(4, qi o.1)] [] o.2 Q) → qW X (d + 7) yX12_along cX12_along 5 (some .int) 49 [(0, qr 70), (1, qi x1), (3, qi x3), (4, qi x4)] [] S Q := by
  intro n
  induction n with
  | zero =>
    intro x1 x3 x4 S o h
    simp [M_along_L49] at h
  | succ n ih =>
    intro x1 x3 x4 S o h hE
    rw [M_along_L49] at h
    refine q_aload_n dX12_along_49 rfl rfl ?_
    refine q_iload_n dX12_along_50 rfl rfl ?_
    refine q_iload dX12_along_51 rfl rfl ?_
    refine q_iload_n dX12_along_53 rfl rfl ?_
    refine q_iadd dX12_along_54 rfl ?_
    obtain ⟨c3111, h⟩ := qk_some h
    refine q_i2l dX12_along_55 (qRb_R c3111) rfl ?_
    refine q_aload_n dX12_along_56 rfl rfl ?_
    refine q_getA dX12_along_57 fl_X12_39 (hL 70 (by decide)) sh_70 (by decide) rfl rfl ?_
    refine q_iload_n dX12_along_60 rfl rfl ?_
    obtain ⟨c3112, h⟩ := qk_some h
    refine q_iaload dX12_along_61 (hL 79 (by decide)) sh_79 (qIx_0 c3112) (qIx_1 c3112) rfl ?_
    obtain ⟨c3113, h⟩ := qk_some h
    refine q_i2l dX12_along_62 (qRb_R c3113) rfl ?_
    refine q_aload_n dX12_along_63 rfl rfl ?_
    refine q_getA dX12_along_64 fl_X12_42 (hL 70 (by decide)) sh_70 (by decide) rfl rfl ?_
    refine q_iload_n dX12_along_67 rfl rfl ?_
    obtain ⟨c3114, h⟩ := qk_some h
    refine q_iaload dX12_along_68 (hL 80 (by decide)) sh_80 (qIx_0 c3114) (qIx_1 c3114) rfl ?_
    obtain ⟨q3115, h3116, h⟩ := Option.bind_eq_some_iff.mp h
    refine q_callVi (as := [qi x1, ql (x4 + x3), ql (S 79 (Int.toNat x1)), qi (S 80 (Int.toNat x1))]) (c := 70) dX12_along_69 ml_X12_390 rfl rfl (hL 70 (by decide)) sh_70 rfl rfl (Nat.le_of_ble_eq_true rfl) (M_lawOf_ok hL d x1 (x4 + x3) (S 79 (Int.toNat x1)) (S 80 (Int.toNat x1)) _ _ h3116) rfl ?_
    obtain ⟨c3117, h⟩ := qk_some h
    refine q_if_ne (tgt := 84) dX12_along_72 (by decide) rfl (qRb_R c3117)  (fun g => ?_) (fun g => ?_)
    · rw [if_neg (show ¬ (q3115.1 = 0) from g)] at h
      cases h
      exact q_pick [3] rfl (hE)
    · rw [if_pos (show q3115.1 = 0 from g)] at h
      refine q_iload dX12_along_75 rfl rfl ?_
      refine q_iload_n dX12_along_77 rfl rfl ?_
      refine q_iadd dX12_along_78 rfl ?_
      refine q_istore (lv' := [(4, qi (x4 + x3)), (0, qr 70), (1, qi x1), (3, qi x3)]) dX12_along_79 (by decide) rfl rfl ?_
      refine q_goto (pc' := 49) dX12_along_81 (by decide) ?_
      exact q_pick [1, 2, 3, 0] rfl (ih x1 x3 (x4 + x3) _ _ h hE)
set_option maxRecDepth 20000 in
theorem M_along_ok {X : qX} (hL : ∀ c, c < 93 → c ∈ qLs X) (d : Nat) (a1 : Int) (a2 : Int) (S : qSto) (o : (Int × qSto)) (h : M_along a1 a2 S = some o) (Q : Option qV → qSto → Prop) (hQ : Q (some (qi o.1)) o.2) : qC X (d + 7) yX12_along cX12_along 5 (some .int) [qr 70, qi a1, qi a2] S Q := by
  refine q_entry (lv := [(0, qr 70), (1, qi a1), (2, qi a2)]) pn_X12 (Nat.le_of_ble_eq_true rfl) rfl ?_
  unfold M_along at h
  refine q_aload_n dX12_along_0 rfl rfl ?_
  refine q_iload_n dX12_along_1 rfl rfl ?_
  obtain ⟨q3098, h3099, h⟩ := Option.bind_eq_some_iff.mp h
  refine q_callVi (as := [qi a1]) (c := 70) dX12_along_2 ml_X12_297 rfl rfl (hL 70 (by decide)) sh_70 rfl rfl (Nat.le_of_ble_eq_true rfl) (M_isShip_ok hL (d + 5) a1 _ _ h3099) rfl ?_
  obtain ⟨c3100, h⟩ := qk_some h
  refine q_if_eq (tgt := 18) dX12_along_5 (by decide) rfl (qRb_R c3100)  (fun g => ?_) (fun g => ?_)
  · rw [if_pos (show q3098.1 = 0 from g)] at h
    refine q_iconst dX12_along_18 rfl rfl ?_
    cases h
    exact q_ireturn dX12_along_19 rfl hQ
  · rw [if_neg (show ¬ (q3098.1 = 0) from g)] at h
    refine q_iload_n dX12_along_8 rfl rfl ?_
    obtain ⟨c3101, h⟩ := qk_some h
    refine q_i2l dX12_along_9 (qRb_R c3101) rfl ?_
    refine q_lconst (v := 0) dX12_along_10 rfl rfl ?_
    refine q_lconst (v := 1) dX12_along_11 rfl rfl ?_
    obtain ⟨q3102, h3103, h⟩ := Option.bind_eq_some_iff.mp h
    refine q_callSi (as := [ql a2, ql 0, ql 1]) dX12_along_12 ml_X12_99 rfl rfl (Nat.le_of_ble_eq_true rfl) (M_in_ok hL (d + 6) a2 0 1 _ _ h3103) rfl ?_
    obtain ⟨c3104, h⟩ := qk_some h
    refine q_if_ne (tgt := 20) dX12_along_15 (by decide) rfl (qRb_R c3104)  (fun g => ?_) (fun g => ?_)
    · rw [if_neg (show ¬ (q3102.1 = 0) from g)] at h
      refine q_aload_n dX12_along_20 rfl rfl ?_
      refine q_iload_n dX12_along_21 rfl rfl ?_
      obtain ⟨q3105, h3106, h⟩ := Option.bind_eq_some_iff.mp h
      refine q_callVi (as := [qi a1]) (c := 70) dX12_along_22 ml_X12_326 rfl rfl (hL 70 (by decide)) sh_70 rfl rfl (Nat.le_of_ble_eq_true rfl) (M_stays_ok hL (d + 6) a1 _ _ h3106) rfl ?_
      obtain ⟨c3107, h⟩ := qk_some h
      refine q_if_ne (tgt := 31) dX12_along_25 (by decide) rfl (qRb_R c3107)  (fun g => ?_) (fun g => ?_)
      · rw [if_neg (show ¬ (q3105.1 = 0) from g)] at h
        refine q_iload_n dX12_along_31 rfl rfl ?_
        refine q_jn (G := fun (t3109 : Int) => qW X (d + 7) yX12_along cX12_along 5 (some .int) 40 [(0, qr 70), (1, qi a1)] [qi t3109] q3105.2 Q) h (fun t3109 h => ?_) (fun t3109 h hk3918 => ?_)
        · try dsimp only at h
          refine q_istore_n (lv' := [(3, qi t3109), (0, qr 70), (1, qi a1)]) dX12_along_40 (by decide) rfl rfl ?_
          refine q_aload_n dX12_along_41 rfl rfl ?_
          refine q_getA dX12_along_42 fl_X12_36 (hL 70 (by decide)) sh_70 (by decide) rfl rfl ?_
          refine q_iload_n dX12_along_45 rfl rfl ?_
          obtain ⟨c3110, h⟩ := qk_some h
          refine q_iaload dX12_along_46 (hL 78 (by decide)) sh_78 (qIx_0 c3110) (qIx_1 c3110) rfl ?_
          refine q_istore (lv' := [(4, qi (q3105.2 78 (Int.toNat a1))), (3, qi t3109), (0, qr 70), (1, qi a1)]) dX12_along_47 (by decide) rfl rfl ?_
          obtain ⟨q3118, h3119, h⟩ := Option.bind_eq_some_iff.mp h
          refine q_pick [2, 3, 1, 0] rfl (M_along_L49_ok hL d qF a1 t3109 (q3105.2 78 (Int.toNat a1)) _ _ h3119 ?_)
          refine q_iload dX12_along_84 rfl rfl ?_
          cases h
          exact q_ireturn dX12_along_86 rfl hQ
        · skip
          obtain ⟨c3108, h⟩ := qk_some h
          refine q_if_ne (tgt := 39) dX12_along_32 (by decide) rfl (qRb_R c3108)  (fun g => ?_) (fun g => ?_)
          · rw [if_neg (show ¬ (a2 = 0) from g)] at h
            refine q_iconst dX12_along_39 rfl rfl ?_
            cases h
            exact q_pick [0, 1] rfl hk3918
          · rw [if_pos (show a2 = 0 from g)] at h
            refine q_iconst dX12_along_35 rfl rfl ?_
            refine q_goto (pc' := 40) dX12_along_36 (by decide) ?_
            cases h
            exact q_pick [0, 1] rfl hk3918
      · rw [if_pos (show q3105.1 = 0 from g)] at h
        refine q_bipush dX12_along_28 (by decide) rfl ?_
        cases h
        exact q_ireturn dX12_along_30 rfl hQ
    · rw [if_pos (show q3102.1 = 0 from g)] at h
      refine q_iconst dX12_along_18 rfl rfl ?_
      cases h
      exact q_ireturn dX12_along_19 rfl hQ
set_option maxRecDepth 20000 in
theorem M_first_ok {X : qX} (hL : ∀ c, c < 93 → c ∈ qLs X) (d : Nat) (a0 : Int) (a1 : Int) (a2 : Int) (S : qSto) (o : (Int × qSto)) (h : M_first a0 a1 a2 S = some o) (Q : Option qV → qSto → Prop) (hQ : Q (some (qi o.1)) o.2) : qC X d yX12_first cX12_first 3 (some .int) [qi a0, qi a1, qi a2] S Q := by
  refine q_entry (lv := [(0, qi a0), (1, qi a1), (2, qi a2)]) pn_X12 (Nat.le_of_ble_eq_true rfl) rfl ?_
  unfold M_first at h
  refine q_iload_n dX12_first_0 rfl rfl ?_
  obtain ⟨c3140, h⟩ := qk_some h
  refine q_if_eq (tgt := 8) dX12_first_1 (by decide) rfl (qRb_R c3140)  (fun g => ?_) (fun g => ?_)
  · rw [if_pos (show a0 = 0 from g)] at h
    refine q_iload_n dX12_first_8 rfl rfl ?_
    obtain ⟨c3141, h⟩ := qk_some h
    refine q_if_eq (tgt := 16) dX12_first_9 (by decide) rfl (qRb_R c3141)  (fun g => ?_) (fun g => ?_)
    · rw [if_pos (show a1 = 0 from g)] at h
      refine q_iload_n dX12_first_16 rfl rfl ?_
      cases h
      exact q_ireturn dX12_first_17 rfl hQ
    · rw [if_neg (show ¬ (a1 = 0) from g)] at h
      refine q_iload_n dX12_first_12 rfl rfl ?_
      refine q_goto (pc' := 17) dX12_first_13 (by decide) ?_
      cases h
      exact q_ireturn dX12_first_17 rfl hQ
  · rw [if_neg (show ¬ (a0 = 0) from g)] at h
    refine q_iload_n dX12_first_4 rfl rfl ?_
    refine q_goto (pc' := 17) dX12_first_5 (by decide) ?_
    cases h
    exact q_ireturn dX12_first_17 rfl hQ
set_option maxRecDepth 20000 in
theorem M_compares_ok {X : qX} (hL : ∀ c, c < 93 → c ∈ qLs X) (d : Nat) (a1 : Int) (a2 : Int) (a3 : Int) (S : qSto) (o : (Int × qSto)) (h : M_compares a1 a2 a3 S = some o) (Q : Option qV → qSto → Prop) (hQ : Q (some (qi o.1)) o.2) : qC X (d + 1) yX12_compares cX12_compares 6 (some .int) [qr 70, qi a1, qi a2, qi a3] S Q := by
  refine q_entry (lv := [(0, qr 70), (1, qi a1), (2, qi a2), (3, qi a3)]) pn_X12 (Nat.le_of_ble_eq_true rfl) rfl ?_
  unfold M_compares at h
  refine q_aload_n dX12_compares_0 rfl rfl ?_
  refine q_iload_n dX12_compares_1 rfl rfl ?_
  refine q_bipush dX12_compares_2 (by decide) rfl ?_
  obtain ⟨q3131, h3132, h⟩ := Option.bind_eq_some_iff.mp h
  refine q_callVi (as := [qi a2, qi 6]) (c := 70) dX12_compares_4 ml_X12_316 rfl rfl (hL 70 (by decide)) sh_70 rfl rfl (Nat.le_of_ble_eq_true rfl) (M_of_ok hL d a2 6 _ _ h3132) rfl ?_
  refine q_aload_n dX12_compares_7 rfl rfl ?_
  refine q_iload_n dX12_compares_8 rfl rfl ?_
  refine q_bipush dX12_compares_9 (by decide) rfl ?_
  obtain ⟨q3133, h3134, h⟩ := Option.bind_eq_some_iff.mp h
  refine q_callVi (as := [qi a3, qi 6]) (c := 70) dX12_compares_11 ml_X12_316 rfl rfl (hL 70 (by decide)) sh_70 rfl rfl (Nat.le_of_ble_eq_true rfl) (M_of_ok hL d a3 6 _ _ h3134) rfl ?_
  refine q_isub dX12_compares_14 rfl ?_
  refine q_istore (lv' := [(4, qi (q3131.1 - q3133.1)), (0, qr 70), (1, qi a1), (2, qi a2), (3, qi a3)]) dX12_compares_15 (by decide) rfl rfl ?_
  refine q_aload_n dX12_compares_17 rfl rfl ?_
  refine q_iload_n dX12_compares_18 rfl rfl ?_
  refine q_iconst dX12_compares_19 rfl rfl ?_
  obtain ⟨q3135, h3136, h⟩ := Option.bind_eq_some_iff.mp h
  refine q_callVi (as := [qi a2, qi 4]) (c := 70) dX12_compares_20 ml_X12_316 rfl rfl (hL 70 (by decide)) sh_70 rfl rfl (Nat.le_of_ble_eq_true rfl) (M_of_ok hL d a2 4 _ _ h3136) rfl ?_
  refine q_aload_n dX12_compares_23 rfl rfl ?_
  refine q_iload_n dX12_compares_24 rfl rfl ?_
  refine q_iconst dX12_compares_25 rfl rfl ?_
  obtain ⟨q3137, h3138, h⟩ := Option.bind_eq_some_iff.mp h
  refine q_callVi (as := [qi a3, qi 4]) (c := 70) dX12_compares_26 ml_X12_316 rfl rfl (hL 70 (by decide)) sh_70 rfl rfl (Nat.le_of_ble_eq_true rfl) (M_of_ok hL d a3 4 _ _ h3138) rfl ?_
  refine q_isub dX12_compares_29 rfl ?_
  refine q_istore (lv' := [(5, qi (q3135.1 - q3137.1)), (4, qi (q3131.1 - q3133.1)), (0, qr 70), (1, qi a1), (2, qi a2), (3, qi a3)]) dX12_compares_30 (by decide) rfl rfl ?_
  refine q_iload_n dX12_compares_32 rfl rfl ?_
  obtain ⟨c3139, h⟩ := qk_some h
  by_cases e3919 : a1 = 0
  · rw [if_pos e3919] at h
    refine q_tsw (tgt := 103) dX12_compares_33 (qRb_R c3139) (by decide) (fun g => absurd g (by rw [e3919]; decide)) (fun _ _ => ⟨27, 60, by rw [e3919]; rfl, by decide, ?_⟩)
    refine q_iload dX12_compares_60 rfl rfl ?_
    refine q_iload dX12_compares_62 rfl rfl ?_
    refine q_iload_n dX12_compares_64 rfl rfl ?_
    refine q_iload_n dX12_compares_65 rfl rfl ?_
    refine q_isub dX12_compares_66 rfl ?_
    obtain ⟨q3142, h3143, h⟩ := Option.bind_eq_some_iff.mp h
    refine q_callSi (as := [qi (q3131.1 - q3133.1), qi (q3135.1 - q3137.1), qi (a2 - a3)]) dX12_compares_67 ml_X12_435 rfl rfl (Nat.le_of_ble_eq_true rfl) (M_first_ok hL d (q3131.1 - q3133.1) (q3135.1 - q3137.1) (a2 - a3) _ _ h3143) rfl ?_
    cases h
    exact q_ireturn dX12_compares_70 rfl hQ
  · rw [if_neg e3919] at h
    by_cases e3920 : a1 = 1
    · rw [if_pos e3920] at h
      refine q_tsw (tgt := 103) dX12_compares_33 (qRb_R c3139) (by decide) (fun g => absurd g (by rw [e3920]; decide)) (fun _ _ => ⟨38, 71, by rw [e3920]; rfl, by decide, ?_⟩)
      refine q_iload dX12_compares_71 rfl rfl ?_
      refine q_iload dX12_compares_73 rfl rfl ?_
      refine q_iload_n dX12_compares_75 rfl rfl ?_
      refine q_iload_n dX12_compares_76 rfl rfl ?_
      refine q_isub dX12_compares_77 rfl ?_
      obtain ⟨q3144, h3145, h⟩ := Option.bind_eq_some_iff.mp h
      refine q_callSi (as := [qi (q3135.1 - q3137.1), qi (q3131.1 - q3133.1), qi (a2 - a3)]) dX12_compares_78 ml_X12_435 rfl rfl (Nat.le_of_ble_eq_true rfl) (M_first_ok hL d (q3135.1 - q3137.1) (q3131.1 - q3133.1) (a2 - a3) _ _ h3145) rfl ?_
      cases h
      exact q_ireturn dX12_compares_81 rfl hQ
    · rw [if_neg e3920] at h
      by_cases e3921 : a1 = 2
      · rw [if_pos e3921] at h
        refine q_tsw (tgt := 103) dX12_compares_33 (qRb_R c3139) (by decide) (fun g => absurd g (by rw [e3921]; decide)) (fun _ _ => ⟨49, 82, by rw [e3921]; rfl, by decide, ?_⟩)
        refine q_aload_n dX12_compares_82 rfl rfl ?_
        refine q_iload_n dX12_compares_83 rfl rfl ?_
        refine q_iconst dX12_compares_84 rfl rfl ?_
        obtain ⟨q3146, h3147, h⟩ := Option.bind_eq_some_iff.mp h
        refine q_callVi (as := [qi a2, qi 5]) (c := 70) dX12_compares_85 ml_X12_316 rfl rfl (hL 70 (by decide)) sh_70 rfl rfl (Nat.le_of_ble_eq_true rfl) (M_of_ok hL d a2 5 _ _ h3147) rfl ?_
        refine q_aload_n dX12_compares_88 rfl rfl ?_
        refine q_iload_n dX12_compares_89 rfl rfl ?_
        refine q_iconst dX12_compares_90 rfl rfl ?_
        obtain ⟨q3148, h3149, h⟩ := Option.bind_eq_some_iff.mp h
        refine q_callVi (as := [qi a3, qi 5]) (c := 70) dX12_compares_91 ml_X12_316 rfl rfl (hL 70 (by decide)) sh_70 rfl rfl (Nat.le_of_ble_eq_true rfl) (M_of_ok hL d a3 5 _ _ h3149) rfl ?_
        refine q_isub dX12_compares_94 rfl ?_
        refine q_iload_n dX12_compares_95 rfl rfl ?_
        refine q_iload_n dX12_compares_96 rfl rfl ?_
        refine q_isub dX12_compares_97 rfl ?_
        refine q_iconst dX12_compares_98 rfl rfl ?_
        obtain ⟨q3150, h3151, h⟩ := Option.bind_eq_some_iff.mp h
        refine q_callSi (as := [qi (q3146.1 - q3148.1), qi (a2 - a3), qi 0]) dX12_compares_99 ml_X12_435 rfl rfl (Nat.le_of_ble_eq_true rfl) (M_first_ok hL d (q3146.1 - q3148.1) (a2 - a3) 0 _ _ h3151) rfl ?_
        cases h
        exact q_ireturn dX12_compares_102 rfl hQ
      · rw [if_neg e3921] at h
        refine q_tsw (tgt := 103) dX12_compares_33 (qRb_R c3139) (by decide) (fun _ => ?_) (fun g1 g2 => absurd g1 (by omega))
        refine q_aload_n dX12_compares_103 rfl rfl ?_
        refine q_iload_n dX12_compares_104 rfl rfl ?_
        refine q_iconst dX12_compares_105 rfl rfl ?_
        obtain ⟨q3152, h3153, h⟩ := Option.bind_eq_some_iff.mp h
        refine q_callVi (as := [qi a3, qi 0]) (c := 70) dX12_compares_106 ml_X12_316 rfl rfl (hL 70 (by decide)) sh_70 rfl rfl (Nat.le_of_ble_eq_true rfl) (M_of_ok hL d a3 0 _ _ h3153) rfl ?_
        refine q_aload_n dX12_compares_109 rfl rfl ?_
        refine q_iload_n dX12_compares_110 rfl rfl ?_
        refine q_iconst dX12_compares_111 rfl rfl ?_
        obtain ⟨q3154, h3155, h⟩ := Option.bind_eq_some_iff.mp h
        refine q_callVi (as := [qi a2, qi 0]) (c := 70) dX12_compares_112 ml_X12_316 rfl rfl (hL 70 (by decide)) sh_70 rfl rfl (Nat.le_of_ble_eq_true rfl) (M_of_ok hL d a2 0 _ _ h3155) rfl ?_
        refine q_isub dX12_compares_115 rfl ?_
        refine q_iload_n dX12_compares_116 rfl rfl ?_
        refine q_iload_n dX12_compares_117 rfl rfl ?_
        refine q_isub dX12_compares_118 rfl ?_
        refine q_iconst dX12_compares_119 rfl rfl ?_
        obtain ⟨q3156, h3157, h⟩ := Option.bind_eq_some_iff.mp h
        refine q_callSi (as := [qi (q3152.1 - q3154.1), qi (a2 - a3), qi 0]) dX12_compares_120 ml_X12_435 rfl rfl (Nat.le_of_ble_eq_true rfl) (M_first_ok hL d (q3152.1 - q3154.1) (a2 - a3) 0 _ _ h3157) rfl ?_
        cases h
        exact q_ireturn dX12_compares_123 rfl hQ
set_option maxRecDepth 20000 in
theorem M_laysOrder_L15_ok {X : qX} (hL : ∀ c, c < 93 → c ∈ qLs X) (d : Nat) {Q : Option qV → qSto → Prop} : ∀ (n : Nat) (x1 : Int) (x2 : Int) (x3 : Int) (S : qSto) (o : (Int × qSto)), M_laysOrder_L15 n x1 x2 x3 S = some o → (qW X (d + 2) yX12_laysOrder cX12_laysOrder 4 none 57 [(0, qr 70), (1, qi x1), (2, qi x2), (3, qi o.1)] [] o.2 Q) → qW X (d + 2) yX12_laysOrder cX12_laysOrder 4 none 15 [(0, qr 70), (1, qi x1), (2, qi x2), (3, qi x3)] [] S Q := by
  intro n
  induction n with
  | zero =>
    intro x1 x2 x3 S o h
    simp [M_laysOrder_L15] at h
  | succ n ih =>
    intro x1 x2 x3 S o h hE
    rw [M_laysOrder_L15] at h
    refine q_iload_n dX12_laysOrder_15 rfl rfl ?_
    obtain ⟨c3129, h⟩ := qk_some h
    refine q_if_le (tgt := 57) dX12_laysOrder_16 (by decide) rfl (qRb_R c3129)  (fun g => ?_) (fun g => ?_)
    · rw [if_pos (show x3 ≤ 0 from g)] at h
      cases h
      exact q_pick [0, 1, 2, 3] rfl (hE)
    · rw [if_neg (show ¬ (x3 ≤ 0) from g)] at h
      refine q_aload_n dX12_laysOrder_19 rfl rfl ?_
      refine q_iload_n dX12_laysOrder_20 rfl rfl ?_
      refine q_iload_n dX12_laysOrder_21 rfl rfl ?_
      refine q_aload_n dX12_laysOrder_22 rfl rfl ?_
      refine q_getA dX12_laysOrder_23 fl_X12_67 (hL 70 (by decide)) sh_70 (by decide) rfl rfl ?_
      refine q_iload_n dX12_laysOrder_26 rfl rfl ?_
      refine q_iconst dX12_laysOrder_27 rfl rfl ?_
      refine q_isub dX12_laysOrder_28 rfl ?_
      obtain ⟨c3130, h⟩ := qk_some h
      refine q_iaload dX12_laysOrder_29 (hL 88 (by decide)) sh_88 (qIx_0 c3130) (qIx_1 c3130) rfl ?_
      obtain ⟨q3158, h3159, h⟩ := Option.bind_eq_some_iff.mp h
      refine q_callVi (as := [qi x1, qi x2, qi (S 88 (Int.toNat (x3 - 1)))]) (c := 70) dX12_laysOrder_30 ml_X12_438 rfl rfl (hL 70 (by decide)) sh_70 rfl rfl (Nat.le_of_ble_eq_true rfl) (M_compares_ok hL d x1 x2 (S 88 (Int.toNat (x3 - 1))) _ _ h3159) rfl ?_
      obtain ⟨c3160, h⟩ := qk_some h
      refine q_if_ge (tgt := 57) dX12_laysOrder_33 (by decide) rfl (qRb_R c3160)  (fun g => ?_) (fun g => ?_)
      · rw [if_pos (show 0 ≤ q3158.1 from g)] at h
        cases h
        exact q_pick [0, 1, 2, 3] rfl (hE)
      · rw [if_neg (show ¬ (0 ≤ q3158.1) from g)] at h
        refine q_aload_n dX12_laysOrder_36 rfl rfl ?_
        refine q_getA dX12_laysOrder_37 fl_X12_67 (hL 70 (by decide)) sh_70 (by decide) rfl rfl ?_
        refine q_iload_n dX12_laysOrder_40 rfl rfl ?_
        refine q_aload_n dX12_laysOrder_41 rfl rfl ?_
        refine q_getA dX12_laysOrder_42 fl_X12_67 (hL 70 (by decide)) sh_70 (by decide) rfl rfl ?_
        refine q_iload_n dX12_laysOrder_45 rfl rfl ?_
        refine q_iconst dX12_laysOrder_46 rfl rfl ?_
        refine q_isub dX12_laysOrder_47 rfl ?_
        obtain ⟨c3161, h⟩ := qk_some h
        refine q_iaload dX12_laysOrder_48 (hL 88 (by decide)) sh_88 (qIx_0 c3161) (qIx_1 c3161) rfl ?_
        obtain ⟨c3162, h⟩ := qk_some h
        refine q_iastore dX12_laysOrder_49 (hL 88 (by decide)) sh_88 (qIx_0 c3162) (qIx_1 c3162) rfl ?_
        refine q_iload_n dX12_laysOrder_50 rfl rfl ?_
        refine q_iconst dX12_laysOrder_51 rfl rfl ?_
        refine q_isub dX12_laysOrder_52 rfl ?_
        refine q_istore_n (lv' := [(3, qi (x3 - 1)), (0, qr 70), (1, qi x1), (2, qi x2)]) dX12_laysOrder_53 (by decide) rfl rfl ?_
        refine q_goto (pc' := 15) dX12_laysOrder_54 (by decide) ?_
        exact q_pick [1, 2, 3, 0] rfl (ih x1 x2 (x3 - 1) _ _ h hE)
set_option maxRecDepth 20000 in
theorem M_laysOrder_L2_ok {X : qX} (hL : ∀ c, c < 93 → c ∈ qLs X) (d : Nat) {Q : Option qV → qSto → Prop} : ∀ (n : Nat) (x1 : Int) (x2 : Int) (S : qSto) (o : qSto), M_laysOrder_L2 n x1 x2 S = some o → (qW X (d + 2) yX12_laysOrder cX12_laysOrder 4 none 70 [] [] o Q) → qW X (d + 2) yX12_laysOrder cX12_laysOrder 4 none 2 [(0, qr 70), (1, qi x1), (2, qi x2)] [] S Q := by
  intro n
  induction n with
  | zero =>
    intro x1 x2 S o h
    simp [M_laysOrder_L2] at h
  | succ n ih =>
    intro x1 x2 S o h hE
    rw [M_laysOrder_L2] at h
    refine q_iload_n dX12_laysOrder_2 rfl rfl ?_
    refine q_aload_n dX12_laysOrder_3 rfl rfl ?_
    refine q_getA dX12_laysOrder_4 fl_X12_13 (hL 70 (by decide)) sh_70 (by decide) rfl rfl ?_
    refine q_bipush dX12_laysOrder_7 (by decide) rfl ?_
    refine q_iaload dX12_laysOrder_9 (hL 72 (by decide)) sh_72 (by decide) (by decide) rfl ?_
    obtain ⟨c3127, h⟩ := qk_some h
    obtain ⟨c3128, h⟩ := qk_some h
    refine q_icmp_ge (tgt := 70) dX12_laysOrder_10 (by decide) rfl (qRb_R c3127) (qRb_R c3128) (fun g => ?_) (fun g => ?_)
    · rw [if_pos (show (S 72 9) ≤ x2 from g)] at h
      cases h
      exact q_pick [] rfl (hE)
    · rw [if_neg (show ¬ ((S 72 9) ≤ x2) from g)] at h
      refine q_iload_n dX12_laysOrder_13 rfl rfl ?_
      refine q_istore_n (lv' := [(3, qi x2), (0, qr 70), (1, qi x1), (2, qi x2)]) dX12_laysOrder_14 (by decide) rfl rfl ?_
      obtain ⟨q3163, h3164, h⟩ := Option.bind_eq_some_iff.mp h
      refine q_pick [1, 2, 3, 0] rfl (M_laysOrder_L15_ok hL d qF x1 x2 x2 _ _ h3164 ?_)
      refine q_aload_n dX12_laysOrder_57 rfl rfl ?_
      refine q_getA dX12_laysOrder_58 fl_X12_67 (hL 70 (by decide)) sh_70 (by decide) rfl rfl ?_
      refine q_iload_n dX12_laysOrder_61 rfl rfl ?_
      refine q_iload_n dX12_laysOrder_62 rfl rfl ?_
      obtain ⟨c3165, h⟩ := qk_some h
      refine q_iastore dX12_laysOrder_63 (hL 88 (by decide)) sh_88 (qIx_0 c3165) (qIx_1 c3165) rfl ?_
      refine q_iinc (lv' := [(2, qi (x2 + 1)), (0, qr 70), (1, qi x1), (3, qi q3163.1)]) dX12_laysOrder_64 (by decide) rfl rfl rfl ?_
      refine q_goto (pc' := 2) dX12_laysOrder_67 (by decide) ?_
      exact q_pick [1, 2, 0] rfl (ih x1 (x2 + 1) _ _ h hE)
set_option maxRecDepth 20000 in
theorem M_laysOrder_ok {X : qX} (hL : ∀ c, c < 93 → c ∈ qLs X) (d : Nat) (a1 : Int) (S : qSto) (o : qSto) (h : M_laysOrder a1 S = some o) (Q : Option qV → qSto → Prop) (hQ : Q none o) : qC X (d + 2) yX12_laysOrder cX12_laysOrder 4 none [qr 70, qi a1] S Q := by
  refine q_entry (lv := [(0, qr 70), (1, qi a1)]) pn_X12 (Nat.le_of_ble_eq_true rfl) rfl ?_
  unfold M_laysOrder at h
  refine q_iconst dX12_laysOrder_0 rfl rfl ?_
  refine q_istore_n (lv' := [(2, qi 0), (0, qr 70), (1, qi a1)]) dX12_laysOrder_1 (by decide) rfl rfl ?_
  obtain ⟨q3166, h3167, h⟩ := Option.bind_eq_some_iff.mp h
  refine q_pick [1, 2, 0] rfl (M_laysOrder_L2_ok hL d qF a1 0 _ _ h3167 ?_)
  cases h
  exact q_return dX12_laysOrder_70 rfl hQ
set_option maxRecDepth 20000 in
theorem M_order_ok {X : qX} (hL : ∀ c, c < 93 → c ∈ qLs X) (d : Nat) (a1 : Int) (a2 : Int) (S : qSto) (o : (Int × qSto)) (h : M_order a1 a2 S = some o) (Q : Option qV → qSto → Prop) (hQ : Q (some (qi o.1)) o.2) : qC X (d + 3) yX12_order cX12_order 3 (some .int) [qr 70, qi a1, qi a2] S Q := by
  refine q_entry (lv := [(0, qr 70), (1, qi a1), (2, qi a2)]) pn_X12 (Nat.le_of_ble_eq_true rfl) rfl ?_
  unfold M_order at h
  refine q_iload_n dX12_order_0 rfl rfl ?_
  obtain ⟨c3120, h⟩ := qk_some h
  refine q_i2l dX12_order_1 (qRb_R c3120) rfl ?_
  refine q_lconst (v := 0) dX12_order_2 rfl rfl ?_
  refine q_ldc2 (v := 3) dX12_order_3 qw_1729 rfl ?_
  obtain ⟨q3121, h3122, h⟩ := Option.bind_eq_some_iff.mp h
  refine q_callSi (as := [ql a1, ql 0, ql 3]) dX12_order_6 ml_X12_99 rfl rfl (Nat.le_of_ble_eq_true rfl) (M_in_ok hL (d + 2) a1 0 3 _ _ h3122) rfl ?_
  obtain ⟨c3123, h⟩ := qk_some h
  refine q_if_eq (tgt := 16) dX12_order_9 (by decide) rfl (qRb_R c3123)  (fun g => ?_) (fun g => ?_)
  · rw [if_pos (show q3121.1 = 0 from g)] at h
    refine q_iconst dX12_order_16 rfl rfl ?_
    cases h
    exact q_ireturn dX12_order_17 rfl hQ
  · rw [if_neg (show ¬ (q3121.1 = 0) from g)] at h
    refine q_iload_n dX12_order_12 rfl rfl ?_
    obtain ⟨c3124, h⟩ := qk_some h
    refine q_if_ge (tgt := 18) dX12_order_13 (by decide) rfl (qRb_R c3124)  (fun g => ?_) (fun g => ?_)
    · rw [if_pos (show 0 ≤ a2 from g)] at h
      refine q_iload_n dX12_order_18 rfl rfl ?_
      refine q_aload_n dX12_order_19 rfl rfl ?_
      refine q_getA dX12_order_20 fl_X12_13 (hL 70 (by decide)) sh_70 (by decide) rfl rfl ?_
      refine q_bipush dX12_order_23 (by decide) rfl ?_
      refine q_iaload dX12_order_25 (hL 72 (by decide)) sh_72 (by decide) (by decide) rfl ?_
      obtain ⟨c3125, h⟩ := qk_some h
      obtain ⟨c3126, h⟩ := qk_some h
      refine q_icmp_lt (tgt := 32) dX12_order_26 (by decide) rfl (qRb_R c3125) (qRb_R c3126) (fun g => ?_) (fun g => ?_)
      · rw [if_pos (show a2 < (q3121.2 72 9) from g)] at h
        refine q_aload_n dX12_order_32 rfl rfl ?_
        refine q_iload_n dX12_order_33 rfl rfl ?_
        obtain ⟨q3168, h3169, h⟩ := Option.bind_eq_some_iff.mp h
        refine q_callVv (as := [qi a1]) (c := 70) dX12_order_34 ml_X12_441 rfl rfl (hL 70 (by decide)) sh_70 rfl rfl (Nat.le_of_ble_eq_true rfl) (M_laysOrder_ok hL d a1 _ _ h3169) rfl ?_
        refine q_aload_n dX12_order_37 rfl rfl ?_
        refine q_getA dX12_order_38 fl_X12_67 (hL 70 (by decide)) sh_70 (by decide) rfl rfl ?_
        refine q_iload_n dX12_order_41 rfl rfl ?_
        obtain ⟨c3170, h⟩ := qk_some h
        refine q_iaload dX12_order_42 (hL 88 (by decide)) sh_88 (qIx_0 c3170) (qIx_1 c3170) rfl ?_
        cases h
        exact q_ireturn dX12_order_43 rfl hQ
      · rw [if_neg (show ¬ (a2 < (q3121.2 72 9)) from g)] at h
        refine q_bipush dX12_order_29 (by decide) rfl ?_
        cases h
        exact q_ireturn dX12_order_31 rfl hQ
    · rw [if_neg (show ¬ (0 ≤ a2) from g)] at h
      refine q_iconst dX12_order_16 rfl rfl ?_
      cases h
      exact q_ireturn dX12_order_17 rfl hQ
set_option maxRecDepth 20000 in
theorem M_all_L50_ok {X : qX} (hL : ∀ c, c < 93 → c ∈ qLs X) (d : Nat) {Q : Option qV → qSto → Prop} : ∀ (n : Nat) (x2 : Int) (x3 : Int) (S : qSto) (o : (Int × qSto)), M_all_L50 n x2 x3 S = some o → (qW X (d + 9) yX12_all cX12_all 4 (some .int) 104 [(2, qi o.1)] [] o.2 Q) → qW X (d + 9) yX12_all cX12_all 4 (some .int) 50 [(0, qr 70), (2, qi x2), (3, qi x3)] [] S Q := by
  intro n
  induction n with
  | zero =>
    intro x2 x3 S o h
    simp [M_all_L50] at h
  | succ n ih =>
    intro x2 x3 S o h hE
    rw [M_all_L50] at h
    refine q_iload_n dX12_all_50 rfl rfl ?_
    refine q_aload_n dX12_all_51 rfl rfl ?_
    refine q_getA dX12_all_52 fl_X12_13 (hL 70 (by decide)) sh_70 (by decide) rfl rfl ?_
    refine q_bipush dX12_all_55 (by decide) rfl ?_
    refine q_iaload dX12_all_57 (hL 72 (by decide)) sh_72 (by decide) (by decide) rfl ?_
    obtain ⟨c3185, h⟩ := qk_some h
    obtain ⟨c3186, h⟩ := qk_some h
    refine q_icmp_ge (tgt := 104) dX12_all_58 (by decide) rfl (qRb_R c3185) (qRb_R c3186) (fun g => ?_) (fun g => ?_)
    · rw [if_pos (show (S 72 9) ≤ x3 from g)] at h
      cases h
      exact q_pick [1] rfl (hE)
    · rw [if_neg (show ¬ ((S 72 9) ≤ x3) from g)] at h
      refine q_aload_n dX12_all_61 rfl rfl ?_
      refine q_aload_n dX12_all_62 rfl rfl ?_
      refine q_getA dX12_all_63 fl_X12_67 (hL 70 (by decide)) sh_70 (by decide) rfl rfl ?_
      refine q_iload_n dX12_all_66 rfl rfl ?_
      obtain ⟨c3187, h⟩ := qk_some h
      refine q_iaload dX12_all_67 (hL 88 (by decide)) sh_88 (qIx_0 c3187) (qIx_1 c3187) rfl ?_
      obtain ⟨q3188, h3189, h⟩ := Option.bind_eq_some_iff.mp h
      refine q_callVi (as := [qi (S 88 (Int.toNat x3))]) (c := 70) dX12_all_68 ml_X12_326 rfl rfl (hL 70 (by decide)) sh_70 rfl rfl (Nat.le_of_ble_eq_true rfl) (M_stays_ok hL (d + 8) (S 88 (Int.toNat x3)) _ _ h3189) rfl ?_
      refine q_jn (G := fun (t3196 : (Int × qSto)) => qW X (d + 9) yX12_all cX12_all 4 (some .int) 98 [(0, qr 70), (2, qi t3196.1), (3, qi x3)] [] t3196.2 Q) h (fun t3196 h => ?_) (fun t3196 h hk3922 => ?_)
      · try dsimp only at h
        refine q_iinc (lv' := [(3, qi (x3 + 1)), (0, qr 70), (2, qi t3196.1)]) dX12_all_98 (by decide) rfl rfl rfl ?_
        refine q_goto (pc' := 50) dX12_all_101 (by decide) ?_
        exact q_pick [1, 2, 0] rfl (ih t3196.1 (x3 + 1) _ _ h hE)
      · skip
        obtain ⟨c3190, h⟩ := qk_some h
        refine q_if_eq (tgt := 77) dX12_all_71 (by decide) rfl (qRb_R c3190)  (fun g => ?_) (fun g => ?_)
        · rw [if_pos (show q3188.1 = 0 from g)] at h
          refine q_aload_n dX12_all_77 rfl rfl ?_
          refine q_aload_n dX12_all_78 rfl rfl ?_
          refine q_getA dX12_all_79 fl_X12_67 (hL 70 (by decide)) sh_70 (by decide) rfl rfl ?_
          refine q_iload_n dX12_all_82 rfl rfl ?_
          obtain ⟨c3191, h⟩ := qk_some h
          refine q_iaload dX12_all_83 (hL 88 (by decide)) sh_88 (qIx_0 c3191) (qIx_1 c3191) rfl ?_
          obtain ⟨q3192, h3193, h⟩ := Option.bind_eq_some_iff.mp h
          refine q_callVi (as := [qi (q3188.2 88 (Int.toNat x3))]) (c := 70) dX12_all_84 ml_X12_420 rfl rfl (hL 70 (by decide)) sh_70 rfl rfl (Nat.le_of_ble_eq_true rfl) (M_laysItself_ok hL d (q3188.2 88 (Int.toNat x3)) _ _ h3193) rfl ?_
          refine q_jn (G := fun (t3195 : Int) => qW X (d + 9) yX12_all cX12_all 4 (some .int) 97 [(0, qr 70), (3, qi x3)] [qi t3195] q3192.2 Q) h (fun t3195 h => ?_) (fun t3195 h hk3923 => ?_)
          · try dsimp only at h
            refine q_istore_n (lv' := [(2, qi t3195), (0, qr 70), (3, qi x3)]) dX12_all_97 (by decide) rfl rfl ?_
            cases h
            exact q_pick [1, 0, 2] rfl hk3922
          · skip
            obtain ⟨c3194, h⟩ := qk_some h
            refine q_if_eq (tgt := 96) dX12_all_87 (by decide) rfl (qRb_R c3194)  (fun g => ?_) (fun g => ?_)
            · rw [if_pos (show q3192.1 = 0 from g)] at h
              refine q_iload_n dX12_all_96 rfl rfl ?_
              cases h
              exact q_pick [0, 2] rfl hk3923
            · rw [if_neg (show ¬ (q3192.1 = 0) from g)] at h
              refine q_iload_n dX12_all_90 rfl rfl ?_
              refine q_iconst dX12_all_91 rfl rfl ?_
              refine q_iadd dX12_all_92 rfl ?_
              refine q_goto (pc' := 97) dX12_all_93 (by decide) ?_
              cases h
              exact q_pick [0, 2] rfl hk3923
        · rw [if_neg (show ¬ (q3188.1 = 0) from g)] at h
          refine q_goto (pc' := 98) dX12_all_74 (by decide) ?_
          cases h
          exact q_pick [0, 1, 2] rfl hk3922
set_option maxRecDepth 20000 in
theorem M_all_ok {X : qX} (hL : ∀ c, c < 93 → c ∈ qLs X) (d : Nat) (a1 : Int) (S : qSto) (o : (Int × qSto)) (h : M_all a1 S = some o) (Q : Option qV → qSto → Prop) (hQ : Q (some (qi o.1)) o.2) : qC X (d + 9) yX12_all cX12_all 4 (some .int) [qr 70, qi a1] S Q := by
  refine q_entry (lv := [(0, qr 70), (1, qi a1)]) pn_X12 (Nat.le_of_ble_eq_true rfl) rfl ?_
  unfold M_all at h
  refine q_iload_n dX12_all_0 rfl rfl ?_
  obtain ⟨c3171, h⟩ := qk_some h
  refine q_i2l dX12_all_1 (qRb_R c3171) rfl ?_
  refine q_lconst (v := 0) dX12_all_2 rfl rfl ?_
  refine q_ldc2 (v := 3) dX12_all_3 qw_1729 rfl ?_
  obtain ⟨q3172, h3173, h⟩ := Option.bind_eq_some_iff.mp h
  refine q_callSi (as := [ql a1, ql 0, ql 3]) dX12_all_6 ml_X12_99 rfl rfl (Nat.le_of_ble_eq_true rfl) (M_in_ok hL (d + 8) a1 0 3 _ _ h3173) rfl ?_
  obtain ⟨c3174, h⟩ := qk_some h
  refine q_if_ne (tgt := 14) dX12_all_9 (by decide) rfl (qRb_R c3174)  (fun g => ?_) (fun g => ?_)
  · rw [if_neg (show ¬ (q3172.1 = 0) from g)] at h
    refine q_aload_n dX12_all_14 rfl rfl ?_
    obtain ⟨q3175, h3176, h⟩ := Option.bind_eq_some_iff.mp h
    refine q_callVi (as := []) (c := 70) dX12_all_15 ml_X12_263 rfl rfl (hL 70 (by decide)) sh_70 rfl rfl (Nat.le_of_ble_eq_true rfl) (M_staying_ok hL (d + 7) _ _ h3176) rfl ?_
    refine q_aload_n dX12_all_18 rfl rfl ?_
    refine q_getA dX12_all_19 fl_X12_13 (hL 70 (by decide)) sh_70 (by decide) rfl rfl ?_
    refine q_bipush dX12_all_22 (by decide) rfl ?_
    refine q_iaload dX12_all_24 (hL 72 (by decide)) sh_72 (by decide) (by decide) rfl ?_
    obtain ⟨c3177, h⟩ := qk_some h
    obtain ⟨c3178, h⟩ := qk_some h
    refine q_icmp_ne (tgt := 31) dX12_all_25 (by decide) rfl (qRb_R c3177) (qRb_R c3178) (fun g => ?_) (fun g => ?_)
    · rw [if_neg (show ¬ (q3175.1 = (q3175.2 72 9)) from g)] at h
      refine q_aload_n dX12_all_31 rfl rfl ?_
      refine q_bipush dX12_all_32 (by decide) rfl ?_
      obtain ⟨q3179, h3180, h⟩ := Option.bind_eq_some_iff.mp h
      refine q_callVv (as := [qi 16]) (c := 70) dX12_all_34 ml_X12_414 rfl rfl (hL 70 (by decide)) sh_70 rfl rfl (Nat.le_of_ble_eq_true rfl) (M_puts_ok hL (d + 8) 16 _ _ h3180) rfl ?_
      refine q_aload_n dX12_all_37 rfl rfl ?_
      obtain ⟨q3181, h3182, h⟩ := Option.bind_eq_some_iff.mp h
      refine q_callVv (as := []) (c := 70) dX12_all_38 ml_X12_417 rfl rfl (hL 70 (by decide)) sh_70 rfl rfl (Nat.le_of_ble_eq_true rfl) (M_keeps_ok hL (d + 7) _ _ h3182) rfl ?_
      refine q_aload_n dX12_all_41 rfl rfl ?_
      refine q_iload_n dX12_all_42 rfl rfl ?_
      obtain ⟨q3183, h3184, h⟩ := Option.bind_eq_some_iff.mp h
      refine q_callVv (as := [qi a1]) (c := 70) dX12_all_43 ml_X12_441 rfl rfl (hL 70 (by decide)) sh_70 rfl rfl (Nat.le_of_ble_eq_true rfl) (M_laysOrder_ok hL (d + 6) a1 _ _ h3184) rfl ?_
      refine q_iconst dX12_all_46 rfl rfl ?_
      refine q_istore_n (lv' := [(2, qi 0), (0, qr 70), (1, qi a1)]) dX12_all_47 (by decide) rfl rfl ?_
      refine q_iconst dX12_all_48 rfl rfl ?_
      refine q_istore_n (lv' := [(3, qi 0), (2, qi 0), (0, qr 70), (1, qi a1)]) dX12_all_49 (by decide) rfl rfl ?_
      obtain ⟨q3197, h3198, h⟩ := Option.bind_eq_some_iff.mp h
      refine q_pick [2, 1, 0] rfl (M_all_L50_ok hL d qF 0 0 _ _ h3198 ?_)
      refine q_iload_n dX12_all_104 rfl rfl ?_
      cases h
      exact q_ireturn dX12_all_105 rfl hQ
    · rw [if_pos (show q3175.1 = (q3175.2 72 9) from g)] at h
      refine q_bipush dX12_all_28 (by decide) rfl ?_
      cases h
      exact q_ireturn dX12_all_30 rfl hQ
  · rw [if_pos (show q3172.1 = 0 from g)] at h
    refine q_iconst dX12_all_12 rfl rfl ?_
    cases h
    exact q_ireturn dX12_all_13 rfl hQ
set_option maxRecDepth 20000 in
theorem M_findsFour_L7_ok {X : qX} (hL : ∀ c, c < 93 → c ∈ qLs X) (d : Nat) {Q : Option qV → qSto → Prop} : ∀ (n : Nat) (x1 : Int) (S : qSto) (o : qSto), M_findsFour_L7 n x1 S = some o → (qW X (d + 1) yX12_findsFour cX12_findsFour 2 none 63 [] [] o Q) → qW X (d + 1) yX12_findsFour cX12_findsFour 2 none 7 [(0, qr 70), (1, qi x1)] [] S Q := by
  intro n
  induction n with
  | zero =>
    intro x1 S o h
    simp [M_findsFour_L7] at h
  | succ n ih =>
    intro x1 S o h hE
    rw [M_findsFour_L7] at h
    refine q_iload_n dX12_findsFour_7 rfl rfl ?_
    refine q_aload_n dX12_findsFour_8 rfl rfl ?_
    refine q_getA dX12_findsFour_9 fl_X12_13 (hL 70 (by decide)) sh_70 (by decide) rfl rfl ?_
    refine q_bipush dX12_findsFour_12 (by decide) rfl ?_
    refine q_iaload dX12_findsFour_14 (hL 72 (by decide)) sh_72 (by decide) (by decide) rfl ?_
    obtain ⟨c3203, h⟩ := qk_some h
    obtain ⟨c3204, h⟩ := qk_some h
    refine q_icmp_ge (tgt := 63) dX12_findsFour_15 (by decide) rfl (qRb_R c3203) (qRb_R c3204) (fun g => ?_) (fun g => ?_)
    · rw [if_pos (show (S 72 9) ≤ x1 from g)] at h
      cases h
      exact q_pick [] rfl (hE)
    · rw [if_neg (show ¬ ((S 72 9) ≤ x1) from g)] at h
      refine q_aload_n dX12_findsFour_18 rfl rfl ?_
      refine q_getI dX12_findsFour_19 fl_X12_444 (hL 70 (by decide)) sh_70 (by decide) rfl rfl ?_
      refine q_iconst dX12_findsFour_22 rfl rfl ?_
      obtain ⟨c3205, h⟩ := qk_some h
      refine q_icmp_ge (tgt := 63) dX12_findsFour_23 (by decide) rfl (qRb_R c3205) ⟨by decide, by decide⟩ (fun g => ?_) (fun g => ?_)
      · rw [if_pos (show 4 ≤ (S 70 37) from g)] at h
        cases h
        exact q_pick [] rfl (hE)
      · rw [if_neg (show ¬ (4 ≤ (S 70 37)) from g)] at h
        refine q_aload_n dX12_findsFour_26 rfl rfl ?_
        refine q_iload_n dX12_findsFour_27 rfl rfl ?_
        obtain ⟨q3206, h3207, h⟩ := Option.bind_eq_some_iff.mp h
        refine q_callVi (as := [qi x1]) (c := 70) dX12_findsFour_28 ml_X12_326 rfl rfl (hL 70 (by decide)) sh_70 rfl rfl (Nat.le_of_ble_eq_true rfl) (M_stays_ok hL d x1 _ _ h3207) rfl ?_
        refine q_jn (G := fun (t3210 : qSto) => qW X (d + 1) yX12_findsFour cX12_findsFour 2 none 57 [(0, qr 70), (1, qi x1)] [] t3210 Q) h (fun t3210 h => ?_) (fun t3210 h hk3924 => ?_)
        · try dsimp only at h
          refine q_iinc (lv' := [(1, qi (x1 + 1)), (0, qr 70)]) dX12_findsFour_57 (by decide) rfl rfl rfl ?_
          refine q_goto (pc' := 7) dX12_findsFour_60 (by decide) ?_
          exact q_pick [1, 0] rfl (ih (x1 + 1) _ _ h hE)
        · skip
          obtain ⟨c3208, h⟩ := qk_some h
          refine q_if_eq (tgt := 37) dX12_findsFour_31 (by decide) rfl (qRb_R c3208)  (fun g => ?_) (fun g => ?_)
          · rw [if_pos (show q3206.1 = 0 from g)] at h
            refine q_aload_n dX12_findsFour_37 rfl rfl ?_
            refine q_getA dX12_findsFour_38 fl_X12_70 (hL 70 (by decide)) sh_70 (by decide) rfl rfl ?_
            refine q_aload_n dX12_findsFour_41 rfl rfl ?_
            refine q_getI dX12_findsFour_42 fl_X12_444 (hL 70 (by decide)) sh_70 (by decide) rfl rfl ?_
            refine q_iload_n dX12_findsFour_45 rfl rfl ?_
            obtain ⟨c3209, h⟩ := qk_some h
            refine q_iastore dX12_findsFour_46 (hL 89 (by decide)) sh_89 (qIx_0 c3209) (qIx_1 c3209) rfl ?_
            refine q_aload_n dX12_findsFour_47 rfl rfl ?_
            refine q_aload_n dX12_findsFour_48 rfl rfl ?_
            refine q_getI dX12_findsFour_49 fl_X12_444 (hL 70 (by decide)) sh_70 (by decide) rfl rfl ?_
            refine q_iconst dX12_findsFour_52 rfl rfl ?_
            refine q_iadd dX12_findsFour_53 rfl ?_
            refine q_putI dX12_findsFour_54 fl_X12_444 (hL 70 (by decide)) sh_70 (by decide) pf_12_37 pt_12_37 rfl rfl ?_
            cases h
            exact q_pick [0, 1] rfl hk3924
          · rw [if_neg (show ¬ (q3206.1 = 0) from g)] at h
            refine q_goto (pc' := 57) dX12_findsFour_34 (by decide) ?_
            cases h
            exact q_pick [0, 1] rfl hk3924
set_option maxRecDepth 20000 in
theorem M_findsFour_ok {X : qX} (hL : ∀ c, c < 93 → c ∈ qLs X) (d : Nat) (S : qSto) (o : qSto) (h : M_findsFour S = some o) (Q : Option qV → qSto → Prop) (hQ : Q none o) : qC X (d + 1) yX12_findsFour cX12_findsFour 2 none [qr 70] S Q := by
  refine q_entry (lv := [(0, qr 70)]) pn_X12 (Nat.le_of_ble_eq_true rfl) rfl ?_
  unfold M_findsFour at h
  refine q_aload_n dX12_findsFour_0 rfl rfl ?_
  refine q_iconst dX12_findsFour_1 rfl rfl ?_
  refine q_putI dX12_findsFour_2 fl_X12_444 (hL 70 (by decide)) sh_70 (by decide) pf_12_37 pt_12_37 rfl rfl ?_
  refine q_iconst dX12_findsFour_5 rfl rfl ?_
  refine q_istore_n (lv' := [(1, qi 0), (0, qr 70)]) dX12_findsFour_6 (by decide) rfl rfl ?_
  obtain ⟨q3211, h3212, h⟩ := Option.bind_eq_some_iff.mp h
  refine q_pick [1, 0] rfl (M_findsFour_L7_ok hL d qF 0 _ _ h3212 ?_)
  cases h
  exact q_return dX12_findsFour_63 rfl hQ
set_option maxRecDepth 20000 in
theorem M_tries_L6_ok {X : qX} (hL : ∀ c, c < 93 → c ∈ qLs X) (d : Nat) {Q : Option qV → qSto → Prop} : ∀ (n : Nat) (x1 : Int) (x2 : Int) (x3 : Int) (S : qSto) (o : (Int × Int × qSto)), M_tries_L6 n x1 x2 x3 S = some o → (qW X (d + 9) yX12_tries cX12_tries 5 none 58 [(0, qr 70), (1, qi o.1), (2, qi o.2.1)] [] o.2.2 Q) → qW X (d + 9) yX12_tries cX12_tries 5 none 6 [(0, qr 70), (1, qi x1), (2, qi x2), (3, qi x3)] [] S Q := by
  intro n
  induction n with
  | zero =>
    intro x1 x2 x3 S o h
    simp [M_tries_L6] at h
  | succ n ih =>
    intro x1 x2 x3 S o h hE
    rw [M_tries_L6] at h
    refine q_iload_n dX12_tries_6 rfl rfl ?_
    refine q_aload_n dX12_tries_7 rfl rfl ?_
    refine q_getI dX12_tries_8 fl_X12_444 (hL 70 (by decide)) sh_70 (by decide) rfl rfl ?_
    obtain ⟨c3224, h⟩ := qk_some h
    obtain ⟨c3225, h⟩ := qk_some h
    refine q_icmp_ge (tgt := 58) dX12_tries_11 (by decide) rfl (qRb_R c3224) (qRb_R c3225) (fun g => ?_) (fun g => ?_)
    · rw [if_pos (show (S 70 37) ≤ x3 from g)] at h
      cases h
      exact q_pick [0, 1, 2] rfl (hE)
    · rw [if_neg (show ¬ ((S 70 37) ≤ x3) from g)] at h
      refine q_aload_n dX12_tries_14 rfl rfl ?_
      refine q_getA dX12_tries_15 fl_X12_70 (hL 70 (by decide)) sh_70 (by decide) rfl rfl ?_
      refine q_aload_n dX12_tries_18 rfl rfl ?_
      refine q_getA dX12_tries_19 fl_X12_73 (hL 70 (by decide)) sh_70 (by decide) rfl rfl ?_
      refine q_iload_n dX12_tries_22 rfl rfl ?_
      obtain ⟨c3226, h⟩ := qk_some h
      refine q_iaload dX12_tries_23 (hL 90 (by decide)) sh_90 (qIx_0 c3226) (qIx_1 c3226) rfl ?_
      obtain ⟨c3227, h⟩ := qk_some h
      refine q_iaload dX12_tries_24 (hL 89 (by decide)) sh_89 (qIx_0 c3227) (qIx_1 c3227) rfl ?_
      refine q_istore (lv' := [(4, qi (S 89 (Int.toNat (S 90 (Int.toNat x3))))), (0, qr 70), (1, qi x1), (2, qi x2), (3, qi x3)]) dX12_tries_25 (by decide) rfl rfl ?_
      refine q_aload_n dX12_tries_27 rfl rfl ?_
      refine q_iload dX12_tries_28 rfl rfl ?_
      obtain ⟨q3228, h3229, h⟩ := Option.bind_eq_some_iff.mp h
      refine q_callVi (as := [qi (S 89 (Int.toNat (S 90 (Int.toNat x3))))]) (c := 70) dX12_tries_30 ml_X12_420 rfl rfl (hL 70 (by decide)) sh_70 rfl rfl (Nat.le_of_ble_eq_true rfl) (M_laysItself_ok hL d (S 89 (Int.toNat (S 90 (Int.toNat x3)))) _ _ h3229) rfl ?_
      refine q_jn (G := fun (t3233 : (Int × Int × qSto)) => qW X (d + 9) yX12_tries cX12_tries 5 none 52 [(0, qr 70), (1, qi t3233.1), (2, qi t3233.2.1), (3, qi x3)] [] t3233.2.2 Q) h (fun t3233 h => ?_) (fun t3233 h hk3925 => ?_)
      · try dsimp only at h
        refine q_iinc (lv' := [(3, qi (x3 + 1)), (0, qr 70), (1, qi t3233.1), (2, qi t3233.2.1)]) dX12_tries_52 (by decide) rfl rfl rfl ?_
        refine q_goto (pc' := 6) dX12_tries_55 (by decide) ?_
        exact q_pick [1, 2, 3, 0] rfl (ih t3233.1 t3233.2.1 (x3 + 1) _ _ h hE)
      · skip
        obtain ⟨c3230, h⟩ := qk_some h
        refine q_if_eq (tgt := 48) dX12_tries_33 (by decide) rfl (qRb_R c3230)  (fun g => ?_) (fun g => ?_)
        · rw [if_pos (show q3228.1 = 0 from g)] at h
          refine q_iload_n dX12_tries_48 rfl rfl ?_
          refine q_iconst dX12_tries_49 rfl rfl ?_
          refine q_iadd dX12_tries_50 rfl ?_
          refine q_istore_n (lv' := [(1, qi (x1 + 1)), (4, qi (S 89 (Int.toNat (S 90 (Int.toNat x3))))), (0, qr 70), (2, qi x2), (3, qi x3)]) dX12_tries_51 (by decide) rfl rfl ?_
          cases h
          exact q_pick [2, 0, 3, 4] rfl hk3925
        · rw [if_neg (show ¬ (q3228.1 = 0) from g)] at h
          refine q_iload_n dX12_tries_36 rfl rfl ?_
          refine q_aload_n dX12_tries_37 rfl rfl ?_
          refine q_iload dX12_tries_38 rfl rfl ?_
          obtain ⟨q3231, h3232, h⟩ := Option.bind_eq_some_iff.mp h
          refine q_callVi (as := [qi (S 89 (Int.toNat (S 90 (Int.toNat x3))))]) (c := 70) dX12_tries_40 ml_X12_332 rfl rfl (hL 70 (by decide)) sh_70 rfl rfl (Nat.le_of_ble_eq_true rfl) (M_costOf_ok hL (d + 6) (S 89 (Int.toNat (S 90 (Int.toNat x3)))) _ _ h3232) rfl ?_
          refine q_iadd dX12_tries_43 rfl ?_
          refine q_istore_n (lv' := [(2, qi (x2 + q3231.1)), (4, qi (S 89 (Int.toNat (S 90 (Int.toNat x3))))), (0, qr 70), (1, qi x1), (3, qi x3)]) dX12_tries_44 (by decide) rfl rfl ?_
          refine q_goto (pc' := 52) dX12_tries_45 (by decide) ?_
          cases h
          exact q_pick [2, 3, 0, 4] rfl hk3925
set_option maxRecDepth 20000 in
theorem M_tries_L109_ok {X : qX} (hL : ∀ c, c < 93 → c ∈ qLs X) (d : Nat) {Q : Option qV → qSto → Prop} : ∀ (n : Nat) (x3 : Int) (S : qSto) (o : qSto), M_tries_L109 n x3 S = some o → (qW X (d + 9) yX12_tries cX12_tries 5 none 140 [] [] o Q) → qW X (d + 9) yX12_tries cX12_tries 5 none 109 [(0, qr 70), (3, qi x3)] [] S Q := by
  intro n
  induction n with
  | zero =>
    intro x3 S o h
    simp [M_tries_L109] at h
  | succ n ih =>
    intro x3 S o h hE
    rw [M_tries_L109] at h
    refine q_iload_n dX12_tries_109 rfl rfl ?_
    refine q_aload_n dX12_tries_110 rfl rfl ?_
    refine q_getI dX12_tries_111 fl_X12_444 (hL 70 (by decide)) sh_70 (by decide) rfl rfl ?_
    obtain ⟨c3239, h⟩ := qk_some h
    obtain ⟨c3240, h⟩ := qk_some h
    refine q_icmp_ge (tgt := 140) dX12_tries_114 (by decide) rfl (qRb_R c3239) (qRb_R c3240) (fun g => ?_) (fun g => ?_)
    · rw [if_pos (show (S 70 37) ≤ x3 from g)] at h
      cases h
      exact q_pick [] rfl (hE)
    · rw [if_neg (show ¬ ((S 70 37) ≤ x3) from g)] at h
      refine q_aload_n dX12_tries_117 rfl rfl ?_
      refine q_getA dX12_tries_118 fl_X12_76 (hL 70 (by decide)) sh_70 (by decide) rfl rfl ?_
      refine q_iload_n dX12_tries_121 rfl rfl ?_
      refine q_aload_n dX12_tries_122 rfl rfl ?_
      refine q_getA dX12_tries_123 fl_X12_70 (hL 70 (by decide)) sh_70 (by decide) rfl rfl ?_
      refine q_aload_n dX12_tries_126 rfl rfl ?_
      refine q_getA dX12_tries_127 fl_X12_73 (hL 70 (by decide)) sh_70 (by decide) rfl rfl ?_
      refine q_iload_n dX12_tries_130 rfl rfl ?_
      obtain ⟨c3241, h⟩ := qk_some h
      refine q_iaload dX12_tries_131 (hL 90 (by decide)) sh_90 (qIx_0 c3241) (qIx_1 c3241) rfl ?_
      obtain ⟨c3242, h⟩ := qk_some h
      refine q_iaload dX12_tries_132 (hL 89 (by decide)) sh_89 (qIx_0 c3242) (qIx_1 c3242) rfl ?_
      obtain ⟨c3243, h⟩ := qk_some h
      refine q_iastore dX12_tries_133 (hL 91 (by decide)) sh_91 (qIx_0 c3243) (qIx_1 c3243) rfl ?_
      refine q_iinc (lv' := [(3, qi (x3 + 1)), (0, qr 70)]) dX12_tries_134 (by decide) rfl rfl rfl ?_
      refine q_goto (pc' := 109) dX12_tries_137 (by decide) ?_
      exact q_pick [1, 0] rfl (ih (x3 + 1) _ _ h hE)
set_option maxRecDepth 20000 in
theorem M_tries_ok {X : qX} (hL : ∀ c, c < 93 → c ∈ qLs X) (d : Nat) (S : qSto) (o : qSto) (h : M_tries S = some o) (Q : Option qV → qSto → Prop) (hQ : Q none o) : qC X (d + 9) yX12_tries cX12_tries 5 none [qr 70] S Q := by
  refine q_entry (lv := [(0, qr 70)]) pn_X12 (Nat.le_of_ble_eq_true rfl) rfl ?_
  unfold M_tries at h
  refine q_iconst dX12_tries_0 rfl rfl ?_
  refine q_istore_n (lv' := [(1, qi 0), (0, qr 70)]) dX12_tries_1 (by decide) rfl rfl ?_
  refine q_iconst dX12_tries_2 rfl rfl ?_
  refine q_istore_n (lv' := [(2, qi 0), (1, qi 0), (0, qr 70)]) dX12_tries_3 (by decide) rfl rfl ?_
  refine q_iconst dX12_tries_4 rfl rfl ?_
  refine q_istore_n (lv' := [(3, qi 0), (2, qi 0), (1, qi 0), (0, qr 70)]) dX12_tries_5 (by decide) rfl rfl ?_
  obtain ⟨q3234, h3235, h⟩ := Option.bind_eq_some_iff.mp h
  refine q_pick [3, 2, 1, 0] rfl (M_tries_L6_ok hL d qF 0 0 0 _ _ h3235 ?_)
  refine q_aload_n dX12_tries_58 rfl rfl ?_
  refine q_bipush dX12_tries_59 (by decide) rfl ?_
  obtain ⟨q3236, h3237, h⟩ := Option.bind_eq_some_iff.mp h
  refine q_callVv (as := [qi 17]) (c := 70) dX12_tries_61 ml_X12_426 rfl rfl (hL 70 (by decide)) sh_70 rfl rfl (Nat.le_of_ble_eq_true rfl) (M_takes_ok hL (d + 4) 17 _ _ h3237) rfl ?_
  refine q_aload_n dX12_tries_64 rfl rfl ?_
  refine q_getI dX12_tries_65 fl_X12_450 (hL 70 (by decide)) sh_70 (by decide) rfl rfl ?_
  refine q_iconst dX12_tries_68 rfl rfl ?_
  obtain ⟨c3238, h⟩ := qk_some h
  refine q_icmp_eq (tgt := 97) dX12_tries_69 (by decide) rfl (qRb_R c3238) ⟨by decide, by decide⟩ (fun g => ?_) (fun g => ?_)
  · rw [if_pos (show (q3236 70 38) = (-1) from g)] at h
    refine q_aload_n dX12_tries_97 rfl rfl ?_
    refine q_iload_n dX12_tries_98 rfl rfl ?_
    refine q_putI dX12_tries_99 fl_X12_450 (hL 70 (by decide)) sh_70 (by decide) pf_12_38 pt_12_38 rfl rfl ?_
    refine q_aload_n dX12_tries_102 rfl rfl ?_
    refine q_iload_n dX12_tries_103 rfl rfl ?_
    refine q_putI dX12_tries_104 fl_X12_453 (hL 70 (by decide)) sh_70 (by decide) pf_12_39 pt_12_39 rfl rfl ?_
    refine q_iconst dX12_tries_107 rfl rfl ?_
    refine q_istore_n (lv' := [(3, qi 0), (0, qr 70), (1, qi q3234.1), (2, qi q3234.2.1)]) dX12_tries_108 (by decide) rfl rfl ?_
    obtain ⟨q3244, h3245, h⟩ := Option.bind_eq_some_iff.mp h
    refine q_pick [1, 0] rfl (M_tries_L109_ok hL d qF 0 _ _ h3245 ?_)
    cases h
    exact q_return dX12_tries_140 rfl hQ
  · rw [if_neg (show ¬ ((q3236 70 38) = (-1)) from g)] at h
    refine q_iload_n dX12_tries_72 rfl rfl ?_
    refine q_aload_n dX12_tries_73 rfl rfl ?_
    refine q_getI dX12_tries_74 fl_X12_450 (hL 70 (by decide)) sh_70 (by decide) rfl rfl ?_
    obtain ⟨c3246, h⟩ := qk_some h
    obtain ⟨c3247, h⟩ := qk_some h
    refine q_icmp_gt (tgt := 96) dX12_tries_77 (by decide) rfl (qRb_R c3246) (qRb_R c3247) (fun g => ?_) (fun g => ?_)
    · rw [if_pos (show (q3236 70 38) < q3234.1 from g)] at h
      cases h
      exact q_return dX12_tries_96 rfl hQ
    · rw [if_neg (show ¬ ((q3236 70 38) < q3234.1) from g)] at h
      refine q_iload_n dX12_tries_80 rfl rfl ?_
      refine q_aload_n dX12_tries_81 rfl rfl ?_
      refine q_getI dX12_tries_82 fl_X12_450 (hL 70 (by decide)) sh_70 (by decide) rfl rfl ?_
      obtain ⟨c3248, h⟩ := qk_some h
      obtain ⟨c3249, h⟩ := qk_some h
      refine q_icmp_ne (tgt := 97) dX12_tries_85 (by decide) rfl (qRb_R c3248) (qRb_R c3249) (fun g => ?_) (fun g => ?_)
      · rw [if_neg (show ¬ (q3234.1 = (q3236 70 38)) from g)] at h
        refine q_aload_n dX12_tries_97 rfl rfl ?_
        refine q_iload_n dX12_tries_98 rfl rfl ?_
        refine q_putI dX12_tries_99 fl_X12_450 (hL 70 (by decide)) sh_70 (by decide) pf_12_38 pt_12_38 rfl rfl ?_
        refine q_aload_n dX12_tries_102 rfl rfl ?_
        refine q_iload_n dX12_tries_103 rfl rfl ?_
        refine q_putI dX12_tries_104 fl_X12_453 (hL 70 (by decide)) sh_70 (by decide) pf_12_39 pt_12_39 rfl rfl ?_
        refine q_iconst dX12_tries_107 rfl rfl ?_
        refine q_istore_n (lv' := [(3, qi 0), (0, qr 70), (1, qi q3234.1), (2, qi q3234.2.1)]) dX12_tries_108 (by decide) rfl rfl ?_
        obtain ⟨q3250, h3251, h⟩ := Option.bind_eq_some_iff.mp h
        refine q_pick [1, 0] rfl (M_tries_L109_ok hL d qF 0 _ _ h3251 ?_)
        cases h
        exact q_return dX12_tries_140 rfl hQ
      · rw [if_pos (show q3234.1 = (q3236 70 38) from g)] at h
        refine q_iload_n dX12_tries_88 rfl rfl ?_
        refine q_aload_n dX12_tries_89 rfl rfl ?_
        refine q_getI dX12_tries_90 fl_X12_453 (hL 70 (by decide)) sh_70 (by decide) rfl rfl ?_
        obtain ⟨c3252, h⟩ := qk_some h
        obtain ⟨c3253, h⟩ := qk_some h
        refine q_icmp_lt (tgt := 97) dX12_tries_93 (by decide) rfl (qRb_R c3252) (qRb_R c3253) (fun g => ?_) (fun g => ?_)
        · rw [if_pos (show q3234.2.1 < (q3236 70 39) from g)] at h
          refine q_aload_n dX12_tries_97 rfl rfl ?_
          refine q_iload_n dX12_tries_98 rfl rfl ?_
          refine q_putI dX12_tries_99 fl_X12_450 (hL 70 (by decide)) sh_70 (by decide) pf_12_38 pt_12_38 rfl rfl ?_
          refine q_aload_n dX12_tries_102 rfl rfl ?_
          refine q_iload_n dX12_tries_103 rfl rfl ?_
          refine q_putI dX12_tries_104 fl_X12_453 (hL 70 (by decide)) sh_70 (by decide) pf_12_39 pt_12_39 rfl rfl ?_
          refine q_iconst dX12_tries_107 rfl rfl ?_
          refine q_istore_n (lv' := [(3, qi 0), (0, qr 70), (1, qi q3234.1), (2, qi q3234.2.1)]) dX12_tries_108 (by decide) rfl rfl ?_
          obtain ⟨q3254, h3255, h⟩ := Option.bind_eq_some_iff.mp h
          refine q_pick [1, 0] rfl (M_tries_L109_ok hL d qF 0 _ _ h3255 ?_)
          cases h
          exact q_return dX12_tries_140 rfl hQ
        · rw [if_neg (show ¬ (q3234.2.1 < (q3236 70 39)) from g)] at h
          cases h
          exact q_return dX12_tries_96 rfl hQ
set_option maxRecDepth 20000 in
theorem M_swaps_ok {X : qX} (hL : ∀ c, c < 93 → c ∈ qLs X) (d : Nat) (a1 : Int) (a2 : Int) (S : qSto) (o : qSto) (h : M_swaps a1 a2 S = some o) (Q : Option qV → qSto → Prop) (hQ : Q none o) : qC X d yX12_swaps cX12_swaps 4 none [qr 70, qi a1, qi a2] S Q := by
  refine q_entry (lv := [(0, qr 70), (1, qi a1), (2, qi a2)]) pn_X12 (Nat.le_of_ble_eq_true rfl) rfl ?_
  unfold M_swaps at h
  refine q_aload_n dX12_swaps_0 rfl rfl ?_
  refine q_getA dX12_swaps_1 fl_X12_73 (hL 70 (by decide)) sh_70 (by decide) rfl rfl ?_
  refine q_iload_n dX12_swaps_4 rfl rfl ?_
  obtain ⟨c3272, h⟩ := qk_some h
  refine q_iaload dX12_swaps_5 (hL 90 (by decide)) sh_90 (qIx_0 c3272) (qIx_1 c3272) rfl ?_
  refine q_istore_n (lv' := [(3, qi (S 90 (Int.toNat a1))), (0, qr 70), (1, qi a1), (2, qi a2)]) dX12_swaps_6 (by decide) rfl rfl ?_
  refine q_aload_n dX12_swaps_7 rfl rfl ?_
  refine q_getA dX12_swaps_8 fl_X12_73 (hL 70 (by decide)) sh_70 (by decide) rfl rfl ?_
  refine q_iload_n dX12_swaps_11 rfl rfl ?_
  refine q_aload_n dX12_swaps_12 rfl rfl ?_
  refine q_getA dX12_swaps_13 fl_X12_73 (hL 70 (by decide)) sh_70 (by decide) rfl rfl ?_
  refine q_iload_n dX12_swaps_16 rfl rfl ?_
  obtain ⟨c3273, h⟩ := qk_some h
  refine q_iaload dX12_swaps_17 (hL 90 (by decide)) sh_90 (qIx_0 c3273) (qIx_1 c3273) rfl ?_
  obtain ⟨c3274, h⟩ := qk_some h
  refine q_iastore dX12_swaps_18 (hL 90 (by decide)) sh_90 (qIx_0 c3274) (qIx_1 c3274) rfl ?_
  refine q_aload_n dX12_swaps_19 rfl rfl ?_
  refine q_getA dX12_swaps_20 fl_X12_73 (hL 70 (by decide)) sh_70 (by decide) rfl rfl ?_
  refine q_iload_n dX12_swaps_23 rfl rfl ?_
  refine q_iload_n dX12_swaps_24 rfl rfl ?_
  obtain ⟨c3275, h⟩ := qk_some h
  refine q_iastore dX12_swaps_25 (hL 90 (by decide)) sh_90 (qIx_0 c3275) (qIx_1 c3275) rfl ?_
  cases h
  exact q_return dX12_swaps_26 rfl hQ
set_option maxRecDepth 20000 in
theorem M_goesOn_L7_ok {X : qX} (hL : ∀ c, c < 93 → c ∈ qLs X) (d : Nat) {Q : Option qV → qSto → Prop} : ∀ (n : Nat) (x1 : Int) (S : qSto) (o : (Int × qSto)), M_goesOn_L7 n x1 S = some o → (qW X (d + 1) yX12_goesOn cX12_goesOn 5 (some .boolean) 35 [(0, qr 70), (1, qi o.1)] [] o.2 Q) → qW X (d + 1) yX12_goesOn cX12_goesOn 5 (some .boolean) 7 [(0, qr 70), (1, qi x1)] [] S Q := by
  intro n
  induction n with
  | zero =>
    intro x1 S o h
    simp [M_goesOn_L7] at h
  | succ n ih =>
    intro x1 S o h hE
    rw [M_goesOn_L7] at h
    refine q_iload_n dX12_goesOn_7 rfl rfl ?_
    obtain ⟨c3258, h⟩ := qk_some h
    refine q_if_lt (tgt := 35) dX12_goesOn_8 (by decide) rfl (qRb_R c3258)  (fun g => ?_) (fun g => ?_)
    · rw [if_pos (show x1 < 0 from g)] at h
      cases h
      exact q_pick [0, 1] rfl (hE)
    · rw [if_neg (show ¬ (x1 < 0) from g)] at h
      refine q_aload_n dX12_goesOn_11 rfl rfl ?_
      refine q_getA dX12_goesOn_12 fl_X12_73 (hL 70 (by decide)) sh_70 (by decide) rfl rfl ?_
      refine q_iload_n dX12_goesOn_15 rfl rfl ?_
      obtain ⟨c3259, h⟩ := qk_some h
      refine q_iaload dX12_goesOn_16 (hL 90 (by decide)) sh_90 (qIx_0 c3259) (qIx_1 c3259) rfl ?_
      refine q_aload_n dX12_goesOn_17 rfl rfl ?_
      refine q_getA dX12_goesOn_18 fl_X12_73 (hL 70 (by decide)) sh_70 (by decide) rfl rfl ?_
      refine q_iload_n dX12_goesOn_21 rfl rfl ?_
      refine q_iconst dX12_goesOn_22 rfl rfl ?_
      refine q_iadd dX12_goesOn_23 rfl ?_
      obtain ⟨c3260, h⟩ := qk_some h
      refine q_iaload dX12_goesOn_24 (hL 90 (by decide)) sh_90 (qIx_0 c3260) (qIx_1 c3260) rfl ?_
      obtain ⟨c3261, h⟩ := qk_some h
      obtain ⟨c3262, h⟩ := qk_some h
      refine q_icmp_le (tgt := 35) dX12_goesOn_25 (by decide) rfl (qRb_R c3261) (qRb_R c3262) (fun g => ?_) (fun g => ?_)
      · rw [if_pos (show (S 90 (Int.toNat x1)) ≤ (S 90 (Int.toNat (x1 + 1))) from g)] at h
        cases h
        exact q_pick [0, 1] rfl (hE)
      · rw [if_neg (show ¬ ((S 90 (Int.toNat x1)) ≤ (S 90 (Int.toNat (x1 + 1)))) from g)] at h
        refine q_iload_n dX12_goesOn_28 rfl rfl ?_
        refine q_iconst dX12_goesOn_29 rfl rfl ?_
        refine q_isub dX12_goesOn_30 rfl ?_
        refine q_istore_n (lv' := [(1, qi (x1 - 1)), (0, qr 70)]) dX12_goesOn_31 (by decide) rfl rfl ?_
        refine q_goto (pc' := 7) dX12_goesOn_32 (by decide) ?_
        exact q_pick [1, 0] rfl (ih (x1 - 1) _ _ h hE)
set_option maxRecDepth 20000 in
theorem M_goesOn_L48_ok {X : qX} (hL : ∀ c, c < 93 → c ∈ qLs X) (d : Nat) {Q : Option qV → qSto → Prop} : ∀ (n : Nat) (x1 : Int) (x2 : Int) (S : qSto) (o : (Int × qSto)), M_goesOn_L48 n x1 x2 S = some o → (qW X (d + 1) yX12_goesOn cX12_goesOn 5 (some .boolean) 70 [(0, qr 70), (1, qi x1), (2, qi o.1)] [] o.2 Q) → qW X (d + 1) yX12_goesOn cX12_goesOn 5 (some .boolean) 48 [(0, qr 70), (1, qi x1), (2, qi x2)] [] S Q := by
  intro n
  induction n with
  | zero =>
    intro x1 x2 S o h
    simp [M_goesOn_L48] at h
  | succ n ih =>
    intro x1 x2 S o h hE
    rw [M_goesOn_L48] at h
    refine q_aload_n dX12_goesOn_48 rfl rfl ?_
    refine q_getA dX12_goesOn_49 fl_X12_73 (hL 70 (by decide)) sh_70 (by decide) rfl rfl ?_
    refine q_iload_n dX12_goesOn_52 rfl rfl ?_
    obtain ⟨c3266, h⟩ := qk_some h
    refine q_iaload dX12_goesOn_53 (hL 90 (by decide)) sh_90 (qIx_0 c3266) (qIx_1 c3266) rfl ?_
    refine q_aload_n dX12_goesOn_54 rfl rfl ?_
    refine q_getA dX12_goesOn_55 fl_X12_73 (hL 70 (by decide)) sh_70 (by decide) rfl rfl ?_
    refine q_iload_n dX12_goesOn_58 rfl rfl ?_
    obtain ⟨c3267, h⟩ := qk_some h
    refine q_iaload dX12_goesOn_59 (hL 90 (by decide)) sh_90 (qIx_0 c3267) (qIx_1 c3267) rfl ?_
    obtain ⟨c3268, h⟩ := qk_some h
    obtain ⟨c3269, h⟩ := qk_some h
    refine q_icmp_ge (tgt := 70) dX12_goesOn_60 (by decide) rfl (qRb_R c3268) (qRb_R c3269) (fun g => ?_) (fun g => ?_)
    · rw [if_pos (show (S 90 (Int.toNat x1)) ≤ (S 90 (Int.toNat x2)) from g)] at h
      cases h
      exact q_pick [0, 1, 2] rfl (hE)
    · rw [if_neg (show ¬ ((S 90 (Int.toNat x1)) ≤ (S 90 (Int.toNat x2))) from g)] at h
      refine q_iload_n dX12_goesOn_63 rfl rfl ?_
      refine q_iconst dX12_goesOn_64 rfl rfl ?_
      refine q_isub dX12_goesOn_65 rfl ?_
      refine q_istore_n (lv' := [(2, qi (x2 - 1)), (0, qr 70), (1, qi x1)]) dX12_goesOn_66 (by decide) rfl rfl ?_
      refine q_goto (pc' := 48) dX12_goesOn_67 (by decide) ?_
      exact q_pick [1, 2, 0] rfl (ih x1 (x2 - 1) _ _ h hE)
set_option maxRecDepth 20000 in
theorem M_goesOn_L88_ok {X : qX} (hL : ∀ c, c < 93 → c ∈ qLs X) (d : Nat) {Q : Option qV → qSto → Prop} : ∀ (n : Nat) (x3 : Int) (x4 : Int) (S : qSto) (o : qSto), M_goesOn_L88 n x3 x4 S = some o → (qW X (d + 1) yX12_goesOn cX12_goesOn 5 (some .boolean) 114 [] [] o Q) → qW X (d + 1) yX12_goesOn cX12_goesOn 5 (some .boolean) 88 [(0, qr 70), (3, qi x3), (4, qi x4)] [] S Q := by
  intro n
  induction n with
  | zero =>
    intro x3 x4 S o h
    simp [M_goesOn_L88] at h
  | succ n ih =>
    intro x3 x4 S o h hE
    rw [M_goesOn_L88] at h
    refine q_iload_n dX12_goesOn_88 rfl rfl ?_
    refine q_iload dX12_goesOn_89 rfl rfl ?_
    obtain ⟨c3278, h⟩ := qk_some h
    obtain ⟨c3279, h⟩ := qk_some h
    refine q_icmp_ge (tgt := 114) dX12_goesOn_91 (by decide) rfl (qRb_R c3278) (qRb_R c3279) (fun g => ?_) (fun g => ?_)
    · rw [if_pos (show x4 ≤ x3 from g)] at h
      cases h
      exact q_pick [] rfl (hE)
    · rw [if_neg (show ¬ (x4 ≤ x3) from g)] at h
      refine q_aload_n dX12_goesOn_94 rfl rfl ?_
      refine q_iload_n dX12_goesOn_95 rfl rfl ?_
      refine q_iload dX12_goesOn_96 rfl rfl ?_
      obtain ⟨q3280, h3281, h⟩ := Option.bind_eq_some_iff.mp h
      refine q_callVv (as := [qi x3, qi x4]) (c := 70) dX12_goesOn_98 ml_X12_447 rfl rfl (hL 70 (by decide)) sh_70 rfl rfl (Nat.le_of_ble_eq_true rfl) (M_swaps_ok hL d x3 x4 _ _ h3281) rfl ?_
      refine q_iload_n dX12_goesOn_101 rfl rfl ?_
      refine q_iconst dX12_goesOn_102 rfl rfl ?_
      refine q_iadd dX12_goesOn_103 rfl ?_
      refine q_istore_n (lv' := [(3, qi (x3 + 1)), (0, qr 70), (4, qi x4)]) dX12_goesOn_104 (by decide) rfl rfl ?_
      refine q_iload dX12_goesOn_105 rfl rfl ?_
      refine q_iconst dX12_goesOn_107 rfl rfl ?_
      refine q_isub dX12_goesOn_108 rfl ?_
      refine q_istore (lv' := [(4, qi (x4 - 1)), (3, qi (x3 + 1)), (0, qr 70)]) dX12_goesOn_109 (by decide) rfl rfl ?_
      refine q_goto (pc' := 88) dX12_goesOn_111 (by decide) ?_
      exact q_pick [2, 1, 0] rfl (ih (x3 + 1) (x4 - 1) _ _ h hE)
set_option maxRecDepth 20000 in
theorem M_goesOn_ok {X : qX} (hL : ∀ c, c < 93 → c ∈ qLs X) (d : Nat) (S : qSto) (o : (Int × qSto)) (h : M_goesOn S = some o) (Q : Option qV → qSto → Prop) (hQ : Q (some (qi o.1)) o.2) : qC X (d + 1) yX12_goesOn cX12_goesOn 5 (some .boolean) [qr 70] S Q := by
  refine q_entry (lv := [(0, qr 70)]) pn_X12 (Nat.le_of_ble_eq_true rfl) rfl ?_
  unfold M_goesOn at h
  refine q_aload_n dX12_goesOn_0 rfl rfl ?_
  refine q_getI dX12_goesOn_1 fl_X12_444 (hL 70 (by decide)) sh_70 (by decide) rfl rfl ?_
  refine q_iconst dX12_goesOn_4 rfl rfl ?_
  refine q_isub dX12_goesOn_5 rfl ?_
  refine q_istore_n (lv' := [(1, qi ((S 70 37) - 2)), (0, qr 70)]) dX12_goesOn_6 (by decide) rfl rfl ?_
  obtain ⟨q3263, h3264, h⟩ := Option.bind_eq_some_iff.mp h
  refine q_pick [1, 0] rfl (M_goesOn_L7_ok hL d qF ((S 70 37) - 2) _ _ h3264 ?_)
  refine q_iload_n dX12_goesOn_35 rfl rfl ?_
  obtain ⟨c3265, h⟩ := qk_some h
  refine q_if_ge (tgt := 41) dX12_goesOn_36 (by decide) rfl (qRb_R c3265)  (fun g => ?_) (fun g => ?_)
  · rw [if_pos (show 0 ≤ q3263.1 from g)] at h
    refine q_aload_n dX12_goesOn_41 rfl rfl ?_
    refine q_getI dX12_goesOn_42 fl_X12_444 (hL 70 (by decide)) sh_70 (by decide) rfl rfl ?_
    refine q_iconst dX12_goesOn_45 rfl rfl ?_
    refine q_isub dX12_goesOn_46 rfl ?_
    refine q_istore_n (lv' := [(2, qi ((q3263.2 70 37) - 1)), (0, qr 70), (1, qi q3263.1)]) dX12_goesOn_47 (by decide) rfl rfl ?_
    obtain ⟨q3270, h3271, h⟩ := Option.bind_eq_some_iff.mp h
    refine q_pick [1, 2, 0] rfl (M_goesOn_L48_ok hL d qF q3263.1 ((q3263.2 70 37) - 1) _ _ h3271 ?_)
    refine q_aload_n dX12_goesOn_70 rfl rfl ?_
    refine q_iload_n dX12_goesOn_71 rfl rfl ?_
    refine q_iload_n dX12_goesOn_72 rfl rfl ?_
    obtain ⟨q3276, h3277, h⟩ := Option.bind_eq_some_iff.mp h
    refine q_callVv (as := [qi q3263.1, qi q3270.1]) (c := 70) dX12_goesOn_73 ml_X12_447 rfl rfl (hL 70 (by decide)) sh_70 rfl rfl (Nat.le_of_ble_eq_true rfl) (M_swaps_ok hL d q3263.1 q3270.1 _ _ h3277) rfl ?_
    refine q_iload_n dX12_goesOn_76 rfl rfl ?_
    refine q_iconst dX12_goesOn_77 rfl rfl ?_
    refine q_iadd dX12_goesOn_78 rfl ?_
    refine q_istore_n (lv' := [(3, qi (q3263.1 + 1)), (0, qr 70), (1, qi q3263.1), (2, qi q3270.1)]) dX12_goesOn_79 (by decide) rfl rfl ?_
    refine q_aload_n dX12_goesOn_80 rfl rfl ?_
    refine q_getI dX12_goesOn_81 fl_X12_444 (hL 70 (by decide)) sh_70 (by decide) rfl rfl ?_
    refine q_iconst dX12_goesOn_84 rfl rfl ?_
    refine q_isub dX12_goesOn_85 rfl ?_
    refine q_istore (lv' := [(4, qi ((q3276 70 37) - 1)), (3, qi (q3263.1 + 1)), (0, qr 70), (1, qi q3263.1), (2, qi q3270.1)]) dX12_goesOn_86 (by decide) rfl rfl ?_
    obtain ⟨q3282, h3283, h⟩ := Option.bind_eq_some_iff.mp h
    refine q_pick [2, 1, 0] rfl (M_goesOn_L88_ok hL d qF (q3263.1 + 1) ((q3276 70 37) - 1) _ _ h3283 ?_)
    refine q_iconst dX12_goesOn_114 rfl rfl ?_
    cases h
    exact q_zreturn dX12_goesOn_115 rfl (by decide) hQ
  · rw [if_neg (show ¬ (0 ≤ q3263.1) from g)] at h
    refine q_iconst dX12_goesOn_39 rfl rfl ?_
    cases h
    exact q_zreturn dX12_goesOn_40 rfl (by decide) hQ
set_option maxRecDepth 20000 in
theorem M_laysFour_L16_ok {X : qX} (hL : ∀ c, c < 93 → c ∈ qLs X) (d : Nat) {Q : Option qV → qSto → Prop} : ∀ (n : Nat) (x1 : Int) (S : qSto) (o : qSto), M_laysFour_L16 n x1 S = some o → (qW X (d + 10) yX12_laysFour cX12_laysFour 2 none 34 [(0, qr 70)] [] o Q) → qW X (d + 10) yX12_laysFour cX12_laysFour 2 none 16 [(0, qr 70), (1, qi x1)] [] S Q := by
  intro n
  induction n with
  | zero =>
    intro x1 S o h
    simp [M_laysFour_L16] at h
  | succ n ih =>
    intro x1 S o h hE
    rw [M_laysFour_L16] at h
    refine q_iload_n dX12_laysFour_16 rfl rfl ?_
    refine q_iconst dX12_laysFour_17 rfl rfl ?_
    obtain ⟨c3215, h⟩ := qk_some h
    refine q_icmp_ge (tgt := 34) dX12_laysFour_18 (by decide) rfl (qRb_R c3215) ⟨by decide, by decide⟩ (fun g => ?_) (fun g => ?_)
    · rw [if_pos (show 4 ≤ x1 from g)] at h
      cases h
      exact q_pick [0] rfl (hE)
    · rw [if_neg (show ¬ (4 ≤ x1) from g)] at h
      refine q_aload_n dX12_laysFour_21 rfl rfl ?_
      refine q_getA dX12_laysFour_22 fl_X12_73 (hL 70 (by decide)) sh_70 (by decide) rfl rfl ?_
      refine q_iload_n dX12_laysFour_25 rfl rfl ?_
      refine q_iload_n dX12_laysFour_26 rfl rfl ?_
      obtain ⟨c3216, h⟩ := qk_some h
      refine q_iastore dX12_laysFour_27 (hL 90 (by decide)) sh_90 (qIx_0 c3216) (qIx_1 c3216) rfl ?_
      refine q_iinc (lv' := [(1, qi (x1 + 1)), (0, qr 70)]) dX12_laysFour_28 (by decide) rfl rfl rfl ?_
      refine q_goto (pc' := 16) dX12_laysFour_31 (by decide) ?_
      exact q_pick [1, 0] rfl (ih (x1 + 1) _ _ h hE)
set_option maxRecDepth 20000 in
theorem M_laysFour_L53_ok {X : qX} (hL : ∀ c, c < 93 → c ∈ qLs X) (d : Nat) {Q : Option qV → qSto → Prop} : ∀ (n : Nat) (x1 : Int) (S : qSto) (o : qSto), M_laysFour_L53 n x1 S = some o → (qW X (d + 10) yX12_laysFour cX12_laysFour 2 none 69 [] [] o Q) → qW X (d + 10) yX12_laysFour cX12_laysFour 2 none 53 [(0, qr 70), (1, qi x1)] [] S Q := by
  intro n
  induction n with
  | zero =>
    intro x1 S o h
    simp [M_laysFour_L53] at h
  | succ n ih =>
    intro x1 S o h hE
    rw [M_laysFour_L53] at h
    refine q_iload_n dX12_laysFour_53 rfl rfl ?_
    obtain ⟨c3223, h⟩ := qk_some h
    refine q_if_eq (tgt := 69) dX12_laysFour_54 (by decide) rfl (qRb_R c3223)  (fun g => ?_) (fun g => ?_)
    · rw [if_pos (show x1 = 0 from g)] at h
      cases h
      exact q_pick [] rfl (hE)
    · rw [if_neg (show ¬ (x1 = 0) from g)] at h
      refine q_aload_n dX12_laysFour_57 rfl rfl ?_
      obtain ⟨q3256, h3257, h⟩ := Option.bind_eq_some_iff.mp h
      refine q_callVv (as := []) (c := 70) dX12_laysFour_58 ml_X12_459 rfl rfl (hL 70 (by decide)) sh_70 rfl rfl (Nat.le_of_ble_eq_true rfl) (M_tries_ok hL d _ _ h3257) rfl ?_
      refine q_aload_n dX12_laysFour_61 rfl rfl ?_
      obtain ⟨q3284, h3285, h⟩ := Option.bind_eq_some_iff.mp h
      refine q_callVi (as := []) (c := 70) dX12_laysFour_62 ml_X12_462 rfl rfl (hL 70 (by decide)) sh_70 rfl rfl (Nat.le_of_ble_eq_true rfl) (M_goesOn_ok hL (d + 8) _ _ h3285) rfl ?_
      refine q_istore_n (lv' := [(1, qi q3284.1), (0, qr 70)]) dX12_laysFour_65 (by decide) rfl rfl ?_
      refine q_goto (pc' := 53) dX12_laysFour_66 (by decide) ?_
      exact q_pick [1, 0] rfl (ih q3284.1 _ _ h hE)
set_option maxRecDepth 20000 in
theorem M_laysFour_ok {X : qX} (hL : ∀ c, c < 93 → c ∈ qLs X) (d : Nat) (S : qSto) (o : qSto) (h : M_laysFour S = some o) (Q : Option qV → qSto → Prop) (hQ : Q none o) : qC X (d + 10) yX12_laysFour cX12_laysFour 2 none [qr 70] S Q := by
  refine q_entry (lv := [(0, qr 70)]) pn_X12 (Nat.le_of_ble_eq_true rfl) rfl ?_
  unfold M_laysFour at h
  refine q_aload_n dX12_laysFour_0 rfl rfl ?_
  obtain ⟨q3213, h3214, h⟩ := Option.bind_eq_some_iff.mp h
  refine q_callVv (as := []) (c := 70) dX12_laysFour_1 ml_X12_456 rfl rfl (hL 70 (by decide)) sh_70 rfl rfl (Nat.le_of_ble_eq_true rfl) (M_findsFour_ok hL (d + 8) _ _ h3214) rfl ?_
  refine q_aload_n dX12_laysFour_4 rfl rfl ?_
  refine q_iconst dX12_laysFour_5 rfl rfl ?_
  refine q_putI dX12_laysFour_6 fl_X12_450 (hL 70 (by decide)) sh_70 (by decide) pf_12_38 pt_12_38 rfl rfl ?_
  refine q_aload_n dX12_laysFour_9 rfl rfl ?_
  refine q_iconst dX12_laysFour_10 rfl rfl ?_
  refine q_putI dX12_laysFour_11 fl_X12_453 (hL 70 (by decide)) sh_70 (by decide) pf_12_39 pt_12_39 rfl rfl ?_
  refine q_iconst dX12_laysFour_14 rfl rfl ?_
  refine q_istore_n (lv' := [(1, qi 0), (0, qr 70)]) dX12_laysFour_15 (by decide) rfl rfl ?_
  obtain ⟨q3217, h3218, h⟩ := Option.bind_eq_some_iff.mp h
  refine q_pick [1, 0] rfl (M_laysFour_L16_ok hL d qF 0 _ _ h3218 ?_)
  refine q_aload_n dX12_laysFour_34 rfl rfl ?_
  refine q_bipush dX12_laysFour_35 (by decide) rfl ?_
  obtain ⟨q3219, h3220, h⟩ := Option.bind_eq_some_iff.mp h
  refine q_callVv (as := [qi 17]) (c := 70) dX12_laysFour_37 ml_X12_414 rfl rfl (hL 70 (by decide)) sh_70 rfl rfl (Nat.le_of_ble_eq_true rfl) (M_puts_ok hL (d + 9) 17 _ _ h3220) rfl ?_
  refine q_aload_n dX12_laysFour_40 rfl rfl ?_
  refine q_getI dX12_laysFour_41 fl_X12_444 (hL 70 (by decide)) sh_70 (by decide) rfl rfl ?_
  refine q_jn (G := fun (t3222 : Int) => qW X (d + 10) yX12_laysFour cX12_laysFour 2 none 52 [(0, qr 70)] [qi t3222] q3219 Q) h (fun t3222 h => ?_) (fun t3222 h hk3926 => ?_)
  · try dsimp only at h
    refine q_istore_n (lv' := [(1, qi t3222), (0, qr 70)]) dX12_laysFour_52 (by decide) rfl rfl ?_
    obtain ⟨q3286, h3287, h⟩ := Option.bind_eq_some_iff.mp h
    refine q_pick [1, 0] rfl (M_laysFour_L53_ok hL d qF t3222 _ _ h3287 ?_)
    cases h
    exact q_return dX12_laysFour_69 rfl hQ
  · skip
    obtain ⟨c3221, h⟩ := qk_some h
    refine q_if_le (tgt := 51) dX12_laysFour_44 (by decide) rfl (qRb_R c3221)  (fun g => ?_) (fun g => ?_)
    · rw [if_pos (show (q3219 70 37) ≤ 0 from g)] at h
      refine q_iconst dX12_laysFour_51 rfl rfl ?_
      cases h
      exact q_pick [0] rfl hk3926
    · rw [if_neg (show ¬ ((q3219 70 37) ≤ 0) from g)] at h
      refine q_iconst dX12_laysFour_47 rfl rfl ?_
      refine q_goto (pc' := 52) dX12_laysFour_48 (by decide) ?_
      cases h
      exact q_pick [0] rfl hk3926
set_option maxRecDepth 20000 in
theorem M_best_ok {X : qX} (hL : ∀ c, c < 93 → c ∈ qLs X) (d : Nat) (a1 : Int) (S : qSto) (o : (Int × qSto)) (h : M_best a1 S = some o) (Q : Option qV → qSto → Prop) (hQ : Q (some (qi o.1)) o.2) : qC X (d + 11) yX12_best cX12_best 2 (some .int) [qr 70, qi a1] S Q := by
  refine q_entry (lv := [(0, qr 70), (1, qi a1)]) pn_X12 (Nat.le_of_ble_eq_true rfl) rfl ?_
  unfold M_best at h
  refine q_iload_n dX12_best_0 rfl rfl ?_
  obtain ⟨c3199, h⟩ := qk_some h
  refine q_i2l dX12_best_1 (qRb_R c3199) rfl ?_
  refine q_lconst (v := 0) dX12_best_2 rfl rfl ?_
  refine q_ldc2 (v := 5) dX12_best_3 qw_1938 rfl ?_
  obtain ⟨q3200, h3201, h⟩ := Option.bind_eq_some_iff.mp h
  refine q_callSi (as := [ql a1, ql 0, ql 5]) dX12_best_6 ml_X12_99 rfl rfl (Nat.le_of_ble_eq_true rfl) (M_in_ok hL (d + 10) a1 0 5 _ _ h3201) rfl ?_
  obtain ⟨c3202, h⟩ := qk_some h
  refine q_if_ne (tgt := 14) dX12_best_9 (by decide) rfl (qRb_R c3202)  (fun g => ?_) (fun g => ?_)
  · rw [if_neg (show ¬ (q3200.1 = 0) from g)] at h
    refine q_aload_n dX12_best_14 rfl rfl ?_
    obtain ⟨q3288, h3289, h⟩ := Option.bind_eq_some_iff.mp h
    refine q_callVv (as := []) (c := 70) dX12_best_15 ml_X12_468 rfl rfl (hL 70 (by decide)) sh_70 rfl rfl (Nat.le_of_ble_eq_true rfl) (M_laysFour_ok hL d _ _ h3289) rfl ?_
    refine q_aload_n dX12_best_18 rfl rfl ?_
    refine q_getI dX12_best_19 fl_X12_444 (hL 70 (by decide)) sh_70 (by decide) rfl rfl ?_
    obtain ⟨c3290, h⟩ := qk_some h
    refine q_if_ne (tgt := 27) dX12_best_22 (by decide) rfl (qRb_R c3290)  (fun g => ?_) (fun g => ?_)
    · rw [if_neg (show ¬ ((q3288 70 37) = 0) from g)] at h
      refine q_iload_n dX12_best_27 rfl rfl ?_
      refine q_iconst dX12_best_28 rfl rfl ?_
      obtain ⟨c3291, h⟩ := qk_some h
      refine q_icmp_ge (tgt := 48) dX12_best_29 (by decide) rfl (qRb_R c3291) ⟨by decide, by decide⟩ (fun g => ?_) (fun g => ?_)
      · rw [if_pos (show 2 ≤ a1 from g)] at h
        refine q_iload_n dX12_best_48 rfl rfl ?_
        refine q_iconst dX12_best_49 rfl rfl ?_
        refine q_isub dX12_best_50 rfl ?_
        refine q_aload_n dX12_best_51 rfl rfl ?_
        refine q_getI dX12_best_52 fl_X12_444 (hL 70 (by decide)) sh_70 (by decide) rfl rfl ?_
        obtain ⟨c3292, h⟩ := qk_some h
        obtain ⟨c3293, h⟩ := qk_some h
        refine q_icmp_ge (tgt := 69) dX12_best_55 (by decide) rfl (qRb_R c3292) (qRb_R c3293) (fun g => ?_) (fun g => ?_)
        · rw [if_pos (show (q3288 70 37) ≤ (a1 - 2) from g)] at h
          refine q_bipush dX12_best_69 (by decide) rfl ?_
          cases h
          exact q_ireturn dX12_best_71 rfl hQ
        · rw [if_neg (show ¬ ((q3288 70 37) ≤ (a1 - 2)) from g)] at h
          refine q_aload_n dX12_best_58 rfl rfl ?_
          refine q_getA dX12_best_59 fl_X12_76 (hL 70 (by decide)) sh_70 (by decide) rfl rfl ?_
          refine q_iload_n dX12_best_62 rfl rfl ?_
          refine q_iconst dX12_best_63 rfl rfl ?_
          refine q_isub dX12_best_64 rfl ?_
          obtain ⟨c3294, h⟩ := qk_some h
          refine q_iaload dX12_best_65 (hL 91 (by decide)) sh_91 (qIx_0 c3294) (qIx_1 c3294) rfl ?_
          refine q_goto (pc' := 71) dX12_best_66 (by decide) ?_
          cases h
          exact q_ireturn dX12_best_71 rfl hQ
      · rw [if_neg (show ¬ (2 ≤ a1) from g)] at h
        refine q_iload_n dX12_best_32 rfl rfl ?_
        obtain ⟨c3295, h⟩ := qk_some h
        refine q_if_ne (tgt := 43) dX12_best_33 (by decide) rfl (qRb_R c3295)  (fun g => ?_) (fun g => ?_)
        · rw [if_neg (show ¬ (a1 = 0) from g)] at h
          refine q_aload_n dX12_best_43 rfl rfl ?_
          refine q_getI dX12_best_44 fl_X12_453 (hL 70 (by decide)) sh_70 (by decide) rfl rfl ?_
          cases h
          exact q_ireturn dX12_best_47 rfl hQ
        · rw [if_pos (show a1 = 0 from g)] at h
          refine q_aload_n dX12_best_36 rfl rfl ?_
          refine q_getI dX12_best_37 fl_X12_450 (hL 70 (by decide)) sh_70 (by decide) rfl rfl ?_
          refine q_goto (pc' := 47) dX12_best_40 (by decide) ?_
          cases h
          exact q_ireturn dX12_best_47 rfl hQ
    · rw [if_pos (show (q3288 70 37) = 0 from g)] at h
      refine q_iconst dX12_best_25 rfl rfl ?_
      cases h
      exact q_ireturn dX12_best_26 rfl hQ
  · rw [if_pos (show q3200.1 = 0 from g)] at h
    refine q_iconst dX12_best_12 rfl rfl ?_
    cases h
    exact q_ireturn dX12_best_13 rfl hQ
set_option maxRecDepth 20000 in
theorem M_isLying_ok {X : qX} (hL : ∀ c, c < 93 → c ∈ qLs X) (d : Nat) (a1 : Int) (a2 : Int) (S : qSto) (o : (Int × qSto)) (h : M_isLying a1 a2 S = some o) (Q : Option qV → qSto → Prop) (hQ : Q (some (qi o.1)) o.2) : qC X (d + 1) yX12_isLying cX12_isLying 3 (some .boolean) [qr 70, qi a1, qi a2] S Q := by
  refine q_entry (lv := [(0, qr 70), (1, qi a1), (2, qi a2)]) pn_X12 (Nat.le_of_ble_eq_true rfl) rfl ?_
  unfold M_isLying at h
  refine q_aload_n dX12_isLying_0 rfl rfl ?_
  refine q_iload_n dX12_isLying_1 rfl rfl ?_
  obtain ⟨q3304, h3305, h⟩ := Option.bind_eq_some_iff.mp h
  refine q_callVi (as := [qi a1]) (c := 70) dX12_isLying_2 ml_X12_326 rfl rfl (hL 70 (by decide)) sh_70 rfl rfl (Nat.le_of_ble_eq_true rfl) (M_stays_ok hL d a1 _ _ h3305) rfl ?_
  obtain ⟨c3306, h⟩ := qk_some h
  refine q_if_eq (tgt := 32) dX12_isLying_5 (by decide) rfl (qRb_R c3306)  (fun g => ?_) (fun g => ?_)
  · rw [if_pos (show q3304.1 = 0 from g)] at h
    refine q_iconst dX12_isLying_32 rfl rfl ?_
    cases h
    exact q_zreturn dX12_isLying_33 rfl (by decide) hQ
  · rw [if_neg (show ¬ (q3304.1 = 0) from g)] at h
    refine q_iload_n dX12_isLying_8 rfl rfl ?_
    refine q_aload_n dX12_isLying_9 rfl rfl ?_
    refine q_getA dX12_isLying_10 fl_X12_39 (hL 70 (by decide)) sh_70 (by decide) rfl rfl ?_
    refine q_iload_n dX12_isLying_13 rfl rfl ?_
    obtain ⟨c3307, h⟩ := qk_some h
    refine q_iaload dX12_isLying_14 (hL 79 (by decide)) sh_79 (qIx_0 c3307) (qIx_1 c3307) rfl ?_
    obtain ⟨c3308, h⟩ := qk_some h
    obtain ⟨c3309, h⟩ := qk_some h
    refine q_icmp_lt (tgt := 32) dX12_isLying_15 (by decide) rfl (qRb_R c3308) (qRb_R c3309) (fun g => ?_) (fun g => ?_)
    · rw [if_pos (show a2 < (q3304.2 79 (Int.toNat a1)) from g)] at h
      refine q_iconst dX12_isLying_32 rfl rfl ?_
      cases h
      exact q_zreturn dX12_isLying_33 rfl (by decide) hQ
    · rw [if_neg (show ¬ (a2 < (q3304.2 79 (Int.toNat a1))) from g)] at h
      refine q_iload_n dX12_isLying_18 rfl rfl ?_
      refine q_aload_n dX12_isLying_19 rfl rfl ?_
      refine q_getA dX12_isLying_20 fl_X12_48 (hL 70 (by decide)) sh_70 (by decide) rfl rfl ?_
      refine q_iload_n dX12_isLying_23 rfl rfl ?_
      obtain ⟨c3310, h⟩ := qk_some h
      refine q_iaload dX12_isLying_24 (hL 82 (by decide)) sh_82 (qIx_0 c3310) (qIx_1 c3310) rfl ?_
      obtain ⟨c3311, h⟩ := qk_some h
      obtain ⟨c3312, h⟩ := qk_some h
      refine q_icmp_ge (tgt := 32) dX12_isLying_25 (by decide) rfl (qRb_R c3311) (qRb_R c3312) (fun g => ?_) (fun g => ?_)
      · rw [if_pos (show (q3304.2 82 (Int.toNat a1)) ≤ a2 from g)] at h
        refine q_iconst dX12_isLying_32 rfl rfl ?_
        cases h
        exact q_zreturn dX12_isLying_33 rfl (by decide) hQ
      · rw [if_neg (show ¬ ((q3304.2 82 (Int.toNat a1)) ≤ a2) from g)] at h
        refine q_iconst dX12_isLying_28 rfl rfl ?_
        refine q_goto (pc' := 33) dX12_isLying_29 (by decide) ?_
        cases h
        exact q_zreturn dX12_isLying_33 rfl (by decide) hQ
set_option maxRecDepth 20000 in
theorem M_liesAt_L2_ok {X : qX} (hL : ∀ c, c < 93 → c ∈ qLs X) (d : Nat) {Q : Option qV → qSto → Prop} : ∀ (n : Nat) (x1 : Int) (x2 : Int) (x3 : Int) (S : qSto) (o : (qSto ⊕ (Int × qSto))), M_liesAt_L2 n x1 x2 x3 S = some o → (∀ t, o = Sum.inl t → qW X (d + 2) yX12_liesAt cX12_liesAt 4 (some .int) 49 [] [] t Q) → (∀ w, o = Sum.inr w → Q (some (qi w.1)) w.2) → qW X (d + 2) yX12_liesAt cX12_liesAt 4 (some .int) 2 [(0, qr 70), (1, qi x1), (2, qi x2), (3, qi x3)] [] S Q := by
  intro n
  induction n with
  | zero =>
    intro x1 x2 x3 S o h
    simp [M_liesAt_L2] at h
  | succ n ih =>
    intro x1 x2 x3 S o h hE hR
    rw [M_liesAt_L2] at h
    refine q_iload_n dX12_liesAt_2 rfl rfl ?_
    refine q_aload_n dX12_liesAt_3 rfl rfl ?_
    refine q_getA dX12_liesAt_4 fl_X12_13 (hL 70 (by decide)) sh_70 (by decide) rfl rfl ?_
    refine q_bipush dX12_liesAt_7 (by decide) rfl ?_
    refine q_iaload dX12_liesAt_9 (hL 72 (by decide)) sh_72 (by decide) (by decide) rfl ?_
    obtain ⟨c3302, h⟩ := qk_some h
    obtain ⟨c3303, h⟩ := qk_some h
    refine q_icmp_ge (tgt := 49) dX12_liesAt_10 (by decide) rfl (qRb_R c3302) (qRb_R c3303) (fun g => ?_) (fun g => ?_)
    · rw [if_pos (show (S 72 9) ≤ x3 from g)] at h
      cases h
      exact q_pick [] rfl (hE _ rfl)
    · rw [if_neg (show ¬ ((S 72 9) ≤ x3) from g)] at h
      refine q_aload_n dX12_liesAt_13 rfl rfl ?_
      refine q_iload_n dX12_liesAt_14 rfl rfl ?_
      refine q_iload_n dX12_liesAt_15 rfl rfl ?_
      obtain ⟨q3313, h3314, h⟩ := Option.bind_eq_some_iff.mp h
      refine q_callVi (as := [qi x3, qi x1]) (c := 70) dX12_liesAt_16 ml_X12_471 rfl rfl (hL 70 (by decide)) sh_70 rfl rfl (Nat.le_of_ble_eq_true rfl) (M_isLying_ok hL d x3 x1 _ _ h3314) rfl ?_
      obtain ⟨c3315, h⟩ := qk_some h
      refine q_if_eq (tgt := 43) dX12_liesAt_19 (by decide) rfl (qRb_R c3315)  (fun g => ?_) (fun g => ?_)
      · rw [if_pos (show q3313.1 = 0 from g)] at h
        refine q_iinc (lv' := [(3, qi (x3 + 1)), (0, qr 70), (1, qi x1), (2, qi x2)]) dX12_liesAt_43 (by decide) rfl rfl rfl ?_
        refine q_goto (pc' := 2) dX12_liesAt_46 (by decide) ?_
        exact q_pick [1, 2, 3, 0] rfl (ih x1 x2 (x3 + 1) _ _ h hE hR)
      · rw [if_neg (show ¬ (q3313.1 = 0) from g)] at h
        refine q_iload_n dX12_liesAt_22 rfl rfl ?_
        refine q_aload_n dX12_liesAt_23 rfl rfl ?_
        refine q_getA dX12_liesAt_24 fl_X12_36 (hL 70 (by decide)) sh_70 (by decide) rfl rfl ?_
        refine q_iload_n dX12_liesAt_27 rfl rfl ?_
        obtain ⟨c3316, h⟩ := qk_some h
        refine q_iaload dX12_liesAt_28 (hL 78 (by decide)) sh_78 (qIx_0 c3316) (qIx_1 c3316) rfl ?_
        obtain ⟨c3317, h⟩ := qk_some h
        obtain ⟨c3318, h⟩ := qk_some h
        refine q_icmp_lt (tgt := 43) dX12_liesAt_29 (by decide) rfl (qRb_R c3317) (qRb_R c3318) (fun g => ?_) (fun g => ?_)
        · rw [if_pos (show x2 < (q3313.2 78 (Int.toNat x3)) from g)] at h
          refine q_iinc (lv' := [(3, qi (x3 + 1)), (0, qr 70), (1, qi x1), (2, qi x2)]) dX12_liesAt_43 (by decide) rfl rfl rfl ?_
          refine q_goto (pc' := 2) dX12_liesAt_46 (by decide) ?_
          exact q_pick [1, 2, 3, 0] rfl (ih x1 x2 (x3 + 1) _ _ h hE hR)
        · rw [if_neg (show ¬ (x2 < (q3313.2 78 (Int.toNat x3))) from g)] at h
          refine q_iload_n dX12_liesAt_32 rfl rfl ?_
          refine q_aload_n dX12_liesAt_33 rfl rfl ?_
          refine q_iload_n dX12_liesAt_34 rfl rfl ?_
          obtain ⟨q3319, h3320, h⟩ := Option.bind_eq_some_iff.mp h
          refine q_callVi (as := [qi x3]) (c := 70) dX12_liesAt_35 ml_X12_349 rfl rfl (hL 70 (by decide)) sh_70 rfl rfl (Nat.le_of_ble_eq_true rfl) (M_lastMetre_ok hL d x3 _ _ h3320) rfl ?_
          obtain ⟨c3321, h⟩ := qk_some h
          obtain ⟨c3322, h⟩ := qk_some h
          refine q_icmp_gt (tgt := 43) dX12_liesAt_38 (by decide) rfl (qRb_R c3321) (qRb_R c3322) (fun g => ?_) (fun g => ?_)
          · rw [if_pos (show q3319.1 < x2 from g)] at h
            refine q_iinc (lv' := [(3, qi (x3 + 1)), (0, qr 70), (1, qi x1), (2, qi x2)]) dX12_liesAt_43 (by decide) rfl rfl rfl ?_
            refine q_goto (pc' := 2) dX12_liesAt_46 (by decide) ?_
            exact q_pick [1, 2, 3, 0] rfl (ih x1 x2 (x3 + 1) _ _ h hE hR)
          · rw [if_neg (show ¬ (q3319.1 < x2) from g)] at h
            refine q_iload_n dX12_liesAt_41 rfl rfl ?_
            cases h
            exact q_ireturn dX12_liesAt_42 rfl (hR _ rfl)
set_option maxRecDepth 20000 in
theorem M_liesAt_ok {X : qX} (hL : ∀ c, c < 93 → c ∈ qLs X) (d : Nat) (a1 : Int) (a2 : Int) (S : qSto) (o : (Int × qSto)) (h : M_liesAt a1 a2 S = some o) (Q : Option qV → qSto → Prop) (hQ : Q (some (qi o.1)) o.2) : qC X (d + 2) yX12_liesAt cX12_liesAt 4 (some .int) [qr 70, qi a1, qi a2] S Q := by
  refine q_entry (lv := [(0, qr 70), (1, qi a1), (2, qi a2)]) pn_X12 (Nat.le_of_ble_eq_true rfl) rfl ?_
  unfold M_liesAt at h
  refine q_iconst dX12_liesAt_0 rfl rfl ?_
  refine q_istore_n (lv' := [(3, qi 0), (0, qr 70), (1, qi a1), (2, qi a2)]) dX12_liesAt_1 (by decide) rfl rfl ?_
  obtain ⟨q3323, h3324, h⟩ := Option.bind_eq_some_iff.mp h
  refine q_pick [1, 2, 3, 0] rfl (M_liesAt_L2_ok hL d qF a1 a2 0 _ _ h3324 (fun t3325 e3927 => ?_) (fun w e3927 => ?_))
  · subst e3927
    simp only [Sum.elim_inl] at h
    refine q_bipush dX12_liesAt_49 (by decide) rfl ?_
    cases h
    exact q_ireturn dX12_liesAt_51 rfl hQ
  · subst e3927
    simp only [Sum.elim_inr] at h
    cases h
    exact hQ
set_option maxRecDepth 20000 in
theorem M_at_ok {X : qX} (hL : ∀ c, c < 93 → c ∈ qLs X) (d : Nat) (a1 : Int) (a2 : Int) (S : qSto) (o : (Int × qSto)) (h : M_at a1 a2 S = some o) (Q : Option qV → qSto → Prop) (hQ : Q (some (qi o.1)) o.2) : qC X (d + 3) yX12_at cX12_at 3 (some .int) [qr 70, qi a1, qi a2] S Q := by
  refine q_entry (lv := [(0, qr 70), (1, qi a1), (2, qi a2)]) pn_X12 (Nat.le_of_ble_eq_true rfl) rfl ?_
  unfold M_at at h
  refine q_iload_n dX12_at_0 rfl rfl ?_
  obtain ⟨q3296, h3297, h⟩ := Option.bind_eq_some_iff.mp h
  refine q_callSi (as := [qi a1]) dX12_at_1 ml_X12_283 rfl rfl (Nat.le_of_ble_eq_true rfl) (M_isSlot_ok hL (d + 1) a1 _ _ h3297) rfl ?_
  obtain ⟨c3298, h⟩ := qk_some h
  refine q_if_eq (tgt := 24) dX12_at_4 (by decide) rfl (qRb_R c3298)  (fun g => ?_) (fun g => ?_)
  · rw [if_pos (show q3296.1 = 0 from g)] at h
    refine q_iconst dX12_at_24 rfl rfl ?_
    cases h
    exact q_ireturn dX12_at_25 rfl hQ
  · rw [if_neg (show ¬ (q3296.1 = 0) from g)] at h
    refine q_aload_n dX12_at_7 rfl rfl ?_
    refine q_iload_n dX12_at_8 rfl rfl ?_
    obtain ⟨q3299, h3300, h⟩ := Option.bind_eq_some_iff.mp h
    refine q_callVi (as := [qi a2]) (c := 70) dX12_at_9 ml_X12_277 rfl rfl (hL 70 (by decide)) sh_70 rfl rfl (Nat.le_of_ble_eq_true rfl) (M_isMetre_ok hL (d + 1) a2 _ _ h3300) rfl ?_
    obtain ⟨c3301, h⟩ := qk_some h
    refine q_if_eq (tgt := 24) dX12_at_12 (by decide) rfl (qRb_R c3301)  (fun g => ?_) (fun g => ?_)
    · rw [if_pos (show q3299.1 = 0 from g)] at h
      refine q_iconst dX12_at_24 rfl rfl ?_
      cases h
      exact q_ireturn dX12_at_25 rfl hQ
    · rw [if_neg (show ¬ (q3299.1 = 0) from g)] at h
      refine q_aload_n dX12_at_15 rfl rfl ?_
      refine q_iload_n dX12_at_16 rfl rfl ?_
      refine q_iload_n dX12_at_17 rfl rfl ?_
      obtain ⟨q3326, h3327, h⟩ := Option.bind_eq_some_iff.mp h
      refine q_callVi (as := [qi a1, qi a2]) (c := 70) dX12_at_18 ml_X12_474 rfl rfl (hL 70 (by decide)) sh_70 rfl rfl (Nat.le_of_ble_eq_true rfl) (M_liesAt_ok hL d a1 a2 _ _ h3327) rfl ?_
      refine q_goto (pc' := 25) dX12_at_21 (by decide) ?_
      cases h
      exact q_ireturn dX12_at_25 rfl hQ
set_option maxRecDepth 20000 in
theorem M_nextLying_L5_ok {X : qX} (hL : ∀ c, c < 93 → c ∈ qLs X) (d : Nat) {Q : Option qV → qSto → Prop} : ∀ (n : Nat) (x1 : Int) (x2 : Int) (x3 : Int) (x4 : Int) (S : qSto) (o : (Int × qSto)), M_nextLying_L5 n x1 x2 x3 x4 S = some o → (qW X (d + 2) yX12_nextLying cX12_nextLying 5 (some .int) 75 [(3, qi o.1)] [] o.2 Q) → qW X (d + 2) yX12_nextLying cX12_nextLying 5 (some .int) 5 [(0, qr 70), (1, qi x1), (2, qi x2), (3, qi x3), (4, qi x4)] [] S Q := by
  intro n
  induction n with
  | zero =>
    intro x1 x2 x3 x4 S o h
    simp [M_nextLying_L5] at h
  | succ n ih =>
    intro x1 x2 x3 x4 S o h hE
    rw [M_nextLying_L5] at h
    refine q_iload dX12_nextLying_5 rfl rfl ?_
    refine q_aload_n dX12_nextLying_7 rfl rfl ?_
    refine q_getA dX12_nextLying_8 fl_X12_13 (hL 70 (by decide)) sh_70 (by decide) rfl rfl ?_
    refine q_bipush dX12_nextLying_11 (by decide) rfl ?_
    refine q_iaload dX12_nextLying_13 (hL 72 (by decide)) sh_72 (by decide) (by decide) rfl ?_
    obtain ⟨c3332, h⟩ := qk_some h
    obtain ⟨c3333, h⟩ := qk_some h
    refine q_icmp_ge (tgt := 75) dX12_nextLying_14 (by decide) rfl (qRb_R c3332) (qRb_R c3333) (fun g => ?_) (fun g => ?_)
    · rw [if_pos (show (S 72 9) ≤ x4 from g)] at h
      cases h
      exact q_pick [3] rfl (hE)
    · rw [if_neg (show ¬ ((S 72 9) ≤ x4) from g)] at h
      refine q_aload_n dX12_nextLying_17 rfl rfl ?_
      refine q_iload dX12_nextLying_18 rfl rfl ?_
      refine q_iload_n dX12_nextLying_20 rfl rfl ?_
      obtain ⟨q3334, h3335, h⟩ := Option.bind_eq_some_iff.mp h
      refine q_callVi (as := [qi x4, qi x1]) (c := 70) dX12_nextLying_21 ml_X12_471 rfl rfl (hL 70 (by decide)) sh_70 rfl rfl (Nat.le_of_ble_eq_true rfl) (M_isLying_ok hL d x4 x1 _ _ h3335) rfl ?_
      refine q_jn (G := fun (t3346 : Int) => qW X (d + 2) yX12_nextLying cX12_nextLying 5 (some .int) 69 [(0, qr 70), (1, qi x1), (2, qi x2), (3, qi t3346), (4, qi x4)] [] q3334.2 Q) h (fun t3346 h => ?_) (fun t3346 h hk3928 => ?_)
      · try dsimp only at h
        refine q_iinc (lv' := [(4, qi (x4 + 1)), (0, qr 70), (1, qi x1), (2, qi x2), (3, qi t3346)]) dX12_nextLying_69 (by decide) rfl rfl rfl ?_
        refine q_goto (pc' := 5) dX12_nextLying_72 (by decide) ?_
        exact q_pick [1, 2, 3, 4, 0] rfl (ih x1 x2 t3346 (x4 + 1) _ _ h hE)
      · skip
        obtain ⟨c3336, h⟩ := qk_some h
        refine q_if_eq (tgt := 69) dX12_nextLying_24 (by decide) rfl (qRb_R c3336)  (fun g => ?_) (fun g => ?_)
        · rw [if_pos (show q3334.1 = 0 from g)] at h
          cases h
          exact q_pick [0, 1, 2, 3, 4] rfl hk3928
        · rw [if_neg (show ¬ (q3334.1 = 0) from g)] at h
          refine q_aload_n dX12_nextLying_27 rfl rfl ?_
          refine q_getA dX12_nextLying_28 fl_X12_36 (hL 70 (by decide)) sh_70 (by decide) rfl rfl ?_
          refine q_iload dX12_nextLying_31 rfl rfl ?_
          obtain ⟨c3337, h⟩ := qk_some h
          refine q_iaload dX12_nextLying_33 (hL 78 (by decide)) sh_78 (qIx_0 c3337) (qIx_1 c3337) rfl ?_
          refine q_iload_n dX12_nextLying_34 rfl rfl ?_
          obtain ⟨c3338, h⟩ := qk_some h
          obtain ⟨c3339, h⟩ := qk_some h
          refine q_icmp_gt (tgt := 41) dX12_nextLying_35 (by decide) rfl (qRb_R c3338) (qRb_R c3339) (fun g => ?_) (fun g => ?_)
          · rw [if_pos (show x2 < (q3334.2 78 (Int.toNat x4)) from g)] at h
            refine q_iload_n dX12_nextLying_41 rfl rfl ?_
            refine q_iconst dX12_nextLying_42 rfl rfl ?_
            refine q_jn (G := fun (t3345 : Int) => qW X (d + 2) yX12_nextLying cX12_nextLying 5 (some .int) 68 [(0, qr 70), (1, qi x1), (2, qi x2), (4, qi x4)] [qi t3345] q3334.2 Q) h (fun t3345 h => ?_) (fun t3345 h hk3929 => ?_)
            · try dsimp only at h
              refine q_istore_n (lv' := [(3, qi t3345), (0, qr 70), (1, qi x1), (2, qi x2), (4, qi x4)]) dX12_nextLying_68 (by decide) rfl rfl ?_
              cases h
              exact q_pick [1, 2, 3, 0, 4] rfl hk3928
            · skip
              obtain ⟨c3340, h⟩ := qk_some h
              refine q_icmp_eq (tgt := 62) dX12_nextLying_43 (by decide) rfl (qRb_R c3340) ⟨by decide, by decide⟩ (fun g => ?_) (fun g => ?_)
              · rw [if_pos (show x3 = (-1) from g)] at h
                refine q_iload dX12_nextLying_62 rfl rfl ?_
                refine q_goto (pc' := 68) dX12_nextLying_64 (by decide) ?_
                cases h
                exact q_pick [0, 1, 2, 4] rfl hk3929
              · rw [if_neg (show ¬ (x3 = (-1)) from g)] at h
                refine q_aload_n dX12_nextLying_46 rfl rfl ?_
                refine q_getA dX12_nextLying_47 fl_X12_36 (hL 70 (by decide)) sh_70 (by decide) rfl rfl ?_
                refine q_iload dX12_nextLying_50 rfl rfl ?_
                obtain ⟨c3341, h⟩ := qk_some h
                refine q_iaload dX12_nextLying_52 (hL 78 (by decide)) sh_78 (qIx_0 c3341) (qIx_1 c3341) rfl ?_
                refine q_aload_n dX12_nextLying_53 rfl rfl ?_
                refine q_getA dX12_nextLying_54 fl_X12_36 (hL 70 (by decide)) sh_70 (by decide) rfl rfl ?_
                refine q_iload_n dX12_nextLying_57 rfl rfl ?_
                obtain ⟨c3342, h⟩ := qk_some h
                refine q_iaload dX12_nextLying_58 (hL 78 (by decide)) sh_78 (qIx_0 c3342) (qIx_1 c3342) rfl ?_
                obtain ⟨c3343, h⟩ := qk_some h
                obtain ⟨c3344, h⟩ := qk_some h
                refine q_icmp_ge (tgt := 67) dX12_nextLying_59 (by decide) rfl (qRb_R c3343) (qRb_R c3344) (fun g => ?_) (fun g => ?_)
                · rw [if_pos (show (q3334.2 78 (Int.toNat x3)) ≤ (q3334.2 78 (Int.toNat x4)) from g)] at h
                  refine q_iload_n dX12_nextLying_67 rfl rfl ?_
                  cases h
                  exact q_pick [0, 1, 2, 4] rfl hk3929
                · rw [if_neg (show ¬ ((q3334.2 78 (Int.toNat x3)) ≤ (q3334.2 78 (Int.toNat x4))) from g)] at h
                  refine q_iload dX12_nextLying_62 rfl rfl ?_
                  refine q_goto (pc' := 68) dX12_nextLying_64 (by decide) ?_
                  cases h
                  exact q_pick [0, 1, 2, 4] rfl hk3929
          · rw [if_neg (show ¬ (x2 < (q3334.2 78 (Int.toNat x4))) from g)] at h
            refine q_goto (pc' := 69) dX12_nextLying_38 (by decide) ?_
            cases h
            exact q_pick [0, 1, 2, 3, 4] rfl hk3928
set_option maxRecDepth 20000 in
theorem M_nextLying_ok {X : qX} (hL : ∀ c, c < 93 → c ∈ qLs X) (d : Nat) (a1 : Int) (a2 : Int) (S : qSto) (o : (Int × qSto)) (h : M_nextLying a1 a2 S = some o) (Q : Option qV → qSto → Prop) (hQ : Q (some (qi o.1)) o.2) : qC X (d + 2) yX12_nextLying cX12_nextLying 5 (some .int) [qr 70, qi a1, qi a2] S Q := by
  refine q_entry (lv := [(0, qr 70), (1, qi a1), (2, qi a2)]) pn_X12 (Nat.le_of_ble_eq_true rfl) rfl ?_
  unfold M_nextLying at h
  refine q_iconst dX12_nextLying_0 rfl rfl ?_
  refine q_istore_n (lv' := [(3, qi (-1)), (0, qr 70), (1, qi a1), (2, qi a2)]) dX12_nextLying_1 (by decide) rfl rfl ?_
  refine q_iconst dX12_nextLying_2 rfl rfl ?_
  refine q_istore (lv' := [(4, qi 0), (3, qi (-1)), (0, qr 70), (1, qi a1), (2, qi a2)]) dX12_nextLying_3 (by decide) rfl rfl ?_
  obtain ⟨q3347, h3348, h⟩ := Option.bind_eq_some_iff.mp h
  refine q_pick [2, 3, 4, 1, 0] rfl (M_nextLying_L5_ok hL d qF a1 a2 (-1) 0 _ _ h3348 ?_)
  refine q_iload_n dX12_nextLying_75 rfl rfl ?_
  cases h
  exact q_ireturn dX12_nextLying_76 rfl hQ
