set_option maxRecDepth 20000 in
theorem C_shut_L30_ok {X : qX} (hL : ∀ c, c < 93 → c ∈ qLs X) (d : Nat) {Q : Option qV → qSto → Prop} : ∀ (n : Nat) (x1 : Int) (x2 : Int) (x3 : Int) (x4 : Int) (x5 : Int) (x6 : Int) (S : qSto) (o : (Int × Int × qSto)), C_shut_L30 n x1 x3 x4 x5 x6 S = some o → (qW X (d + 1) yX11_shut cX11_shut 7 (some .int) 85 [(2, qi x2), (3, qi o.1), (4, qi o.2.1)] [] o.2.2 Q) → qW X (d + 1) yX11_shut cX11_shut 7 (some .int) 30 [(0, qr 0), (1, qi x1), (2, qi x2), (3, qi x3), (4, qi x4), (5, qi x5), (6, qi x6)] [] S Q := by
  intro n
  induction n with
  | zero =>
    intro x1 x2 x3 x4 x5 x6 S o h
    simp [C_shut_L30] at h
  | succ n ih =>
    intro x1 x2 x3 x4 x5 x6 S o h hE
    rw [C_shut_L30] at h
    refine q_iload dX11_shut_30 rfl rfl ?_
    refine q_sipush dX11_shut_32 (by decide) rfl ?_
    obtain ⟨c286, h⟩ := qk_some h
    refine q_icmp_ge (tgt := 85) dX11_shut_35 (by decide) rfl (qRb_R c286) ⟨by decide, by decide⟩ (fun g => ?_) (fun g => ?_)
    · rw [if_pos (show 336 ≤ x6 from g)] at h
      cases h
      exact q_pick [2, 3, 4] rfl (hE)
    · rw [if_neg (show ¬ (336 ≤ x6) from g)] at h
      refine q_aload_n dX11_shut_38 rfl rfl ?_
      refine q_getA dX11_shut_39 fl_X11_40 (hL 0 (by decide)) sh_0 (by decide) rfl rfl ?_
      refine q_iload_n dX11_shut_42 rfl rfl ?_
      refine q_iload dX11_shut_43 rfl rfl ?_
      obtain ⟨q287, h288, h⟩ := Option.bind_eq_some_iff.mp h
      refine q_callVi (as := [qi x1, qi x6]) (c := 5) dX11_shut_45 ml_X11_254 rfl rfl (hL 5 (by decide)) sh_5 rfl rfl (Nat.le_of_ble_eq_true rfl) (Waters_isOpen_ok hL d x1 x6 _ _ h288) rfl ?_
      refine q_jn (G := fun (t290 : Int) => qW X (d + 1) yX11_shut cX11_shut 7 (some .int) 59 [(0, qr 0), (1, qi x1), (2, qi x2), (3, qi x3), (4, qi x4), (6, qi x6)] [qi t290] q287.2 Q) h (fun t290 h => ?_) (fun t290 h hk3761 => ?_)
      · try dsimp only at h
        refine q_istore (lv' := [(5, qi t290), (0, qr 0), (1, qi x1), (2, qi x2), (3, qi x3), (4, qi x4), (6, qi x6)]) dX11_shut_59 (by decide) rfl rfl ?_
        refine q_iload dX11_shut_61 rfl rfl ?_
        refine q_iload_n dX11_shut_63 rfl rfl ?_
        refine q_jn (G := fun (t293 : (Int × Int)) => qW X (d + 1) yX11_shut cX11_shut 7 (some .int) 79 [(0, qr 0), (1, qi x1), (2, qi x2), (3, qi t293.1), (4, qi t293.2), (5, qi t290), (6, qi x6)] [] q287.2 Q) h (fun t293 h => ?_) (fun t293 h hk3762 => ?_)
        · try dsimp only at h
          refine q_iinc (lv' := [(6, qi (x6 + 1)), (0, qr 0), (1, qi x1), (2, qi x2), (3, qi t293.1), (4, qi t293.2), (5, qi t290)]) dX11_shut_79 (by decide) rfl rfl rfl ?_
          refine q_goto (pc' := 30) dX11_shut_82 (by decide) ?_
          exact q_pick [1, 2, 3, 4, 5, 6, 0] rfl (ih x1 x2 t293.1 t293.2 t290 (x6 + 1) _ _ h hE)
        · skip
          obtain ⟨c291, h⟩ := qk_some h
          obtain ⟨c292, h⟩ := qk_some h
          refine q_icmp_le (tgt := 79) dX11_shut_64 (by decide) rfl (qRb_R c291) (qRb_R c292) (fun g => ?_) (fun g => ?_)
          · rw [if_pos (show t290 ≤ x3 from g)] at h
            cases h
            exact q_pick [1, 2, 3, 4, 5, 0, 6] rfl hk3762
          · rw [if_neg (show ¬ (t290 ≤ x3) from g)] at h
            refine q_iload dX11_shut_67 rfl rfl ?_
            refine q_istore_n (lv' := [(3, qi t290), (5, qi t290), (0, qr 0), (1, qi x1), (2, qi x2), (4, qi x4), (6, qi x6)]) dX11_shut_69 (by decide) rfl rfl ?_
            refine q_iload dX11_shut_70 rfl rfl ?_
            refine q_iload dX11_shut_72 rfl rfl ?_
            refine q_isub dX11_shut_74 rfl ?_
            refine q_iconst dX11_shut_75 rfl rfl ?_
            refine q_iadd dX11_shut_76 rfl ?_
            refine q_istore (lv' := [(4, qi ((x6 - t290) + 1)), (3, qi t290), (5, qi t290), (0, qr 0), (1, qi x1), (2, qi x2), (6, qi x6)]) dX11_shut_77 (by decide) rfl rfl ?_
            cases h
            exact q_pick [3, 4, 5, 1, 0, 2, 6] rfl hk3762
      · skip
        obtain ⟨c289, h⟩ := qk_some h
        refine q_if_eq (tgt := 55) dX11_shut_48 (by decide) rfl (qRb_R c289)  (fun g => ?_) (fun g => ?_)
        · rw [if_pos (show q287.1 = 0 from g)] at h
          refine q_iload dX11_shut_55 rfl rfl ?_
          refine q_iconst dX11_shut_57 rfl rfl ?_
          refine q_iadd dX11_shut_58 rfl ?_
          cases h
          exact q_pick [0, 1, 2, 3, 4, 6] rfl hk3761
        · rw [if_neg (show ¬ (q287.1 = 0) from g)] at h
          refine q_iconst dX11_shut_51 rfl rfl ?_
          refine q_goto (pc' := 59) dX11_shut_52 (by decide) ?_
          cases h
          exact q_pick [0, 1, 2, 3, 4, 6] rfl hk3761
set_option maxRecDepth 20000 in
theorem C_shut_ok {X : qX} (hL : ∀ c, c < 93 → c ∈ qLs X) (d : Nat) (a1 : Int) (a2 : Int) (S : qSto) (o : (Int × qSto)) (h : C_shut a1 a2 S = some o) (Q : Option qV → qSto → Prop) (hQ : Q (some (qi o.1)) o.2) : qC X (d + 1) yX11_shut cX11_shut 7 (some .int) [qr 0, qi a1, qi a2] S Q := by
  refine q_entry (lv := [(0, qr 0), (1, qi a1), (2, qi a2)]) pn_X11 (Nat.le_of_ble_eq_true rfl) rfl ?_
  unfold C_shut at h
  refine q_iload_n dX11_shut_0 rfl rfl ?_
  obtain ⟨q281, h282, h⟩ := Option.bind_eq_some_iff.mp h
  refine q_callSi (as := [qi a1]) dX11_shut_1 ml_X11_251 rfl rfl (Nat.le_of_ble_eq_true rfl) (C_isWater_ok hL d a1 _ _ h282) rfl ?_
  obtain ⟨c283, h⟩ := qk_some h
  refine q_if_eq (tgt := 16) dX11_shut_4 (by decide) rfl (qRb_R c283)  (fun g => ?_) (fun g => ?_)
  · rw [if_pos (show q281.1 = 0 from g)] at h
    refine q_iconst dX11_shut_16 rfl rfl ?_
    cases h
    exact q_ireturn dX11_shut_17 rfl hQ
  · rw [if_neg (show ¬ (q281.1 = 0) from g)] at h
    refine q_iload_n dX11_shut_7 rfl rfl ?_
    obtain ⟨c284, h⟩ := qk_some h
    refine q_if_lt (tgt := 16) dX11_shut_8 (by decide) rfl (qRb_R c284)  (fun g => ?_) (fun g => ?_)
    · rw [if_pos (show a2 < 0 from g)] at h
      refine q_iconst dX11_shut_16 rfl rfl ?_
      cases h
      exact q_ireturn dX11_shut_17 rfl hQ
    · rw [if_neg (show ¬ (a2 < 0) from g)] at h
      refine q_iload_n dX11_shut_11 rfl rfl ?_
      refine q_iconst dX11_shut_12 rfl rfl ?_
      obtain ⟨c285, h⟩ := qk_some h
      refine q_icmp_le (tgt := 18) dX11_shut_13 (by decide) rfl (qRb_R c285) ⟨by decide, by decide⟩ (fun g => ?_) (fun g => ?_)
      · rw [if_pos (show a2 ≤ 1 from g)] at h
        refine q_iconst dX11_shut_18 rfl rfl ?_
        refine q_istore_n (lv' := [(3, qi 0), (0, qr 0), (1, qi a1), (2, qi a2)]) dX11_shut_19 (by decide) rfl rfl ?_
        refine q_bipush dX11_shut_20 (by decide) rfl ?_
        refine q_istore (lv' := [(4, qi (-2)), (3, qi 0), (0, qr 0), (1, qi a1), (2, qi a2)]) dX11_shut_22 (by decide) rfl rfl ?_
        refine q_iconst dX11_shut_24 rfl rfl ?_
        refine q_istore (lv' := [(5, qi 0), (4, qi (-2)), (3, qi 0), (0, qr 0), (1, qi a1), (2, qi a2)]) dX11_shut_25 (by decide) rfl rfl ?_
        refine q_iconst dX11_shut_27 rfl rfl ?_
        refine q_istore (lv' := [(6, qi 0), (5, qi 0), (4, qi (-2)), (3, qi 0), (0, qr 0), (1, qi a1), (2, qi a2)]) dX11_shut_28 (by decide) rfl rfl ?_
        obtain ⟨q294, h295, h⟩ := Option.bind_eq_some_iff.mp h
        refine q_pick [4, 5, 6, 3, 2, 1, 0] rfl (C_shut_L30_ok hL d qF a1 a2 0 (-2) 0 0 _ _ h295 ?_)
        refine q_iload_n dX11_shut_85 rfl rfl ?_
        obtain ⟨c296, h⟩ := qk_some h
        refine q_if_ne (tgt := 93) dX11_shut_86 (by decide) rfl (qRb_R c296)  (fun g => ?_) (fun g => ?_)
        · rw [if_neg (show ¬ (a2 = 0) from g)] at h
          refine q_iload dX11_shut_93 rfl rfl ?_
          cases h
          exact q_ireturn dX11_shut_95 rfl hQ
        · rw [if_pos (show a2 = 0 from g)] at h
          refine q_iload_n dX11_shut_89 rfl rfl ?_
          refine q_goto (pc' := 95) dX11_shut_90 (by decide) ?_
          cases h
          exact q_ireturn dX11_shut_95 rfl hQ
      · rw [if_neg (show ¬ (a2 ≤ 1) from g)] at h
        refine q_iconst dX11_shut_16 rfl rfl ?_
        cases h
        exact q_ireturn dX11_shut_17 rfl hQ
set_option maxRecDepth 20000 in
theorem C_tide_L39_ok {X : qX} (hL : ∀ c, c < 93 → c ∈ qLs X) (d : Nat) {Q : Option qV → qSto → Prop} : ∀ (n : Nat) (x2 : Int) (x3 : Int) (x4 : Int) (x5 : Int) (x6 : Int) (S : qSto) (o : (Int × Int × qSto)), C_tide_L39 n x2 x4 x5 x6 S = some o → (qW X (d + 1) yX11_tide cX11_tide 7 (some .int) 105 [(0, qr 0), (3, qi x3), (4, qi o.1), (5, qi o.2.1)] [] o.2.2 Q) → qW X (d + 1) yX11_tide cX11_tide 7 (some .int) 39 [(0, qr 0), (2, qi x2), (3, qi x3), (4, qi x4), (5, qi x5), (6, qi x6)] [] S Q := by
  intro n
  induction n with
  | zero =>
    intro x2 x3 x4 x5 x6 S o h
    simp [C_tide_L39] at h
  | succ n ih =>
    intro x2 x3 x4 x5 x6 S o h hE
    rw [C_tide_L39] at h
    refine q_iload dX11_tide_39 rfl rfl ?_
    refine q_iload_n dX11_tide_41 rfl rfl ?_
    obtain ⟨c307, h⟩ := qk_some h
    obtain ⟨c308, h⟩ := qk_some h
    refine q_icmp_gt (tgt := 105) dX11_tide_42 (by decide) rfl (qRb_R c307) (qRb_R c308) (fun g => ?_) (fun g => ?_)
    · rw [if_pos (show x2 < x6 from g)] at h
      cases h
      exact q_pick [0, 2, 3, 4] rfl (hE)
    · rw [if_neg (show ¬ (x2 < x6) from g)] at h
      refine q_aload_n dX11_tide_45 rfl rfl ?_
      refine q_getA dX11_tide_46 fl_X11_40 (hL 0 (by decide)) sh_0 (by decide) rfl rfl ?_
      refine q_getA dX11_tide_49 fl_X11_197 (hL 5 (by decide)) sh_5 (by decide) rfl rfl ?_
      refine q_iload dX11_tide_52 rfl rfl ?_
      obtain ⟨c309, h⟩ := qk_some h
      refine q_iaload dX11_tide_54 (hL 36 (by decide)) sh_36 (qIx_0 c309) (qIx_1 c309) rfl ?_
      refine q_aload_n dX11_tide_55 rfl rfl ?_
      refine q_getA dX11_tide_56 fl_X11_40 (hL 0 (by decide)) sh_0 (by decide) rfl rfl ?_
      refine q_getA dX11_tide_59 fl_X11_197 (hL 5 (by decide)) sh_5 (by decide) rfl rfl ?_
      refine q_iload dX11_tide_62 rfl rfl ?_
      obtain ⟨c310, h⟩ := qk_some h
      refine q_iaload dX11_tide_64 (hL 36 (by decide)) sh_36 (qIx_0 c310) (qIx_1 c310) rfl ?_
      refine q_jn (G := fun (t313 : Int) => qW X (d + 1) yX11_tide cX11_tide 7 (some .int) 72 [(0, qr 0), (2, qi x2), (3, qi x3), (4, qi t313), (5, qi x5), (6, qi x6)] [] S Q) h (fun t313 h => ?_) (fun t313 h hk3763 => ?_)
      · try dsimp only at h
        refine q_aload_n dX11_tide_72 rfl rfl ?_
        refine q_getA dX11_tide_73 fl_X11_40 (hL 0 (by decide)) sh_0 (by decide) rfl rfl ?_
        refine q_getA dX11_tide_76 fl_X11_197 (hL 5 (by decide)) sh_5 (by decide) rfl rfl ?_
        refine q_iload dX11_tide_79 rfl rfl ?_
        obtain ⟨c314, h⟩ := qk_some h
        refine q_iaload dX11_tide_81 (hL 36 (by decide)) sh_36 (qIx_0 c314) (qIx_1 c314) rfl ?_
        refine q_aload_n dX11_tide_82 rfl rfl ?_
        refine q_getA dX11_tide_83 fl_X11_40 (hL 0 (by decide)) sh_0 (by decide) rfl rfl ?_
        refine q_getA dX11_tide_86 fl_X11_197 (hL 5 (by decide)) sh_5 (by decide) rfl rfl ?_
        refine q_iload dX11_tide_89 rfl rfl ?_
        obtain ⟨c315, h⟩ := qk_some h
        refine q_iaload dX11_tide_91 (hL 36 (by decide)) sh_36 (qIx_0 c315) (qIx_1 c315) rfl ?_
        refine q_jn (G := fun (t318 : Int) => qW X (d + 1) yX11_tide cX11_tide 7 (some .int) 99 [(0, qr 0), (2, qi x2), (3, qi x3), (4, qi t313), (5, qi t318), (6, qi x6)] [] S Q) h (fun t318 h => ?_) (fun t318 h hk3764 => ?_)
        · try dsimp only at h
          refine q_iinc (lv' := [(6, qi (x6 + 1)), (0, qr 0), (2, qi x2), (3, qi x3), (4, qi t313), (5, qi t318)]) dX11_tide_99 (by decide) rfl rfl rfl ?_
          refine q_goto (pc' := 39) dX11_tide_102 (by decide) ?_
          exact q_pick [1, 2, 3, 4, 5, 0] rfl (ih x2 x3 t313 t318 (x6 + 1) _ _ h hE)
        · skip
          obtain ⟨c316, h⟩ := qk_some h
          obtain ⟨c317, h⟩ := qk_some h
          refine q_icmp_ge (tgt := 99) dX11_tide_92 (by decide) rfl (qRb_R c316) (qRb_R c317) (fun g => ?_) (fun g => ?_)
          · rw [if_pos (show (S 36 (Int.toNat x5)) ≤ (S 36 (Int.toNat x6)) from g)] at h
            cases h
            exact q_pick [0, 1, 2, 3, 4, 5] rfl hk3764
          · rw [if_neg (show ¬ ((S 36 (Int.toNat x5)) ≤ (S 36 (Int.toNat x6))) from g)] at h
            refine q_iload dX11_tide_95 rfl rfl ?_
            refine q_istore (lv' := [(5, qi x6), (0, qr 0), (2, qi x2), (3, qi x3), (4, qi t313), (6, qi x6)]) dX11_tide_97 (by decide) rfl rfl ?_
            cases h
            exact q_pick [1, 2, 3, 4, 0, 5] rfl hk3764
      · skip
        obtain ⟨c311, h⟩ := qk_some h
        obtain ⟨c312, h⟩ := qk_some h
        refine q_icmp_le (tgt := 72) dX11_tide_65 (by decide) rfl (qRb_R c311) (qRb_R c312) (fun g => ?_) (fun g => ?_)
        · rw [if_pos (show (S 36 (Int.toNat x6)) ≤ (S 36 (Int.toNat x4)) from g)] at h
          cases h
          exact q_pick [0, 1, 2, 3, 4, 5] rfl hk3763
        · rw [if_neg (show ¬ ((S 36 (Int.toNat x6)) ≤ (S 36 (Int.toNat x4))) from g)] at h
          refine q_iload dX11_tide_68 rfl rfl ?_
          refine q_istore (lv' := [(4, qi x6), (0, qr 0), (2, qi x2), (3, qi x3), (5, qi x5), (6, qi x6)]) dX11_tide_70 (by decide) rfl rfl ?_
          cases h
          exact q_pick [1, 2, 3, 0, 4, 5] rfl hk3763
set_option maxRecDepth 20000 in
theorem C_tide_ok {X : qX} (hL : ∀ c, c < 93 → c ∈ qLs X) (d : Nat) (a1 : Int) (a2 : Int) (a3 : Int) (S : qSto) (o : (Int × qSto)) (h : C_tide a1 a2 a3 S = some o) (Q : Option qV → qSto → Prop) (hQ : Q (some (qi o.1)) o.2) : qC X (d + 1) yX11_tide cX11_tide 7 (some .int) [qr 0, qi a1, qi a2, qi a3] S Q := by
  refine q_entry (lv := [(0, qr 0), (1, qi a1), (2, qi a2), (3, qi a3)]) pn_X11 (Nat.le_of_ble_eq_true rfl) rfl ?_
  unfold C_tide at h
  refine q_iload_n dX11_tide_0 rfl rfl ?_
  obtain ⟨q297, h298, h⟩ := Option.bind_eq_some_iff.mp h
  refine q_callSi (as := [qi a1]) dX11_tide_1 ml_X11_194 rfl rfl (Nat.le_of_ble_eq_true rfl) (C_isSlot_ok hL d a1 _ _ h298) rfl ?_
  obtain ⟨c299, h⟩ := qk_some h
  refine q_if_eq (tgt := 28) dX11_tide_4 (by decide) rfl (qRb_R c299)  (fun g => ?_) (fun g => ?_)
  · rw [if_pos (show q297.1 = 0 from g)] at h
    refine q_iconst dX11_tide_28 rfl rfl ?_
    cases h
    exact q_ireturn dX11_tide_29 rfl hQ
  · rw [if_neg (show ¬ (q297.1 = 0) from g)] at h
    refine q_iload_n dX11_tide_7 rfl rfl ?_
    obtain ⟨q300, h301, h⟩ := Option.bind_eq_some_iff.mp h
    refine q_callSi (as := [qi a2]) dX11_tide_8 ml_X11_194 rfl rfl (Nat.le_of_ble_eq_true rfl) (C_isSlot_ok hL d a2 _ _ h301) rfl ?_
    obtain ⟨c302, h⟩ := qk_some h
    refine q_if_eq (tgt := 28) dX11_tide_11 (by decide) rfl (qRb_R c302)  (fun g => ?_) (fun g => ?_)
    · rw [if_pos (show q300.1 = 0 from g)] at h
      refine q_iconst dX11_tide_28 rfl rfl ?_
      cases h
      exact q_ireturn dX11_tide_29 rfl hQ
    · rw [if_neg (show ¬ (q300.1 = 0) from g)] at h
      refine q_iload_n dX11_tide_14 rfl rfl ?_
      refine q_iload_n dX11_tide_15 rfl rfl ?_
      obtain ⟨c303, h⟩ := qk_some h
      obtain ⟨c304, h⟩ := qk_some h
      refine q_icmp_lt (tgt := 28) dX11_tide_16 (by decide) rfl (qRb_R c303) (qRb_R c304) (fun g => ?_) (fun g => ?_)
      · rw [if_pos (show a2 < a1 from g)] at h
        refine q_iconst dX11_tide_28 rfl rfl ?_
        cases h
        exact q_ireturn dX11_tide_29 rfl hQ
      · rw [if_neg (show ¬ (a2 < a1) from g)] at h
        refine q_iload_n dX11_tide_19 rfl rfl ?_
        obtain ⟨c305, h⟩ := qk_some h
        refine q_if_lt (tgt := 28) dX11_tide_20 (by decide) rfl (qRb_R c305)  (fun g => ?_) (fun g => ?_)
        · rw [if_pos (show a3 < 0 from g)] at h
          refine q_iconst dX11_tide_28 rfl rfl ?_
          cases h
          exact q_ireturn dX11_tide_29 rfl hQ
        · rw [if_neg (show ¬ (a3 < 0) from g)] at h
          refine q_iload_n dX11_tide_23 rfl rfl ?_
          refine q_iconst dX11_tide_24 rfl rfl ?_
          obtain ⟨c306, h⟩ := qk_some h
          refine q_icmp_le (tgt := 30) dX11_tide_25 (by decide) rfl (qRb_R c306) ⟨by decide, by decide⟩ (fun g => ?_) (fun g => ?_)
          · rw [if_pos (show a3 ≤ 3 from g)] at h
            refine q_iload_n dX11_tide_30 rfl rfl ?_
            refine q_istore (lv' := [(4, qi a1), (0, qr 0), (1, qi a1), (2, qi a2), (3, qi a3)]) dX11_tide_31 (by decide) rfl rfl ?_
            refine q_iload_n dX11_tide_33 rfl rfl ?_
            refine q_istore (lv' := [(5, qi a1), (4, qi a1), (0, qr 0), (1, qi a1), (2, qi a2), (3, qi a3)]) dX11_tide_34 (by decide) rfl rfl ?_
            refine q_iload_n dX11_tide_36 rfl rfl ?_
            refine q_istore (lv' := [(6, qi a1), (5, qi a1), (4, qi a1), (0, qr 0), (1, qi a1), (2, qi a2), (3, qi a3)]) dX11_tide_37 (by decide) rfl rfl ?_
            obtain ⟨q319, h320, h⟩ := Option.bind_eq_some_iff.mp h
            refine q_pick [3, 5, 6, 2, 1, 0] rfl (C_tide_L39_ok hL d qF a2 a3 a1 a1 a1 _ _ h320 ?_)
            refine q_iload_n dX11_tide_105 rfl rfl ?_
            refine q_iconst dX11_tide_106 rfl rfl ?_
            refine q_jn (G := fun (t322 : Int) => qW X (d + 1) yX11_tide cX11_tide 7 (some .int) 117 [(0, qr 0), (3, qi a3)] [qi t322] q319.2.2 Q) h (fun t322 h => ?_) (fun t322 h hk3765 => ?_)
            · try dsimp only at h
              refine q_istore (lv' := [(6, qi t322), (0, qr 0), (3, qi a3)]) dX11_tide_117 (by decide) rfl rfl ?_
              refine q_iload_n dX11_tide_119 rfl rfl ?_
              refine q_iconst dX11_tide_120 rfl rfl ?_
              obtain ⟨c323, h⟩ := qk_some h
              refine q_irem dX11_tide_121 (qRb_R c323) ⟨by decide, by decide⟩ (by decide) rfl ?_
              obtain ⟨c324, h⟩ := qk_some h
              refine q_if_ne (tgt := 138) dX11_tide_122 (by decide) rfl (qRb_R c324)  (fun g => ?_) (fun g => ?_)
              · rw [if_neg (show ¬ ((Int.tmod a3 2) = 0) from g)] at h
                refine q_iload dX11_tide_138 rfl rfl ?_
                cases h
                exact q_ireturn dX11_tide_140 rfl hQ
              · rw [if_pos (show (Int.tmod a3 2) = 0 from g)] at h
                refine q_aload_n dX11_tide_125 rfl rfl ?_
                refine q_getA dX11_tide_126 fl_X11_40 (hL 0 (by decide)) sh_0 (by decide) rfl rfl ?_
                refine q_getA dX11_tide_129 fl_X11_197 (hL 5 (by decide)) sh_5 (by decide) rfl rfl ?_
                refine q_iload dX11_tide_132 rfl rfl ?_
                obtain ⟨c325, h⟩ := qk_some h
                refine q_iaload dX11_tide_134 (hL 36 (by decide)) sh_36 (qIx_0 c325) (qIx_1 c325) rfl ?_
                refine q_goto (pc' := 140) dX11_tide_135 (by decide) ?_
                cases h
                exact q_ireturn dX11_tide_140 rfl hQ
            · skip
              obtain ⟨c321, h⟩ := qk_some h
              refine q_icmp_ge (tgt := 115) dX11_tide_107 (by decide) rfl (qRb_R c321) ⟨by decide, by decide⟩ (fun g => ?_) (fun g => ?_)
              · rw [if_pos (show 2 ≤ a3 from g)] at h
                refine q_iload dX11_tide_115 rfl rfl ?_
                cases h
                exact q_pick [0, 1] rfl hk3765
              · rw [if_neg (show ¬ (2 ≤ a3) from g)] at h
                refine q_iload dX11_tide_110 rfl rfl ?_
                refine q_goto (pc' := 117) dX11_tide_112 (by decide) ?_
                cases h
                exact q_pick [0, 1] rfl hk3765
          · rw [if_neg (show ¬ (a3 ≤ 3) from g)] at h
            refine q_iconst dX11_tide_28 rfl rfl ?_
            cases h
            exact q_ireturn dX11_tide_29 rfl hQ
set_option maxRecDepth 20000 in
theorem Stays_addBusy_L28_ok {X : qX} (hL : ∀ c, c < 93 → c ∈ qLs X) (d : Nat) {Q : Option qV → qSto → Prop} : ∀ (n : Nat) (x2 : Int) (x3 : Int) (x4 : Int) (S : qSto) (o : qSto), Stays_addBusy_L28 n x2 x3 x4 S = some o → (qW X (d + 1) yX7_addBusy cX7_addBusy 5 none 51 [] [] o Q) → qW X (d + 1) yX7_addBusy cX7_addBusy 5 none 28 [(0, qr 6), (2, qi x2), (3, qi x3), (4, qi x4)] [] S Q := by
  intro n
  induction n with
  | zero =>
    intro x2 x3 x4 S o h
    simp [Stays_addBusy_L28] at h
  | succ n ih =>
    intro x2 x3 x4 S o h hE
    rw [Stays_addBusy_L28] at h
    refine q_iload dX7_addBusy_28 rfl rfl ?_
    refine q_iload_n dX7_addBusy_30 rfl rfl ?_
    obtain ⟨c339, h⟩ := qk_some h
    obtain ⟨c340, h⟩ := qk_some h
    refine q_icmp_ge (tgt := 51) dX7_addBusy_31 (by decide) rfl (qRb_R c339) (qRb_R c340) (fun g => ?_) (fun g => ?_)
    · rw [if_pos (show x3 ≤ x4 from g)] at h
      cases h
      exact q_pick [] rfl (hE)
    · rw [if_neg (show ¬ (x3 ≤ x4) from g)] at h
      refine q_aload_n dX7_addBusy_34 rfl rfl ?_
      refine q_getA dX7_addBusy_35 fl_X7_30 (hL 6 (by decide)) sh_6 (by decide) rfl rfl ?_
      refine q_iload dX7_addBusy_38 rfl rfl ?_
      refine q_dup2 dX7_addBusy_40 rfl ?_
      obtain ⟨c341, h⟩ := qk_some h
      refine q_iaload dX7_addBusy_41 (hL 43 (by decide)) sh_43 (qIx_0 c341) (qIx_1 c341) rfl ?_
      refine q_iload_n dX7_addBusy_42 rfl rfl ?_
      refine q_iadd dX7_addBusy_43 rfl ?_
      obtain ⟨c342, h⟩ := qk_some h
      refine q_iastore dX7_addBusy_44 (hL 43 (by decide)) sh_43 (qIx_0 c342) (qIx_1 c342) rfl ?_
      refine q_iinc (lv' := [(4, qi (x4 + 1)), (0, qr 6), (2, qi x2), (3, qi x3)]) dX7_addBusy_45 (by decide) rfl rfl rfl ?_
      refine q_goto (pc' := 28) dX7_addBusy_48 (by decide) ?_
      exact q_pick [1, 2, 3, 0] rfl (ih x2 x3 (x4 + 1) _ _ h hE)
set_option maxRecDepth 20000 in
theorem Stays_addBusy_ok {X : qX} (hL : ∀ c, c < 93 → c ∈ qLs X) (d : Nat) (a1 : Int) (a2 : Int) (S : qSto) (o : qSto) (h : Stays_addBusy a1 a2 S = some o) (Q : Option qV → qSto → Prop) (hQ : Q none o) : qC X (d + 1) yX7_addBusy cX7_addBusy 5 none [qr 6, qi a1, qi a2] S Q := by
  refine q_entry (lv := [(0, qr 6), (1, qi a1), (2, qi a2)]) pn_X7 (Nat.le_of_ble_eq_true rfl) rfl ?_
  unfold Stays_addBusy at h
  refine q_sipush dX7_addBusy_0 (by decide) rfl ?_
  refine q_aload_n dX7_addBusy_3 rfl rfl ?_
  refine q_getA dX7_addBusy_4 fl_X7_18 (hL 6 (by decide)) sh_6 (by decide) rfl rfl ?_
  refine q_iload_n dX7_addBusy_7 rfl rfl ?_
  obtain ⟨c334, h⟩ := qk_some h
  refine q_iaload dX7_addBusy_8 (hL 39 (by decide)) sh_39 (qIx_0 c334) (qIx_1 c334) rfl ?_
  refine q_aload_n dX7_addBusy_9 rfl rfl ?_
  refine q_getA dX7_addBusy_10 fl_X7_24 (hL 6 (by decide)) sh_6 (by decide) rfl rfl ?_
  refine q_iload_n dX7_addBusy_13 rfl rfl ?_
  obtain ⟨c335, h⟩ := qk_some h
  refine q_iaload dX7_addBusy_14 (hL 41 (by decide)) sh_41 (qIx_0 c335) (qIx_1 c335) rfl ?_
  refine q_iadd dX7_addBusy_15 rfl ?_
  obtain ⟨q336, h337, h⟩ := Option.bind_eq_some_iff.mp h
  refine q_callSi (as := [qi 336, qi ((S 39 (Int.toNat a1)) + (S 41 (Int.toNat a1)))]) dX7_addBusy_16 ml_X7_74 rfl rfl (Nat.le_of_ble_eq_true rfl) (Jm_min_ok hL d 336 ((S 39 (Int.toNat a1)) + (S 41 (Int.toNat a1))) _ _ h337) rfl ?_
  refine q_istore_n (lv' := [(3, qi q336.1), (0, qr 6), (1, qi a1), (2, qi a2)]) dX7_addBusy_19 (by decide) rfl rfl ?_
  refine q_aload_n dX7_addBusy_20 rfl rfl ?_
  refine q_getA dX7_addBusy_21 fl_X7_18 (hL 6 (by decide)) sh_6 (by decide) rfl rfl ?_
  refine q_iload_n dX7_addBusy_24 rfl rfl ?_
  obtain ⟨c338, h⟩ := qk_some h
  refine q_iaload dX7_addBusy_25 (hL 39 (by decide)) sh_39 (qIx_0 c338) (qIx_1 c338) rfl ?_
  refine q_istore (lv' := [(4, qi (q336.2 39 (Int.toNat a1))), (3, qi q336.1), (0, qr 6), (1, qi a1), (2, qi a2)]) dX7_addBusy_26 (by decide) rfl rfl ?_
  obtain ⟨q343, h344, h⟩ := Option.bind_eq_some_iff.mp h
  refine q_pick [2, 4, 1, 0] rfl (Stays_addBusy_L28_ok hL d qF a2 q336.1 (q336.2 39 (Int.toNat a1)) _ _ h344 ?_)
  cases h
  exact q_return dX7_addBusy_51 rfl hQ
set_option maxRecDepth 20000 in
theorem Stays_lift_ok {X : qX} (hL : ∀ c, c < 93 → c ∈ qLs X) (d : Nat) (a1 : Int) (S : qSto) (o : qSto) (h : Stays_lift a1 S = some o) (Q : Option qV → qSto → Prop) (hQ : Q none o) : qC X (d + 2) yX7_lift cX7_lift 2 none [qr 6, qi a1] S Q := by
  refine q_entry (lv := [(0, qr 6), (1, qi a1)]) pn_X7 (Nat.le_of_ble_eq_true rfl) rfl ?_
  unfold Stays_lift at h
  refine q_aload_n dX7_lift_0 rfl rfl ?_
  refine q_iload_n dX7_lift_1 rfl rfl ?_
  refine q_aload_n dX7_lift_2 rfl rfl ?_
  refine q_getA dX7_lift_3 fl_X7_21 (hL 6 (by decide)) sh_6 (by decide) rfl rfl ?_
  refine q_iload_n dX7_lift_6 rfl rfl ?_
  obtain ⟨c333, h⟩ := qk_some h
  refine q_iaload dX7_lift_7 (hL 40 (by decide)) sh_40 (qIx_0 c333) (qIx_1 c333) rfl ?_
  refine q_ineg dX7_lift_8 rfl ?_
  obtain ⟨q345, h346, h⟩ := Option.bind_eq_some_iff.mp h
  refine q_callVv (as := [qi a1, qi (-(S 40 (Int.toNat a1)))]) (c := 6) dX7_lift_9 ml_X7_70 rfl rfl (hL 6 (by decide)) sh_6 rfl rfl (Nat.le_of_ble_eq_true rfl) (Stays_addBusy_ok hL d a1 (-(S 40 (Int.toNat a1))) _ _ h346) rfl ?_
  refine q_aload_n dX7_lift_12 rfl rfl ?_
  refine q_getA dX7_lift_13 fl_X7_21 (hL 6 (by decide)) sh_6 (by decide) rfl rfl ?_
  refine q_iload_n dX7_lift_16 rfl rfl ?_
  refine q_iconst dX7_lift_17 rfl rfl ?_
  obtain ⟨c347, h⟩ := qk_some h
  refine q_iastore dX7_lift_18 (hL 40 (by decide)) sh_40 (qIx_0 c347) (qIx_1 c347) rfl ?_
  cases h
  exact q_return dX7_lift_19 rfl hQ
set_option maxRecDepth 20000 in
theorem Stays_takeUp_ok {X : qX} (hL : ∀ c, c < 93 → c ∈ qLs X) (d : Nat) (a1 : Int) (S : qSto) (o : qSto) (h : Stays_takeUp a1 S = some o) (Q : Option qV → qSto → Prop) (hQ : Q none o) : qC X (d + 3) yX7_takeUp cX7_takeUp 2 none [qr 6, qi a1] S Q := by
  refine q_entry (lv := [(0, qr 6), (1, qi a1)]) pn_X7 (Nat.le_of_ble_eq_true rfl) rfl ?_
  unfold Stays_takeUp at h
  refine q_aload_n dX7_takeUp_0 rfl rfl ?_
  refine q_aload_n dX7_takeUp_1 rfl rfl ?_
  refine q_getA dX7_takeUp_2 fl_X7_9 (hL 6 (by decide)) sh_6 (by decide) rfl rfl ?_
  refine q_iload_n dX7_takeUp_5 rfl rfl ?_
  obtain ⟨c329, h⟩ := qk_some h
  refine q_iaload dX7_takeUp_6 (hL 37 (by decide)) sh_37 (qIx_0 c329) (qIx_1 c329) rfl ?_
  refine q_putI dX7_takeUp_7 fl_X7_79 (hL 6 (by decide)) sh_6 (by decide) pf_7_11 pt_7_11 rfl rfl ?_
  refine q_aload_n dX7_takeUp_10 rfl rfl ?_
  refine q_aload_n dX7_takeUp_11 rfl rfl ?_
  refine q_getA dX7_takeUp_12 fl_X7_18 (hL 6 (by decide)) sh_6 (by decide) rfl rfl ?_
  refine q_iload_n dX7_takeUp_15 rfl rfl ?_
  obtain ⟨c330, h⟩ := qk_some h
  refine q_iaload dX7_takeUp_16 (hL 39 (by decide)) sh_39 (qIx_0 c330) (qIx_1 c330) rfl ?_
  refine q_putI dX7_takeUp_17 fl_X7_82 (hL 6 (by decide)) sh_6 (by decide) pf_7_12 pt_7_12 rfl rfl ?_
  refine q_aload_n dX7_takeUp_20 rfl rfl ?_
  refine q_aload_n dX7_takeUp_21 rfl rfl ?_
  refine q_getA dX7_takeUp_22 fl_X7_21 (hL 6 (by decide)) sh_6 (by decide) rfl rfl ?_
  refine q_iload_n dX7_takeUp_25 rfl rfl ?_
  obtain ⟨c331, h⟩ := qk_some h
  refine q_iaload dX7_takeUp_26 (hL 40 (by decide)) sh_40 (qIx_0 c331) (qIx_1 c331) rfl ?_
  refine q_putI dX7_takeUp_27 fl_X7_85 (hL 6 (by decide)) sh_6 (by decide) pf_7_13 pt_7_13 rfl rfl ?_
  refine q_aload_n dX7_takeUp_30 rfl rfl ?_
  refine q_getI dX7_takeUp_31 fl_X7_85 (hL 6 (by decide)) sh_6 (by decide) rfl rfl ?_
  obtain ⟨c332, h⟩ := qk_some h
  refine q_if_le (tgt := 42) dX7_takeUp_34 (by decide) rfl (qRb_R c332)  (fun g => ?_) (fun g => ?_)
  · rw [if_pos (show ((qup (qup (qup S 6 11 (S 37 (Int.toNat a1))) 6 12 ((qup S 6 11 (S 37 (Int.toNat a1))) 39 (Int.toNat a1))) 6 13 ((qup (qup S 6 11 (S 37 (Int.toNat a1))) 6 12 ((qup S 6 11 (S 37 (Int.toNat a1))) 39 (Int.toNat a1))) 40 (Int.toNat a1))) 6 13) ≤ 0 from g)] at h
    cases h
    exact q_return dX7_takeUp_42 rfl hQ
  · rw [if_neg (show ¬ (((qup (qup (qup S 6 11 (S 37 (Int.toNat a1))) 6 12 ((qup S 6 11 (S 37 (Int.toNat a1))) 39 (Int.toNat a1))) 6 13 ((qup (qup S 6 11 (S 37 (Int.toNat a1))) 6 12 ((qup S 6 11 (S 37 (Int.toNat a1))) 39 (Int.toNat a1))) 40 (Int.toNat a1))) 6 13) ≤ 0) from g)] at h
    refine q_aload_n dX7_takeUp_37 rfl rfl ?_
    refine q_iload_n dX7_takeUp_38 rfl rfl ?_
    obtain ⟨q348, h349, h⟩ := Option.bind_eq_some_iff.mp h
    refine q_callVv (as := [qi a1]) (c := 6) dX7_takeUp_39 ml_X7_88 rfl rfl (hL 6 (by decide)) sh_6 rfl rfl (Nat.le_of_ble_eq_true rfl) (Stays_lift_ok hL d a1 _ _ h349) rfl ?_
    cases h
    exact q_return dX7_takeUp_42 rfl hQ
set_option maxRecDepth 20000 in
theorem Laws_fits_ok {X : qX} (hL : ∀ c, c < 93 → c ∈ qLs X) (d : Nat) (a1 : Int) (a2 : Int) (S : qSto) (o : (Int × qSto)) (h : Laws_fits a1 a2 S = some o) (Q : Option qV → qSto → Prop) (hQ : Q (some (qi o.1)) o.2) : qC X (d + 1) yX3_fits cX3_fits 3 (some .boolean) [qr 8, qi a1, qi a2] S Q := by
  refine q_entry (lv := [(0, qr 8), (1, qi a1), (2, qi a2)]) pn_X3 (Nat.le_of_ble_eq_true rfl) rfl ?_
  unfold Laws_fits at h
  refine q_iload_n dX3_fits_0 rfl rfl ?_
  obtain ⟨c352, h⟩ := qk_some h
  refine q_if_lt (tgt := 31) dX3_fits_1 (by decide) rfl (qRb_R c352)  (fun g => ?_) (fun g => ?_)
  · rw [if_pos (show a2 < 0 from g)] at h
    refine q_iconst dX3_fits_31 rfl rfl ?_
    cases h
    exact q_zreturn dX3_fits_32 rfl (by decide) hQ
  · rw [if_neg (show ¬ (a2 < 0) from g)] at h
    refine q_iload_n dX3_fits_4 rfl rfl ?_
    refine q_aload_n dX3_fits_5 rfl rfl ?_
    refine q_getA dX3_fits_6 fl_X3_9 (hL 8 (by decide)) sh_8 (by decide) rfl rfl ?_
    refine q_getA dX3_fits_9 fl_X3_72 (hL 2 (by decide)) sh_2 (by decide) rfl rfl ?_
    refine q_iconst dX3_fits_12 rfl rfl ?_
    refine q_iaload dX3_fits_13 (hL 15 (by decide)) sh_15 (by decide) (by decide) rfl ?_
    refine q_aload_n dX3_fits_14 rfl rfl ?_
    refine q_getA dX3_fits_15 fl_X3_9 (hL 8 (by decide)) sh_8 (by decide) rfl rfl ?_
    refine q_iload_n dX3_fits_18 rfl rfl ?_
    refine q_iconst dX3_fits_19 rfl rfl ?_
    obtain ⟨q353, h354, h⟩ := Option.bind_eq_some_iff.mp h
    refine q_callVi (as := [qi a1, qi 0]) (c := 2) dX3_fits_20 ml_X3_35 rfl rfl (hL 2 (by decide)) sh_2 rfl rfl (Nat.le_of_ble_eq_true rfl) (Told_contractOf_ok hL d a1 0 _ _ h354) rfl ?_
    refine q_isub dX3_fits_23 rfl ?_
    obtain ⟨c355, h⟩ := qk_some h
    obtain ⟨c356, h⟩ := qk_some h
    refine q_icmp_gt (tgt := 31) dX3_fits_24 (by decide) rfl (qRb_R c355) (qRb_R c356) (fun g => ?_) (fun g => ?_)
    · rw [if_pos (show ((S 15 0) - q353.1) < a2 from g)] at h
      refine q_iconst dX3_fits_31 rfl rfl ?_
      cases h
      exact q_zreturn dX3_fits_32 rfl (by decide) hQ
    · rw [if_neg (show ¬ (((S 15 0) - q353.1) < a2) from g)] at h
      refine q_iconst dX3_fits_27 rfl rfl ?_
      refine q_goto (pc' := 32) dX3_fits_28 (by decide) ?_
      cases h
      exact q_zreturn dX3_fits_32 rfl (by decide) hQ
set_option maxRecDepth 20000 in
theorem Told_workWith_ok {X : qX} (hL : ∀ c, c < 93 → c ∈ qLs X) (d : Nat) (a1 : Int) (a2 : Int) (S : qSto) (o : (Int × qSto)) (h : Told_workWith a1 a2 S = some o) (Q : Option qV → qSto → Prop) (hQ : Q (some (qi o.1)) o.2) : qC X (d + 2) yX8_workWith cX8_workWith 4 (some .int) [qr 2, qi a1, qi a2] S Q := by
  refine q_entry (lv := [(0, qr 2), (1, qi a1), (2, qi a2)]) pn_X8 (Nat.le_of_ble_eq_true rfl) rfl ?_
  unfold Told_workWith at h
  refine q_iconst dX8_workWith_0 rfl rfl ?_
  refine q_aload_n dX8_workWith_1 rfl rfl ?_
  refine q_iload_n dX8_workWith_2 rfl rfl ?_
  obtain ⟨q378, h379, h⟩ := Option.bind_eq_some_iff.mp h
  refine q_callVi (as := [qi a2]) (c := 2) dX8_workWith_3 ml_X8_93 rfl rfl (hL 2 (by decide)) sh_2 rfl rfl (Nat.le_of_ble_eq_true rfl) (Told_movesWith_ok hL d a2 _ _ h379) rfl ?_
  obtain ⟨q380, h381, h⟩ := Option.bind_eq_some_iff.mp h
  refine q_callSi (as := [qi 1, qi q378.1]) dX8_workWith_6 ml_X8_90 rfl rfl (Nat.le_of_ble_eq_true rfl) (Jm_max_ok hL (d + 1) 1 q378.1 _ _ h381) rfl ?_
  refine q_istore_n (lv' := [(3, qi q380.1), (0, qr 2), (1, qi a1), (2, qi a2)]) dX8_workWith_9 (by decide) rfl rfl ?_
  refine q_iconst dX8_workWith_10 rfl rfl ?_
  refine q_aload_n dX8_workWith_11 rfl rfl ?_
  refine q_iload_n dX8_workWith_12 rfl rfl ?_
  refine q_iconst dX8_workWith_13 rfl rfl ?_
  obtain ⟨q382, h383, h⟩ := Option.bind_eq_some_iff.mp h
  refine q_callVi (as := [qi a1, qi 3]) (c := 2) dX8_workWith_14 ml_X8_96 rfl rfl (hL 2 (by decide)) sh_2 rfl rfl (Nat.le_of_ble_eq_true rfl) (Told_contractOf_ok hL (d + 1) a1 3 _ _ h383) rfl ?_
  refine q_iload_n dX8_workWith_17 rfl rfl ?_
  refine q_iadd dX8_workWith_18 rfl ?_
  refine q_iconst dX8_workWith_19 rfl rfl ?_
  refine q_isub dX8_workWith_20 rfl ?_
  refine q_iload_n dX8_workWith_21 rfl rfl ?_
  obtain ⟨c384, h⟩ := qk_some h
  obtain ⟨c385, h⟩ := qk_some h
  obtain ⟨c386, h⟩ := qk_some h
  refine q_idiv dX8_workWith_22 (qRb_R c384) (qRb_R c385) (qNz_ne c386) rfl ?_
  obtain ⟨q387, h388, h⟩ := Option.bind_eq_some_iff.mp h
  refine q_callSi (as := [qi 1, qi (Int.tdiv ((q382.1 + q380.1) - 1) q380.1)]) dX8_workWith_23 ml_X8_90 rfl rfl (Nat.le_of_ble_eq_true rfl) (Jm_max_ok hL (d + 1) 1 (Int.tdiv ((q382.1 + q380.1) - 1) q380.1) _ _ h388) rfl ?_
  cases h
  exact q_ireturn dX8_workWith_26 rfl hQ
set_option maxRecDepth 20000 in
theorem Laws_ofTime_ok {X : qX} (hL : ∀ c, c < 93 → c ∈ qLs X) (d : Nat) (a1 : Int) (a2 : Int) (a3 : Int) (S : qSto) (o : (Int × qSto)) (h : Laws_ofTime a1 a2 a3 S = some o) (Q : Option qV → qSto → Prop) (hQ : Q (some (qi o.1)) o.2) : qC X (d + 3) yX3_ofTime cX3_ofTime 4 (some .int) [qr 8, qi a1, qi a2, qi a3] S Q := by
  refine q_entry (lv := [(0, qr 8), (1, qi a1), (2, qi a2), (3, qi a3)]) pn_X3 (Nat.le_of_ble_eq_true rfl) rfl ?_
  unfold Laws_ofTime at h
  refine q_iload_n dX3_ofTime_0 rfl rfl ?_
  refine q_aload_n dX3_ofTime_1 rfl rfl ?_
  refine q_getA dX3_ofTime_2 fl_X3_9 (hL 8 (by decide)) sh_8 (by decide) rfl rfl ?_
  refine q_iload_n dX3_ofTime_5 rfl rfl ?_
  refine q_iconst dX3_ofTime_6 rfl rfl ?_
  obtain ⟨q360, h361, h⟩ := Option.bind_eq_some_iff.mp h
  refine q_callVi (as := [qi a1, qi 4]) (c := 2) dX3_ofTime_7 ml_X3_35 rfl rfl (hL 2 (by decide)) sh_2 rfl rfl (Nat.le_of_ble_eq_true rfl) (Told_contractOf_ok hL (d + 2) a1 4 _ _ h361) rfl ?_
  obtain ⟨c362, h⟩ := qk_some h
  obtain ⟨c363, h⟩ := qk_some h
  refine q_icmp_ge (tgt := 15) dX3_ofTime_10 (by decide) rfl (qRb_R c362) (qRb_R c363) (fun g => ?_) (fun g => ?_)
  · rw [if_pos (show q360.1 ≤ a2 from g)] at h
    refine q_iload_n dX3_ofTime_15 rfl rfl ?_
    refine q_aload_n dX3_ofTime_16 rfl rfl ?_
    refine q_getA dX3_ofTime_17 fl_X3_9 (hL 8 (by decide)) sh_8 (by decide) rfl rfl ?_
    refine q_iload_n dX3_ofTime_20 rfl rfl ?_
    refine q_bipush dX3_ofTime_21 (by decide) rfl ?_
    obtain ⟨q364, h365, h⟩ := Option.bind_eq_some_iff.mp h
    refine q_callVi (as := [qi a1, qi 7]) (c := 2) dX3_ofTime_23 ml_X3_35 rfl rfl (hL 2 (by decide)) sh_2 rfl rfl (Nat.le_of_ble_eq_true rfl) (Told_contractOf_ok hL (d + 2) a1 7 _ _ h365) rfl ?_
    obtain ⟨c366, h⟩ := qk_some h
    obtain ⟨c367, h⟩ := qk_some h
    refine q_icmp_lt (tgt := 43) dX3_ofTime_26 (by decide) rfl (qRb_R c366) (qRb_R c367) (fun g => ?_) (fun g => ?_)
    · rw [if_pos (show a3 < q364.1 from g)] at h
      refine q_iconst dX3_ofTime_43 rfl rfl ?_
      cases h
      exact q_ireturn dX3_ofTime_44 rfl hQ
    · rw [if_neg (show ¬ (a3 < q364.1) from g)] at h
      refine q_iload_n dX3_ofTime_29 rfl rfl ?_
      refine q_aload_n dX3_ofTime_30 rfl rfl ?_
      refine q_getA dX3_ofTime_31 fl_X3_9 (hL 8 (by decide)) sh_8 (by decide) rfl rfl ?_
      refine q_iload_n dX3_ofTime_34 rfl rfl ?_
      refine q_bipush dX3_ofTime_35 (by decide) rfl ?_
      obtain ⟨q368, h369, h⟩ := Option.bind_eq_some_iff.mp h
      refine q_callVi (as := [qi a1, qi 8]) (c := 2) dX3_ofTime_37 ml_X3_35 rfl rfl (hL 2 (by decide)) sh_2 rfl rfl (Nat.le_of_ble_eq_true rfl) (Told_contractOf_ok hL (d + 2) a1 8 _ _ h369) rfl ?_
      obtain ⟨c370, h⟩ := qk_some h
      obtain ⟨c371, h⟩ := qk_some h
      refine q_icmp_le (tgt := 45) dX3_ofTime_40 (by decide) rfl (qRb_R c370) (qRb_R c371) (fun g => ?_) (fun g => ?_)
      · rw [if_pos (show a3 ≤ q368.1 from g)] at h
        refine q_iload_n dX3_ofTime_45 rfl rfl ?_
        refine q_sipush dX3_ofTime_46 (by decide) rfl ?_
        obtain ⟨c372, h⟩ := qk_some h
        refine q_icmp_ge (tgt := 72) dX3_ofTime_49 (by decide) rfl (qRb_R c372) ⟨by decide, by decide⟩ (fun g => ?_) (fun g => ?_)
        · rw [if_pos (show 336 ≤ a2 from g)] at h
          refine q_iconst dX3_ofTime_72 rfl rfl ?_
          cases h
          exact q_ireturn dX3_ofTime_73 rfl hQ
        · rw [if_neg (show ¬ (336 ≤ a2) from g)] at h
          refine q_aload_n dX3_ofTime_52 rfl rfl ?_
          refine q_getA dX3_ofTime_53 fl_X3_15 (hL 8 (by decide)) sh_8 (by decide) rfl rfl ?_
          refine q_aload_n dX3_ofTime_56 rfl rfl ?_
          refine q_getA dX3_ofTime_57 fl_X3_9 (hL 8 (by decide)) sh_8 (by decide) rfl rfl ?_
          refine q_iload_n dX3_ofTime_60 rfl rfl ?_
          refine q_iconst dX3_ofTime_61 rfl rfl ?_
          obtain ⟨q373, h374, h⟩ := Option.bind_eq_some_iff.mp h
          refine q_callVi (as := [qi a1, qi 1]) (c := 2) dX3_ofTime_62 ml_X3_35 rfl rfl (hL 2 (by decide)) sh_2 rfl rfl (Nat.le_of_ble_eq_true rfl) (Told_contractOf_ok hL (d + 2) a1 1 _ _ h374) rfl ?_
          refine q_iload_n dX3_ofTime_65 rfl rfl ?_
          obtain ⟨q375, h376, h⟩ := Option.bind_eq_some_iff.mp h
          refine q_callVi (as := [qi q373.1, qi a2]) (c := 5) dX3_ofTime_66 ml_X3_76 rfl rfl (hL 5 (by decide)) sh_5 rfl rfl (Nat.le_of_ble_eq_true rfl) (Waters_isOpen_ok hL (d + 2) q373.1 a2 _ _ h376) rfl ?_
          obtain ⟨c377, h⟩ := qk_some h
          refine q_if_ne (tgt := 74) dX3_ofTime_69 (by decide) rfl (qRb_R c377)  (fun g => ?_) (fun g => ?_)
          · rw [if_neg (show ¬ (q375.1 = 0) from g)] at h
            refine q_aload_n dX3_ofTime_74 rfl rfl ?_
            refine q_aload_n dX3_ofTime_75 rfl rfl ?_
            refine q_getA dX3_ofTime_76 fl_X3_9 (hL 8 (by decide)) sh_8 (by decide) rfl rfl ?_
            refine q_iload_n dX3_ofTime_79 rfl rfl ?_
            refine q_iload_n dX3_ofTime_80 rfl rfl ?_
            obtain ⟨q389, h390, h⟩ := Option.bind_eq_some_iff.mp h
            refine q_callVi (as := [qi a1, qi a3]) (c := 2) dX3_ofTime_81 ml_X3_79 rfl rfl (hL 2 (by decide)) sh_2 rfl rfl (Nat.le_of_ble_eq_true rfl) (Told_workWith_ok hL d a1 a3 _ _ h390) rfl ?_
            refine q_putI dX3_ofTime_84 fl_X3_63 (hL 8 (by decide)) sh_8 (by decide) pf_3_4 pt_3_4 rfl rfl ?_
            refine q_aload_n dX3_ofTime_87 rfl rfl ?_
            refine q_aload_n dX3_ofTime_88 rfl rfl ?_
            refine q_getA dX3_ofTime_89 fl_X3_15 (hL 8 (by decide)) sh_8 (by decide) rfl rfl ?_
            refine q_aload_n dX3_ofTime_92 rfl rfl ?_
            refine q_getA dX3_ofTime_93 fl_X3_9 (hL 8 (by decide)) sh_8 (by decide) rfl rfl ?_
            refine q_iload_n dX3_ofTime_96 rfl rfl ?_
            refine q_iconst dX3_ofTime_97 rfl rfl ?_
            obtain ⟨q391, h392, h⟩ := Option.bind_eq_some_iff.mp h
            refine q_callVi (as := [qi a1, qi 2]) (c := 2) dX3_ofTime_98 ml_X3_35 rfl rfl (hL 2 (by decide)) sh_2 rfl rfl (Nat.le_of_ble_eq_true rfl) (Told_contractOf_ok hL (d + 2) a1 2 _ _ h392) rfl ?_
            refine q_iload_n dX3_ofTime_101 rfl rfl ?_
            refine q_aload_n dX3_ofTime_102 rfl rfl ?_
            refine q_getI dX3_ofTime_103 fl_X3_63 (hL 8 (by decide)) sh_8 (by decide) rfl rfl ?_
            refine q_iadd dX3_ofTime_106 rfl ?_
            obtain ⟨q393, h394, h⟩ := Option.bind_eq_some_iff.mp h
            refine q_callVi (as := [qi q391.1, qi (a2 + (q391.2 8 4))]) (c := 5) dX3_ofTime_107 ml_X3_82 rfl rfl (hL 5 (by decide)) sh_5 rfl rfl (Nat.le_of_ble_eq_true rfl) (Waters_firstOpen_ok hL (d + 1) q391.1 (a2 + (q391.2 8 4)) _ _ h394) rfl ?_
            refine q_putI dX3_ofTime_110 fl_X3_44 (hL 8 (by decide)) sh_8 (by decide) pf_3_5 pt_3_5 rfl rfl ?_
            refine q_aload_n dX3_ofTime_113 rfl rfl ?_
            refine q_getI dX3_ofTime_114 fl_X3_44 (hL 8 (by decide)) sh_8 (by decide) rfl rfl ?_
            refine q_iconst dX3_ofTime_117 rfl rfl ?_
            obtain ⟨c395, h⟩ := qk_some h
            refine q_icmp_ne (tgt := 125) dX3_ofTime_118 (by decide) rfl (qRb_R c395) ⟨by decide, by decide⟩ (fun g => ?_) (fun g => ?_)
            · rw [if_neg (show ¬ (((qup q393.2 8 5 q393.1) 8 5) = (-1)) from g)] at h
              refine q_iconst dX3_ofTime_125 rfl rfl ?_
              cases h
              exact q_ireturn dX3_ofTime_126 rfl hQ
            · rw [if_pos (show ((qup q393.2 8 5 q393.1) 8 5) = (-1) from g)] at h
              refine q_iconst dX3_ofTime_121 rfl rfl ?_
              refine q_goto (pc' := 126) dX3_ofTime_122 (by decide) ?_
              cases h
              exact q_ireturn dX3_ofTime_126 rfl hQ
          · rw [if_pos (show q375.1 = 0 from g)] at h
            refine q_iconst dX3_ofTime_72 rfl rfl ?_
            cases h
            exact q_ireturn dX3_ofTime_73 rfl hQ
      · rw [if_neg (show ¬ (a3 ≤ q368.1) from g)] at h
        refine q_iconst dX3_ofTime_43 rfl rfl ?_
        cases h
        exact q_ireturn dX3_ofTime_44 rfl hQ
  · rw [if_neg (show ¬ (q360.1 ≤ a2) from g)] at h
    refine q_iconst dX3_ofTime_13 rfl rfl ?_
    cases h
    exact q_ireturn dX3_ofTime_14 rfl hQ
set_option maxRecDepth 20000 in
theorem Waters_lowest_L10_ok {X : qX} (hL : ∀ c, c < 93 → c ∈ qLs X) (d : Nat) {Q : Option qV → qSto → Prop} : ∀ (n : Nat) (x2 : Int) (x3 : Int) (x4 : Int) (S : qSto) (o : (Int × qSto)), Waters_lowest_L10 n x2 x3 x4 S = some o → (qW X (d + 1) yX9_lowest cX9_lowest 5 (some .int) 34 [(3, qi o.1)] [] o.2 Q) → qW X (d + 1) yX9_lowest cX9_lowest 5 (some .int) 10 [(0, qr 5), (2, qi x2), (3, qi x3), (4, qi x4)] [] S Q := by
  intro n
  induction n with
  | zero =>
    intro x2 x3 x4 S o h
    simp [Waters_lowest_L10] at h
  | succ n ih =>
    intro x2 x3 x4 S o h hE
    rw [Waters_lowest_L10] at h
    refine q_iload dX9_lowest_10 rfl rfl ?_
    refine q_iload_n dX9_lowest_12 rfl rfl ?_
    obtain ⟨c404, h⟩ := qk_some h
    obtain ⟨c405, h⟩ := qk_some h
    refine q_icmp_ge (tgt := 34) dX9_lowest_13 (by decide) rfl (qRb_R c404) (qRb_R c405) (fun g => ?_) (fun g => ?_)
    · rw [if_pos (show x2 ≤ x4 from g)] at h
      cases h
      exact q_pick [2] rfl (hE)
    · rw [if_neg (show ¬ (x2 ≤ x4) from g)] at h
      refine q_iload_n dX9_lowest_16 rfl rfl ?_
      refine q_aload_n dX9_lowest_17 rfl rfl ?_
      refine q_getA dX9_lowest_18 fl_X9_9 (hL 5 (by decide)) sh_5 (by decide) rfl rfl ?_
      refine q_iload dX9_lowest_21 rfl rfl ?_
      obtain ⟨c406, h⟩ := qk_some h
      refine q_iaload dX9_lowest_23 (hL 36 (by decide)) sh_36 (qIx_0 c406) (qIx_1 c406) rfl ?_
      obtain ⟨q407, h408, h⟩ := Option.bind_eq_some_iff.mp h
      refine q_callSi (as := [qi x3, qi (S 36 (Int.toNat x4))]) dX9_lowest_24 ml_X9_55 rfl rfl (Nat.le_of_ble_eq_true rfl) (Jm_min_ok hL d x3 (S 36 (Int.toNat x4)) _ _ h408) rfl ?_
      refine q_istore_n (lv' := [(3, qi q407.1), (0, qr 5), (2, qi x2), (4, qi x4)]) dX9_lowest_27 (by decide) rfl rfl ?_
      refine q_iinc (lv' := [(4, qi (x4 + 1)), (3, qi q407.1), (0, qr 5), (2, qi x2)]) dX9_lowest_28 (by decide) rfl rfl rfl ?_
      refine q_goto (pc' := 10) dX9_lowest_31 (by decide) ?_
      exact q_pick [2, 3, 1, 0] rfl (ih x2 q407.1 (x4 + 1) _ _ h hE)
set_option maxRecDepth 20000 in
theorem Waters_lowest_ok {X : qX} (hL : ∀ c, c < 93 → c ∈ qLs X) (d : Nat) (a1 : Int) (a2 : Int) (S : qSto) (o : (Int × qSto)) (h : Waters_lowest a1 a2 S = some o) (Q : Option qV → qSto → Prop) (hQ : Q (some (qi o.1)) o.2) : qC X (d + 1) yX9_lowest cX9_lowest 5 (some .int) [qr 5, qi a1, qi a2] S Q := by
  refine q_entry (lv := [(0, qr 5), (1, qi a1), (2, qi a2)]) pn_X9 (Nat.le_of_ble_eq_true rfl) rfl ?_
  unfold Waters_lowest at h
  refine q_aload_n dX9_lowest_0 rfl rfl ?_
  refine q_getA dX9_lowest_1 fl_X9_9 (hL 5 (by decide)) sh_5 (by decide) rfl rfl ?_
  refine q_iload_n dX9_lowest_4 rfl rfl ?_
  obtain ⟨c403, h⟩ := qk_some h
  refine q_iaload dX9_lowest_5 (hL 36 (by decide)) sh_36 (qIx_0 c403) (qIx_1 c403) rfl ?_
  refine q_istore_n (lv' := [(3, qi (S 36 (Int.toNat a1))), (0, qr 5), (1, qi a1), (2, qi a2)]) dX9_lowest_6 (by decide) rfl rfl ?_
  refine q_iload_n dX9_lowest_7 rfl rfl ?_
  refine q_istore (lv' := [(4, qi a1), (3, qi (S 36 (Int.toNat a1))), (0, qr 5), (1, qi a1), (2, qi a2)]) dX9_lowest_8 (by decide) rfl rfl ?_
  obtain ⟨q409, h410, h⟩ := Option.bind_eq_some_iff.mp h
  refine q_pick [2, 4, 1, 0] rfl (Waters_lowest_L10_ok hL d qF a2 (S 36 (Int.toNat a1)) a1 _ _ h410 ?_)
  refine q_iload_n dX9_lowest_34 rfl rfl ?_
  cases h
  exact q_ireturn dX9_lowest_35 rfl hQ
set_option maxRecDepth 20000 in
theorem Told_waterNeededBy_ok {X : qX} (hL : ∀ c, c < 93 → c ∈ qLs X) (d : Nat) (a1 : Int) (S : qSto) (o : (Int × qSto)) (h : Told_waterNeededBy a1 S = some o) (Q : Option qV → qSto → Prop) (hQ : Q (some (qi o.1)) o.2) : qC X (d + 1) yX8_waterNeededBy cX8_waterNeededBy 2 (some .int) [qr 2, qi a1] S Q := by
  refine q_entry (lv := [(0, qr 2), (1, qi a1)]) pn_X8 (Nat.le_of_ble_eq_true rfl) rfl ?_
  unfold Told_waterNeededBy at h
  refine q_aload_n dX8_waterNeededBy_0 rfl rfl ?_
  refine q_getA dX8_waterNeededBy_1 fl_X8_9 (hL 2 (by decide)) sh_2 (by decide) rfl rfl ?_
  refine q_iconst dX8_waterNeededBy_4 rfl rfl ?_
  refine q_iaload dX8_waterNeededBy_5 (hL 15 (by decide)) sh_15 (by decide) (by decide) rfl ?_
  refine q_aload_n dX8_waterNeededBy_6 rfl rfl ?_
  refine q_iload_n dX8_waterNeededBy_7 rfl rfl ?_
  refine q_iconst dX8_waterNeededBy_8 rfl rfl ?_
  obtain ⟨q413, h414, h⟩ := Option.bind_eq_some_iff.mp h
  refine q_callVi (as := [qi a1, qi 1]) (c := 2) dX8_waterNeededBy_9 ml_X8_96 rfl rfl (hL 2 (by decide)) sh_2 rfl rfl (Nat.le_of_ble_eq_true rfl) (Told_contractOf_ok hL d a1 1 _ _ h414) rfl ?_
  refine q_aload_n dX8_waterNeededBy_12 rfl rfl ?_
  refine q_iload_n dX8_waterNeededBy_13 rfl rfl ?_
  refine q_iconst dX8_waterNeededBy_14 rfl rfl ?_
  obtain ⟨q415, h416, h⟩ := Option.bind_eq_some_iff.mp h
  refine q_callVi (as := [qi a1, qi 2]) (c := 2) dX8_waterNeededBy_15 ml_X8_96 rfl rfl (hL 2 (by decide)) sh_2 rfl rfl (Nat.le_of_ble_eq_true rfl) (Told_contractOf_ok hL d a1 2 _ _ h416) rfl ?_
  obtain ⟨q417, h418, h⟩ := Option.bind_eq_some_iff.mp h
  refine q_callSi (as := [qi q413.1, qi q415.1]) dX8_waterNeededBy_18 ml_X8_90 rfl rfl (Nat.le_of_ble_eq_true rfl) (Jm_max_ok hL d q413.1 q415.1 _ _ h418) rfl ?_
  refine q_iadd dX8_waterNeededBy_21 rfl ?_
  cases h
  exact q_ireturn dX8_waterNeededBy_22 rfl hQ
set_option maxRecDepth 20000 in
theorem Laws_crowds_ok {X : qX} (hL : ∀ c, c < 93 → c ∈ qLs X) (d : Nat) (a1 : Int) (a2 : Int) (a3 : Int) (a4 : Int) (S : qSto) (o : (Int × qSto)) (h : Laws_crowds a1 a2 a3 a4 S = some o) (Q : Option qV → qSto → Prop) (hQ : Q (some (qi o.1)) o.2) : qC X (d + 1) yX3_crowds cX3_crowds 7 (some .boolean) [qr 8, qi a1, qi a2, qi a3, qi a4] S Q := by
  refine q_entry (lv := [(0, qr 8), (1, qi a1), (2, qi a2), (3, qi a3), (4, qi a4)]) pn_X3 (Nat.le_of_ble_eq_true rfl) rfl ?_
  unfold Laws_crowds at h
  refine q_iload_n dX3_crowds_0 rfl rfl ?_
  refine q_iload_n dX3_crowds_1 rfl rfl ?_
  obtain ⟨c425, h⟩ := qk_some h
  obtain ⟨c426, h⟩ := qk_some h
  refine q_icmp_eq (tgt := 46) dX3_crowds_2 (by decide) rfl (qRb_R c425) (qRb_R c426) (fun g => ?_) (fun g => ?_)
  · rw [if_pos (show a1 = a2 from g)] at h
    refine q_iconst dX3_crowds_46 rfl rfl ?_
    cases h
    exact q_zreturn dX3_crowds_47 rfl (by decide) hQ
  · rw [if_neg (show ¬ (a1 = a2) from g)] at h
    refine q_aload_n dX3_crowds_5 rfl rfl ?_
    refine q_getA dX3_crowds_6 fl_X3_19 (hL 8 (by decide)) sh_8 (by decide) rfl rfl ?_
    refine q_iload_n dX3_crowds_9 rfl rfl ?_
    obtain ⟨q427, h428, h⟩ := Option.bind_eq_some_iff.mp h
    refine q_callVi (as := [qi a1]) (c := 6) dX3_crowds_10 ml_X3_85 rfl rfl (hL 6 (by decide)) sh_6 rfl rfl (Nat.le_of_ble_eq_true rfl) (Stays_has_ok hL d a1 _ _ h428) rfl ?_
    obtain ⟨c429, h⟩ := qk_some h
    refine q_if_eq (tgt := 46) dX3_crowds_13 (by decide) rfl (qRb_R c429)  (fun g => ?_) (fun g => ?_)
    · rw [if_pos (show q427.1 = 0 from g)] at h
      refine q_iconst dX3_crowds_46 rfl rfl ?_
      cases h
      exact q_zreturn dX3_crowds_47 rfl (by decide) hQ
    · rw [if_neg (show ¬ (q427.1 = 0) from g)] at h
      refine q_aload_n dX3_crowds_16 rfl rfl ?_
      refine q_getA dX3_crowds_17 fl_X3_19 (hL 8 (by decide)) sh_8 (by decide) rfl rfl ?_
      refine q_getA dX3_crowds_20 fl_X3_91 (hL 6 (by decide)) sh_6 (by decide) rfl rfl ?_
      refine q_iload_n dX3_crowds_23 rfl rfl ?_
      obtain ⟨c430, h⟩ := qk_some h
      refine q_iaload dX3_crowds_24 (hL 39 (by decide)) sh_39 (qIx_0 c430) (qIx_1 c430) rfl ?_
      refine q_aload_n dX3_crowds_25 rfl rfl ?_
      refine q_getI dX3_crowds_26 fl_X3_44 (hL 8 (by decide)) sh_8 (by decide) rfl rfl ?_
      obtain ⟨c431, h⟩ := qk_some h
      obtain ⟨c432, h⟩ := qk_some h
      refine q_icmp_ge (tgt := 46) dX3_crowds_29 (by decide) rfl (qRb_R c431) (qRb_R c432) (fun g => ?_) (fun g => ?_)
      · rw [if_pos (show (q427.2 8 5) ≤ (q427.2 39 (Int.toNat a1)) from g)] at h
        refine q_iconst dX3_crowds_46 rfl rfl ?_
        cases h
        exact q_zreturn dX3_crowds_47 rfl (by decide) hQ
      · rw [if_neg (show ¬ ((q427.2 8 5) ≤ (q427.2 39 (Int.toNat a1))) from g)] at h
        refine q_iload dX3_crowds_32 rfl rfl ?_
        refine q_aload_n dX3_crowds_34 rfl rfl ?_
        refine q_getA dX3_crowds_35 fl_X3_19 (hL 8 (by decide)) sh_8 (by decide) rfl rfl ?_
        refine q_getA dX3_crowds_38 fl_X3_94 (hL 6 (by decide)) sh_6 (by decide) rfl rfl ?_
        refine q_iload_n dX3_crowds_41 rfl rfl ?_
        obtain ⟨c433, h⟩ := qk_some h
        refine q_iaload dX3_crowds_42 (hL 42 (by decide)) sh_42 (qIx_0 c433) (qIx_1 c433) rfl ?_
        obtain ⟨c434, h⟩ := qk_some h
        obtain ⟨c435, h⟩ := qk_some h
        refine q_icmp_lt (tgt := 48) dX3_crowds_43 (by decide) rfl (qRb_R c434) (qRb_R c435) (fun g => ?_) (fun g => ?_)
        · rw [if_pos (show a4 < (q427.2 42 (Int.toNat a1)) from g)] at h
          refine q_aload_n dX3_crowds_48 rfl rfl ?_
          refine q_getA dX3_crowds_49 fl_X3_9 (hL 8 (by decide)) sh_8 (by decide) rfl rfl ?_
          refine q_getA dX3_crowds_52 fl_X3_72 (hL 2 (by decide)) sh_2 (by decide) rfl rfl ?_
          refine q_iconst dX3_crowds_55 rfl rfl ?_
          refine q_iaload dX3_crowds_56 (hL 15 (by decide)) sh_15 (by decide) (by decide) rfl ?_
          refine q_istore (lv' := [(5, qi (q427.2 15 1)), (0, qr 8), (1, qi a1), (2, qi a2), (3, qi a3), (4, qi a4)]) dX3_crowds_57 (by decide) rfl rfl ?_
          refine q_iload_n dX3_crowds_59 rfl rfl ?_
          refine q_aload_n dX3_crowds_60 rfl rfl ?_
          refine q_getA dX3_crowds_61 fl_X3_9 (hL 8 (by decide)) sh_8 (by decide) rfl rfl ?_
          refine q_iload_n dX3_crowds_64 rfl rfl ?_
          refine q_iconst dX3_crowds_65 rfl rfl ?_
          obtain ⟨q436, h437, h⟩ := Option.bind_eq_some_iff.mp h
          refine q_callVi (as := [qi a2, qi 0]) (c := 2) dX3_crowds_66 ml_X3_35 rfl rfl (hL 2 (by decide)) sh_2 rfl rfl (Nat.le_of_ble_eq_true rfl) (Told_contractOf_ok hL d a2 0 _ _ h437) rfl ?_
          refine q_iadd dX3_crowds_69 rfl ?_
          refine q_iconst dX3_crowds_70 rfl rfl ?_
          refine q_isub dX3_crowds_71 rfl ?_
          refine q_istore (lv' := [(6, qi ((a3 + q436.1) - 1)), (5, qi (q427.2 15 1)), (0, qr 8), (1, qi a1), (2, qi a2), (3, qi a3), (4, qi a4)]) dX3_crowds_72 (by decide) rfl rfl ?_
          refine q_iload_n dX3_crowds_74 rfl rfl ?_
          refine q_aload_n dX3_crowds_75 rfl rfl ?_
          refine q_getA dX3_crowds_76 fl_X3_19 (hL 8 (by decide)) sh_8 (by decide) rfl rfl ?_
          refine q_getA dX3_crowds_79 fl_X3_96 (hL 6 (by decide)) sh_6 (by decide) rfl rfl ?_
          refine q_iload_n dX3_crowds_82 rfl rfl ?_
          obtain ⟨c438, h⟩ := qk_some h
          refine q_iaload dX3_crowds_83 (hL 38 (by decide)) sh_38 (qIx_0 c438) (qIx_1 c438) rfl ?_
          refine q_iload dX3_crowds_84 rfl rfl ?_
          refine q_iadd dX3_crowds_86 rfl ?_
          obtain ⟨c439, h⟩ := qk_some h
          obtain ⟨c440, h⟩ := qk_some h
          refine q_icmp_gt (tgt := 111) dX3_crowds_87 (by decide) rfl (qRb_R c439) (qRb_R c440) (fun g => ?_) (fun g => ?_)
          · rw [if_pos (show ((q436.2 38 (Int.toNat a1)) + (q427.2 15 1)) < a3 from g)] at h
            refine q_iconst dX3_crowds_111 rfl rfl ?_
            cases h
            exact q_zreturn dX3_crowds_112 rfl (by decide) hQ
          · rw [if_neg (show ¬ (((q436.2 38 (Int.toNat a1)) + (q427.2 15 1)) < a3) from g)] at h
            refine q_aload_n dX3_crowds_90 rfl rfl ?_
            refine q_getA dX3_crowds_91 fl_X3_19 (hL 8 (by decide)) sh_8 (by decide) rfl rfl ?_
            refine q_getA dX3_crowds_94 fl_X3_99 (hL 6 (by decide)) sh_6 (by decide) rfl rfl ?_
            refine q_iload_n dX3_crowds_97 rfl rfl ?_
            obtain ⟨c441, h⟩ := qk_some h
            refine q_iaload dX3_crowds_98 (hL 37 (by decide)) sh_37 (qIx_0 c441) (qIx_1 c441) rfl ?_
            refine q_iload dX3_crowds_99 rfl rfl ?_
            refine q_iload dX3_crowds_101 rfl rfl ?_
            refine q_iadd dX3_crowds_103 rfl ?_
            obtain ⟨c442, h⟩ := qk_some h
            obtain ⟨c443, h⟩ := qk_some h
            refine q_icmp_gt (tgt := 111) dX3_crowds_104 (by decide) rfl (qRb_R c442) (qRb_R c443) (fun g => ?_) (fun g => ?_)
            · rw [if_pos (show (((a3 + q436.1) - 1) + (q427.2 15 1)) < (q436.2 37 (Int.toNat a1)) from g)] at h
              refine q_iconst dX3_crowds_111 rfl rfl ?_
              cases h
              exact q_zreturn dX3_crowds_112 rfl (by decide) hQ
            · rw [if_neg (show ¬ ((((a3 + q436.1) - 1) + (q427.2 15 1)) < (q436.2 37 (Int.toNat a1))) from g)] at h
              refine q_iconst dX3_crowds_107 rfl rfl ?_
              refine q_goto (pc' := 112) dX3_crowds_108 (by decide) ?_
              cases h
              exact q_zreturn dX3_crowds_112 rfl (by decide) hQ
        · rw [if_neg (show ¬ (a4 < (q427.2 42 (Int.toNat a1))) from g)] at h
          refine q_iconst dX3_crowds_46 rfl rfl ?_
          cases h
          exact q_zreturn dX3_crowds_47 rfl (by decide) hQ
set_option maxRecDepth 20000 in
theorem Laws_pastObstacle_L3_ok {X : qX} (hL : ∀ c, c < 93 → c ∈ qLs X) (d : Nat) {Q : Option qV → qSto → Prop} : ∀ (n : Nat) (x1 : Int) (x2 : Int) (x3 : Int) (x4 : Int) (S : qSto) (o : (qSto ⊕ (Int × qSto))), Laws_pastObstacle_L3 n x1 x2 x3 x4 S = some o → (∀ t, o = Sum.inl t → qW X (d + 2) yX3_pastObstacle cX3_pastObstacle 5 (some .int) 56 [(2, qi x2)] [] t Q) → (∀ w, o = Sum.inr w → Q (some (qi w.1)) w.2) → qW X (d + 2) yX3_pastObstacle cX3_pastObstacle 5 (some .int) 3 [(0, qr 8), (1, qi x1), (2, qi x2), (3, qi x3), (4, qi x4)] [] S Q := by
  intro n
  induction n with
  | zero =>
    intro x1 x2 x3 x4 S o h
    simp [Laws_pastObstacle_L3] at h
  | succ n ih =>
    intro x1 x2 x3 x4 S o h hE hR
    rw [Laws_pastObstacle_L3] at h
    refine q_iload dX3_pastObstacle_3 rfl rfl ?_
    refine q_aload_n dX3_pastObstacle_5 rfl rfl ?_
    refine q_getA dX3_pastObstacle_6 fl_X3_9 (hL 8 (by decide)) sh_8 (by decide) rfl rfl ?_
    refine q_getI dX3_pastObstacle_9 fl_X3_102 (hL 2 (by decide)) sh_2 (by decide) rfl rfl ?_
    obtain ⟨c423, h⟩ := qk_some h
    obtain ⟨c424, h⟩ := qk_some h
    refine q_icmp_ge (tgt := 56) dX3_pastObstacle_12 (by decide) rfl (qRb_R c423) (qRb_R c424) (fun g => ?_) (fun g => ?_)
    · rw [if_pos (show (S 2 12) ≤ x4 from g)] at h
      cases h
      exact q_pick [2] rfl (hE _ rfl)
    · rw [if_neg (show ¬ ((S 2 12) ≤ x4) from g)] at h
      refine q_aload_n dX3_pastObstacle_15 rfl rfl ?_
      refine q_iload dX3_pastObstacle_16 rfl rfl ?_
      refine q_iload_n dX3_pastObstacle_18 rfl rfl ?_
      refine q_iload_n dX3_pastObstacle_19 rfl rfl ?_
      refine q_iload_n dX3_pastObstacle_20 rfl rfl ?_
      obtain ⟨q444, h445, h⟩ := Option.bind_eq_some_iff.mp h
      refine q_callVi (as := [qi x4, qi x1, qi x2, qi x3]) (c := 8) dX3_pastObstacle_21 ml_X3_105 rfl rfl (hL 8 (by decide)) sh_8 rfl rfl (Nat.le_of_ble_eq_true rfl) (Laws_crowds_ok hL d x4 x1 x2 x3 _ _ h445) rfl ?_
      obtain ⟨c446, h⟩ := qk_some h
      refine q_if_eq (tgt := 50) dX3_pastObstacle_24 (by decide) rfl (qRb_R c446)  (fun g => ?_) (fun g => ?_)
      · rw [if_pos (show q444.1 = 0 from g)] at h
        refine q_iinc (lv' := [(4, qi (x4 + 1)), (0, qr 8), (1, qi x1), (2, qi x2), (3, qi x3)]) dX3_pastObstacle_50 (by decide) rfl rfl rfl ?_
        refine q_goto (pc' := 3) dX3_pastObstacle_53 (by decide) ?_
        exact q_pick [1, 2, 3, 4, 0] rfl (ih x1 x2 x3 (x4 + 1) _ _ h hE hR)
      · rw [if_neg (show ¬ (q444.1 = 0) from g)] at h
        refine q_aload_n dX3_pastObstacle_27 rfl rfl ?_
        refine q_getA dX3_pastObstacle_28 fl_X3_19 (hL 8 (by decide)) sh_8 (by decide) rfl rfl ?_
        refine q_getA dX3_pastObstacle_31 fl_X3_96 (hL 6 (by decide)) sh_6 (by decide) rfl rfl ?_
        refine q_iload dX3_pastObstacle_34 rfl rfl ?_
        obtain ⟨c447, h⟩ := qk_some h
        refine q_iaload dX3_pastObstacle_36 (hL 38 (by decide)) sh_38 (qIx_0 c447) (qIx_1 c447) rfl ?_
        refine q_aload_n dX3_pastObstacle_37 rfl rfl ?_
        refine q_getA dX3_pastObstacle_38 fl_X3_9 (hL 8 (by decide)) sh_8 (by decide) rfl rfl ?_
        refine q_getA dX3_pastObstacle_41 fl_X3_72 (hL 2 (by decide)) sh_2 (by decide) rfl rfl ?_
        refine q_iconst dX3_pastObstacle_44 rfl rfl ?_
        refine q_iaload dX3_pastObstacle_45 (hL 15 (by decide)) sh_15 (by decide) (by decide) rfl ?_
        refine q_iadd dX3_pastObstacle_46 rfl ?_
        refine q_iconst dX3_pastObstacle_47 rfl rfl ?_
        refine q_iadd dX3_pastObstacle_48 rfl ?_
        cases h
        exact q_ireturn dX3_pastObstacle_49 rfl (hR _ rfl)
set_option maxRecDepth 20000 in
theorem Laws_pastObstacle_ok {X : qX} (hL : ∀ c, c < 93 → c ∈ qLs X) (d : Nat) (a1 : Int) (a2 : Int) (a3 : Int) (S : qSto) (o : (Int × qSto)) (h : Laws_pastObstacle a1 a2 a3 S = some o) (Q : Option qV → qSto → Prop) (hQ : Q (some (qi o.1)) o.2) : qC X (d + 2) yX3_pastObstacle cX3_pastObstacle 5 (some .int) [qr 8, qi a1, qi a2, qi a3] S Q := by
  refine q_entry (lv := [(0, qr 8), (1, qi a1), (2, qi a2), (3, qi a3)]) pn_X3 (Nat.le_of_ble_eq_true rfl) rfl ?_
  unfold Laws_pastObstacle at h
  refine q_iconst dX3_pastObstacle_0 rfl rfl ?_
  refine q_istore (lv' := [(4, qi 0), (0, qr 8), (1, qi a1), (2, qi a2), (3, qi a3)]) dX3_pastObstacle_1 (by decide) rfl rfl ?_
  obtain ⟨q448, h449, h⟩ := Option.bind_eq_some_iff.mp h
  refine q_pick [1, 2, 3, 4, 0] rfl (Laws_pastObstacle_L3_ok hL d qF a1 a2 a3 0 _ _ h449 (fun t450 e3766 => ?_) (fun w e3766 => ?_))
  · subst e3766
    simp only [Sum.elim_inl] at h
    refine q_iload_n dX3_pastObstacle_56 rfl rfl ?_
    cases h
    exact q_ireturn dX3_pastObstacle_57 rfl hQ
  · subst e3766
    simp only [Sum.elim_inr] at h
    cases h
    exact hQ
set_option maxRecDepth 20000 in
theorem Laws_firstShort_L16_ok {X : qX} (hL : ∀ c, c < 93 → c ∈ qLs X) (d : Nat) {Q : Option qV → qSto → Prop} : ∀ (n : Nat) (x2 : Int) (x3 : Int) (x4 : Int) (S : qSto) (o : (qSto ⊕ (Int × qSto))), Laws_firstShort_L16 n x2 x3 x4 S = some o → (∀ t, o = Sum.inl t → qW X (d + 1) yX3_firstShort cX3_firstShort 5 (some .int) 58 [] [] t Q) → (∀ w, o = Sum.inr w → Q (some (qi w.1)) w.2) → qW X (d + 1) yX3_firstShort cX3_firstShort 5 (some .int) 16 [(0, qr 8), (2, qi x2), (3, qi x3), (4, qi x4)] [] S Q := by
  intro n
  induction n with
  | zero =>
    intro x2 x3 x4 S o h
    simp [Laws_firstShort_L16] at h
  | succ n ih =>
    intro x2 x3 x4 S o h hE hR
    rw [Laws_firstShort_L16] at h
    refine q_iload dX3_firstShort_16 rfl rfl ?_
    refine q_iload_n dX3_firstShort_18 rfl rfl ?_
    obtain ⟨c457, h⟩ := qk_some h
    obtain ⟨c458, h⟩ := qk_some h
    refine q_icmp_ge (tgt := 58) dX3_firstShort_19 (by decide) rfl (qRb_R c457) (qRb_R c458) (fun g => ?_) (fun g => ?_)
    · rw [if_pos (show x3 ≤ x4 from g)] at h
      cases h
      exact q_pick [] rfl (hE _ rfl)
    · rw [if_neg (show ¬ (x3 ≤ x4) from g)] at h
      refine q_aload_n dX3_firstShort_22 rfl rfl ?_
      refine q_getA dX3_firstShort_23 fl_X3_19 (hL 8 (by decide)) sh_8 (by decide) rfl rfl ?_
      refine q_getA dX3_firstShort_26 fl_X3_114 (hL 6 (by decide)) sh_6 (by decide) rfl rfl ?_
      refine q_iload dX3_firstShort_29 rfl rfl ?_
      obtain ⟨c459, h⟩ := qk_some h
      refine q_iaload dX3_firstShort_31 (hL 43 (by decide)) sh_43 (qIx_0 c459) (qIx_1 c459) rfl ?_
      refine q_iload_n dX3_firstShort_32 rfl rfl ?_
      refine q_iadd dX3_firstShort_33 rfl ?_
      refine q_aload_n dX3_firstShort_34 rfl rfl ?_
      refine q_getA dX3_firstShort_35 fl_X3_9 (hL 8 (by decide)) sh_8 (by decide) rfl rfl ?_
      refine q_iload dX3_firstShort_38 rfl rfl ?_
      refine q_bipush dX3_firstShort_40 (by decide) rfl ?_
      obtain ⟨c460, h⟩ := qk_some h
      refine q_idiv dX3_firstShort_42 (qRb_R c460) ⟨by decide, by decide⟩ (by decide) rfl ?_
      obtain ⟨q461, h462, h⟩ := Option.bind_eq_some_iff.mp h
      refine q_callVi (as := [qi (Int.tdiv x4 16)]) (c := 2) dX3_firstShort_43 ml_X3_117 rfl rfl (hL 2 (by decide)) sh_2 rfl rfl (Nat.le_of_ble_eq_true rfl) (Told_gangsIn_ok hL d (Int.tdiv x4 16) _ _ h462) rfl ?_
      obtain ⟨c463, h⟩ := qk_some h
      obtain ⟨c464, h⟩ := qk_some h
      refine q_icmp_le (tgt := 52) dX3_firstShort_46 (by decide) rfl (qRb_R c463) (qRb_R c464) (fun g => ?_) (fun g => ?_)
      · rw [if_pos (show ((S 43 (Int.toNat x4)) + x2) ≤ q461.1 from g)] at h
        refine q_iinc (lv' := [(4, qi (x4 + 1)), (0, qr 8), (2, qi x2), (3, qi x3)]) dX3_firstShort_52 (by decide) rfl rfl rfl ?_
        refine q_goto (pc' := 16) dX3_firstShort_55 (by decide) ?_
        exact q_pick [1, 2, 3, 0] rfl (ih x2 x3 (x4 + 1) _ _ h hE hR)
      · rw [if_neg (show ¬ (((S 43 (Int.toNat x4)) + x2) ≤ q461.1) from g)] at h
        refine q_iload dX3_firstShort_49 rfl rfl ?_
        cases h
        exact q_ireturn dX3_firstShort_51 rfl (hR _ rfl)
set_option maxRecDepth 20000 in
theorem Laws_firstShort_ok {X : qX} (hL : ∀ c, c < 93 → c ∈ qLs X) (d : Nat) (a1 : Int) (a2 : Int) (S : qSto) (o : (Int × qSto)) (h : Laws_firstShort a1 a2 S = some o) (Q : Option qV → qSto → Prop) (hQ : Q (some (qi o.1)) o.2) : qC X (d + 1) yX3_firstShort cX3_firstShort 5 (some .int) [qr 8, qi a1, qi a2] S Q := by
  refine q_entry (lv := [(0, qr 8), (1, qi a1), (2, qi a2)]) pn_X3 (Nat.le_of_ble_eq_true rfl) rfl ?_
  unfold Laws_firstShort at h
  refine q_sipush dX3_firstShort_0 (by decide) rfl ?_
  refine q_iload_n dX3_firstShort_3 rfl rfl ?_
  refine q_aload_n dX3_firstShort_4 rfl rfl ?_
  refine q_getI dX3_firstShort_5 fl_X3_63 (hL 8 (by decide)) sh_8 (by decide) rfl rfl ?_
  refine q_iadd dX3_firstShort_8 rfl ?_
  obtain ⟨q455, h456, h⟩ := Option.bind_eq_some_iff.mp h
  refine q_callSi (as := [qi 336, qi (a1 + (S 8 4))]) dX3_firstShort_9 ml_X3_109 rfl rfl (Nat.le_of_ble_eq_true rfl) (Jm_min_ok hL d 336 (a1 + (S 8 4)) _ _ h456) rfl ?_
  refine q_istore_n (lv' := [(3, qi q455.1), (0, qr 8), (1, qi a1), (2, qi a2)]) dX3_firstShort_12 (by decide) rfl rfl ?_
  refine q_iload_n dX3_firstShort_13 rfl rfl ?_
  refine q_istore (lv' := [(4, qi a1), (3, qi q455.1), (0, qr 8), (1, qi a1), (2, qi a2)]) dX3_firstShort_14 (by decide) rfl rfl ?_
  obtain ⟨q465, h466, h⟩ := Option.bind_eq_some_iff.mp h
  refine q_pick [2, 4, 1, 0] rfl (Laws_firstShort_L16_ok hL d qF a2 q455.1 a1 _ _ h466 (fun t467 e3767 => ?_) (fun w e3767 => ?_))
  · subst e3767
    simp only [Sum.elim_inl] at h
    refine q_iconst dX3_firstShort_58 rfl rfl ?_
    cases h
    exact q_ireturn dX3_firstShort_59 rfl hQ
  · subst e3767
    simp only [Sum.elim_inr] at h
    cases h
    exact hQ
set_option maxRecDepth 20000 in
theorem Stays_propose_ok {X : qX} (hL : ∀ c, c < 93 → c ∈ qLs X) (d : Nat) (a1 : Int) (a2 : Int) (a3 : Int) (a4 : Int) (a5 : Int) (S : qSto) (o : qSto) (h : Stays_propose a1 a2 a3 a4 a5 S = some o) (Q : Option qV → qSto → Prop) (hQ : Q none o) : qC X (d + 1) yX7_propose cX7_propose 6 none [qr 6, qi a1, qi a2, qi a3, qi a4, qi a5] S Q := by
  refine q_entry (lv := [(0, qr 6), (1, qi a1), (2, qi a2), (3, qi a3), (4, qi a4), (5, qi a5)]) pn_X7 (Nat.le_of_ble_eq_true rfl) rfl ?_
  unfold Stays_propose at h
  refine q_aload_n dX7_propose_0 rfl rfl ?_
  refine q_getA dX7_propose_1 fl_X7_9 (hL 6 (by decide)) sh_6 (by decide) rfl rfl ?_
  refine q_iload_n dX7_propose_4 rfl rfl ?_
  refine q_iload_n dX7_propose_5 rfl rfl ?_
  obtain ⟨c471, h⟩ := qk_some h
  refine q_iastore dX7_propose_6 (hL 37 (by decide)) sh_37 (qIx_0 c471) (qIx_1 c471) rfl ?_
  refine q_aload_n dX7_propose_7 rfl rfl ?_
  refine q_getA dX7_propose_8 fl_X7_15 (hL 6 (by decide)) sh_6 (by decide) rfl rfl ?_
  refine q_iload_n dX7_propose_11 rfl rfl ?_
  refine q_iload_n dX7_propose_12 rfl rfl ?_
  refine q_aload_n dX7_propose_13 rfl rfl ?_
  refine q_getA dX7_propose_14 fl_X7_36 (hL 6 (by decide)) sh_6 (by decide) rfl rfl ?_
  refine q_iload_n dX7_propose_17 rfl rfl ?_
  refine q_iconst dX7_propose_18 rfl rfl ?_
  obtain ⟨q472, h473, h⟩ := Option.bind_eq_some_iff.mp h
  refine q_callVi (as := [qi a1, qi 0]) (c := 2) dX7_propose_19 ml_X7_54 rfl rfl (hL 2 (by decide)) sh_2 rfl rfl (Nat.le_of_ble_eq_true rfl) (Told_contractOf_ok hL d a1 0 _ _ h473) rfl ?_
  refine q_iadd dX7_propose_22 rfl ?_
  refine q_iconst dX7_propose_23 rfl rfl ?_
  refine q_isub dX7_propose_24 rfl ?_
  obtain ⟨c474, h⟩ := qk_some h
  refine q_iastore dX7_propose_25 (hL 38 (by decide)) sh_38 (qIx_0 c474) (qIx_1 c474) rfl ?_
  refine q_aload_n dX7_propose_26 rfl rfl ?_
  refine q_getA dX7_propose_27 fl_X7_18 (hL 6 (by decide)) sh_6 (by decide) rfl rfl ?_
  refine q_iload_n dX7_propose_30 rfl rfl ?_
  refine q_iload_n dX7_propose_31 rfl rfl ?_
  obtain ⟨c475, h⟩ := qk_some h
  refine q_iastore dX7_propose_32 (hL 39 (by decide)) sh_39 (qIx_0 c475) (qIx_1 c475) rfl ?_
  refine q_aload_n dX7_propose_33 rfl rfl ?_
  refine q_getA dX7_propose_34 fl_X7_21 (hL 6 (by decide)) sh_6 (by decide) rfl rfl ?_
  refine q_iload_n dX7_propose_37 rfl rfl ?_
  refine q_iload dX7_propose_38 rfl rfl ?_
  obtain ⟨c476, h⟩ := qk_some h
  refine q_iastore dX7_propose_40 (hL 40 (by decide)) sh_40 (qIx_0 c476) (qIx_1 c476) rfl ?_
  refine q_aload_n dX7_propose_41 rfl rfl ?_
  refine q_getA dX7_propose_42 fl_X7_24 (hL 6 (by decide)) sh_6 (by decide) rfl rfl ?_
  refine q_iload_n dX7_propose_45 rfl rfl ?_
  refine q_iload dX7_propose_46 rfl rfl ?_
  obtain ⟨c477, h⟩ := qk_some h
  refine q_iastore dX7_propose_48 (hL 41 (by decide)) sh_41 (qIx_0 c477) (qIx_1 c477) rfl ?_
  cases h
  exact q_return dX7_propose_49 rfl hQ
set_option maxRecDepth 20000 in
theorem Stays_lineUp_L31_ok {X : qX} (hL : ∀ c, c < 93 → c ∈ qLs X) (d : Nat) {Q : Option qV → qSto → Prop} : ∀ (n : Nat) (x1 : Int) (x2 : Int) (S : qSto) (o : (Int × qSto)), Stays_lineUp_L31 n x1 x2 S = some o → (qW X (d + 1) yX7_lineUp cX7_lineUp 3 none 77 [(0, qr 6), (1, qi x1), (2, qi o.1)] [] o.2 Q) → qW X (d + 1) yX7_lineUp cX7_lineUp 3 none 31 [(0, qr 6), (1, qi x1), (2, qi x2)] [] S Q := by
  intro n
  induction n with
  | zero =>
    intro x1 x2 S o h
    simp [Stays_lineUp_L31] at h
  | succ n ih =>
    intro x1 x2 S o h hE
    rw [Stays_lineUp_L31] at h
    refine q_iload_n dX7_lineUp_31 rfl rfl ?_
    obtain ⟨c485, h⟩ := qk_some h
    refine q_if_le (tgt := 77) dX7_lineUp_32 (by decide) rfl (qRb_R c485)  (fun g => ?_) (fun g => ?_)
    · rw [if_pos (show x2 ≤ 0 from g)] at h
      cases h
      exact q_pick [0, 1, 2] rfl (hE)
    · rw [if_neg (show ¬ (x2 ≤ 0) from g)] at h
      refine q_aload_n dX7_lineUp_35 rfl rfl ?_
      refine q_getA dX7_lineUp_36 fl_X7_9 (hL 6 (by decide)) sh_6 (by decide) rfl rfl ?_
      refine q_aload_n dX7_lineUp_39 rfl rfl ?_
      refine q_getA dX7_lineUp_40 fl_X7_33 (hL 6 (by decide)) sh_6 (by decide) rfl rfl ?_
      refine q_iload_n dX7_lineUp_43 rfl rfl ?_
      refine q_iconst dX7_lineUp_44 rfl rfl ?_
      refine q_isub dX7_lineUp_45 rfl ?_
      obtain ⟨c486, h⟩ := qk_some h
      refine q_iaload dX7_lineUp_46 (hL 44 (by decide)) sh_44 (qIx_0 c486) (qIx_1 c486) rfl ?_
      obtain ⟨c487, h⟩ := qk_some h
      refine q_iaload dX7_lineUp_47 (hL 37 (by decide)) sh_37 (qIx_0 c487) (qIx_1 c487) rfl ?_
      refine q_aload_n dX7_lineUp_48 rfl rfl ?_
      refine q_getA dX7_lineUp_49 fl_X7_9 (hL 6 (by decide)) sh_6 (by decide) rfl rfl ?_
      refine q_iload_n dX7_lineUp_52 rfl rfl ?_
      obtain ⟨c488, h⟩ := qk_some h
      refine q_iaload dX7_lineUp_53 (hL 37 (by decide)) sh_37 (qIx_0 c488) (qIx_1 c488) rfl ?_
      obtain ⟨c489, h⟩ := qk_some h
      obtain ⟨c490, h⟩ := qk_some h
      refine q_icmp_le (tgt := 77) dX7_lineUp_54 (by decide) rfl (qRb_R c489) (qRb_R c490) (fun g => ?_) (fun g => ?_)
      · rw [if_pos (show (S 37 (Int.toNat (S 44 (Int.toNat (x2 - 1))))) ≤ (S 37 (Int.toNat x1)) from g)] at h
        cases h
        exact q_pick [0, 1, 2] rfl (hE)
      · rw [if_neg (show ¬ ((S 37 (Int.toNat (S 44 (Int.toNat (x2 - 1))))) ≤ (S 37 (Int.toNat x1))) from g)] at h
        refine q_aload_n dX7_lineUp_57 rfl rfl ?_
        refine q_getA dX7_lineUp_58 fl_X7_33 (hL 6 (by decide)) sh_6 (by decide) rfl rfl ?_
        refine q_iload_n dX7_lineUp_61 rfl rfl ?_
        refine q_aload_n dX7_lineUp_62 rfl rfl ?_
        refine q_getA dX7_lineUp_63 fl_X7_33 (hL 6 (by decide)) sh_6 (by decide) rfl rfl ?_
        refine q_iload_n dX7_lineUp_66 rfl rfl ?_
        refine q_iconst dX7_lineUp_67 rfl rfl ?_
        refine q_isub dX7_lineUp_68 rfl ?_
        obtain ⟨c491, h⟩ := qk_some h
        refine q_iaload dX7_lineUp_69 (hL 44 (by decide)) sh_44 (qIx_0 c491) (qIx_1 c491) rfl ?_
        obtain ⟨c492, h⟩ := qk_some h
        refine q_iastore dX7_lineUp_70 (hL 44 (by decide)) sh_44 (qIx_0 c492) (qIx_1 c492) rfl ?_
        refine q_iinc (lv' := [(2, qi (x2 + (-1))), (0, qr 6), (1, qi x1)]) dX7_lineUp_71 (by decide) rfl rfl rfl ?_
        refine q_goto (pc' := 31) dX7_lineUp_74 (by decide) ?_
        exact q_pick [1, 2, 0] rfl (ih x1 (x2 + (-1)) _ _ h hE)
set_option maxRecDepth 20000 in
theorem Stays_lineUp_L7_ok {X : qX} (hL : ∀ c, c < 93 → c ∈ qLs X) (d : Nat) {Q : Option qV → qSto → Prop} : ∀ (n : Nat) (x1 : Int) (S : qSto) (o : qSto), Stays_lineUp_L7 n x1 S = some o → (qW X (d + 1) yX7_lineUp cX7_lineUp 3 none 100 [] [] o Q) → qW X (d + 1) yX7_lineUp cX7_lineUp 3 none 7 [(0, qr 6), (1, qi x1)] [] S Q := by
  intro n
  induction n with
  | zero =>
    intro x1 S o h
    simp [Stays_lineUp_L7] at h
  | succ n ih =>
    intro x1 S o h hE
    rw [Stays_lineUp_L7] at h
    refine q_iload_n dX7_lineUp_7 rfl rfl ?_
    refine q_aload_n dX7_lineUp_8 rfl rfl ?_
    refine q_getA dX7_lineUp_9 fl_X7_36 (hL 6 (by decide)) sh_6 (by decide) rfl rfl ?_
    refine q_getI dX7_lineUp_12 fl_X7_44 (hL 2 (by decide)) sh_2 (by decide) rfl rfl ?_
    obtain ⟨c480, h⟩ := qk_some h
    obtain ⟨c481, h⟩ := qk_some h
    refine q_icmp_ge (tgt := 100) dX7_lineUp_15 (by decide) rfl (qRb_R c480) (qRb_R c481) (fun g => ?_) (fun g => ?_)
    · rw [if_pos (show (S 2 12) ≤ x1 from g)] at h
      cases h
      exact q_pick [] rfl (hE)
    · rw [if_neg (show ¬ ((S 2 12) ≤ x1) from g)] at h
      refine q_aload_n dX7_lineUp_18 rfl rfl ?_
      refine q_iload_n dX7_lineUp_19 rfl rfl ?_
      obtain ⟨q482, h483, h⟩ := Option.bind_eq_some_iff.mp h
      refine q_callVi (as := [qi x1]) (c := 6) dX7_lineUp_20 ml_X7_50 rfl rfl (hL 6 (by decide)) sh_6 rfl rfl (Nat.le_of_ble_eq_true rfl) (Stays_has_ok hL d x1 _ _ h483) rfl ?_
      refine q_jn (G := fun (t496 : qSto) => qW X (d + 1) yX7_lineUp cX7_lineUp 3 none 94 [(0, qr 6), (1, qi x1)] [] t496 Q) h (fun t496 h => ?_) (fun t496 h hk3768 => ?_)
      · try dsimp only at h
        refine q_iinc (lv' := [(1, qi (x1 + 1)), (0, qr 6)]) dX7_lineUp_94 (by decide) rfl rfl rfl ?_
        refine q_goto (pc' := 7) dX7_lineUp_97 (by decide) ?_
        exact q_pick [1, 0] rfl (ih (x1 + 1) _ _ h hE)
      · skip
        obtain ⟨c484, h⟩ := qk_some h
        refine q_if_eq (tgt := 94) dX7_lineUp_23 (by decide) rfl (qRb_R c484)  (fun g => ?_) (fun g => ?_)
        · rw [if_pos (show q482.1 = 0 from g)] at h
          cases h
          exact q_pick [0, 1] rfl hk3768
        · rw [if_neg (show ¬ (q482.1 = 0) from g)] at h
          refine q_aload_n dX7_lineUp_26 rfl rfl ?_
          refine q_getI dX7_lineUp_27 fl_X7_105 (hL 6 (by decide)) sh_6 (by decide) rfl rfl ?_
          refine q_istore_n (lv' := [(2, qi (q482.2 6 10)), (0, qr 6), (1, qi x1)]) dX7_lineUp_30 (by decide) rfl rfl ?_
          obtain ⟨q493, h494, h⟩ := Option.bind_eq_some_iff.mp h
          refine q_pick [1, 2, 0] rfl (Stays_lineUp_L31_ok hL d qF x1 (q482.2 6 10) _ _ h494 ?_)
          refine q_aload_n dX7_lineUp_77 rfl rfl ?_
          refine q_getA dX7_lineUp_78 fl_X7_33 (hL 6 (by decide)) sh_6 (by decide) rfl rfl ?_
          refine q_iload_n dX7_lineUp_81 rfl rfl ?_
          refine q_iload_n dX7_lineUp_82 rfl rfl ?_
          obtain ⟨c495, h⟩ := qk_some h
          refine q_iastore dX7_lineUp_83 (hL 44 (by decide)) sh_44 (qIx_0 c495) (qIx_1 c495) rfl ?_
          refine q_aload_n dX7_lineUp_84 rfl rfl ?_
          refine q_dupA dX7_lineUp_85 rfl ?_
          refine q_getI dX7_lineUp_86 fl_X7_105 (hL 6 (by decide)) sh_6 (by decide) rfl rfl ?_
          refine q_iconst dX7_lineUp_89 rfl rfl ?_
          refine q_iadd dX7_lineUp_90 rfl ?_
          refine q_putI dX7_lineUp_91 fl_X7_105 (hL 6 (by decide)) sh_6 (by decide) pf_7_10 pt_7_10 rfl rfl ?_
          cases h
          exact q_pick [0, 1] rfl hk3768
set_option maxRecDepth 20000 in
theorem Stays_lineUp_ok {X : qX} (hL : ∀ c, c < 93 → c ∈ qLs X) (d : Nat) (S : qSto) (o : qSto) (h : Stays_lineUp S = some o) (Q : Option qV → qSto → Prop) (hQ : Q none o) : qC X (d + 1) yX7_lineUp cX7_lineUp 3 none [qr 6] S Q := by
  refine q_entry (lv := [(0, qr 6)]) pn_X7 (Nat.le_of_ble_eq_true rfl) rfl ?_
  unfold Stays_lineUp at h
  refine q_aload_n dX7_lineUp_0 rfl rfl ?_
  refine q_iconst dX7_lineUp_1 rfl rfl ?_
  refine q_putI dX7_lineUp_2 fl_X7_105 (hL 6 (by decide)) sh_6 (by decide) pf_7_10 pt_7_10 rfl rfl ?_
  refine q_iconst dX7_lineUp_5 rfl rfl ?_
  refine q_istore_n (lv' := [(1, qi 0), (0, qr 6)]) dX7_lineUp_6 (by decide) rfl rfl ?_
  obtain ⟨q497, h498, h⟩ := Option.bind_eq_some_iff.mp h
  refine q_pick [1, 0] rfl (Stays_lineUp_L7_ok hL d qF 0 _ _ h498 ?_)
  cases h
  exact q_return dX7_lineUp_100 rfl hQ
set_option maxRecDepth 20000 in
theorem Ja_fill_45_L5_ok {X : qX} (hL : ∀ c, c < 93 → c ∈ qLs X) (d : Nat) {Q : Option qV → qSto → Prop} : ∀ (n : Nat) (x1 : Int) (x2 : Int) (S : qSto) (o : qSto), Ja_fill_45_L5 n x1 x2 S = some o → (qW X d yJ7_fill_53178 cJ7_fill_53178 4 none 20 [] [] o Q) → qW X d yJ7_fill_53178 cJ7_fill_53178 4 none 5 [(0, qr 45), (1, qi x1), (2, qi x2), (3, qi 8)] [] S Q := by
  intro n
  induction n with
  | zero =>
    intro x1 x2 S o h
    simp [Ja_fill_45_L5] at h
  | succ n ih =>
    intro x1 x2 S o h hE
    rw [Ja_fill_45_L5] at h
    refine q_iload_n dJ7_fill_53178_5 rfl rfl ?_
    refine q_iload_n dJ7_fill_53178_6 rfl rfl ?_
    obtain ⟨c510, h⟩ := qk_some h
    refine q_icmp_ge (tgt := 20) dJ7_fill_53178_7 (by decide) rfl (qRb_R c510) ⟨by decide, by decide⟩ (fun g => ?_) (fun g => ?_)
    · rw [if_pos (show 8 ≤ x2 from g)] at h
      cases h
      exact q_pick [] rfl (hE)
    · rw [if_neg (show ¬ (8 ≤ x2) from g)] at h
      refine q_aload_n dJ7_fill_53178_10 rfl rfl ?_
      refine q_iload_n dJ7_fill_53178_11 rfl rfl ?_
      refine q_iload_n dJ7_fill_53178_12 rfl rfl ?_
      obtain ⟨c511, h⟩ := qk_some h
      refine q_iastore dJ7_fill_53178_13 (hL 45 (by decide)) sh_45 (qIx_0 c511) (qIx_1 c511) rfl ?_
      refine q_iinc (lv' := [(2, qi (x2 + 1)), (0, qr 45), (1, qi x1), (3, qi 8)]) dJ7_fill_53178_14 (by decide) rfl rfl rfl ?_
      refine q_goto (pc' := 5) dJ7_fill_53178_17 (by decide) ?_
      exact q_pick [1, 2, 0, 3] rfl (ih x1 (x2 + 1) _ _ h hE)
set_option maxRecDepth 20000 in
theorem Ja_fill_45_ok {X : qX} (hL : ∀ c, c < 93 → c ∈ qLs X) (d : Nat) (a1 : Int) (S : qSto) (o : qSto) (h : Ja_fill_45 a1 S = some o) (Q : Option qV → qSto → Prop) (hQ : Q none o) : qC X d yJ7_fill_53178 cJ7_fill_53178 4 none [qr 45, qi a1] S Q := by
  refine q_entry (lv := [(0, qr 45), (1, qi a1)]) pn_J7 (Nat.le_of_ble_eq_true rfl) rfl ?_
  unfold Ja_fill_45 at h
  refine q_iconst dJ7_fill_53178_0 rfl rfl ?_
  refine q_istore_n (lv' := [(2, qi 0), (0, qr 45), (1, qi a1)]) dJ7_fill_53178_1 (by decide) rfl rfl ?_
  refine q_aload_n dJ7_fill_53178_2 rfl rfl ?_
  refine q_alen (k0 := 0) dJ7_fill_53178_3 (hL 45 (by decide)) sh_45 (by decide) rfl ?_
  refine q_istore_n (lv' := [(3, qi 8), (2, qi 0), (0, qr 45), (1, qi a1)]) dJ7_fill_53178_4 (by decide) rfl rfl ?_
  obtain ⟨q512, h513, h⟩ := Option.bind_eq_some_iff.mp h
  refine q_pick [2, 3, 1, 0] rfl (Ja_fill_45_L5_ok hL d qF a1 0 _ _ h513 ?_)
  cases h
  exact q_return dJ7_fill_53178_20 rfl hQ
set_option maxRecDepth 20000 in
theorem Dealer_reaches_ok {X : qX} (hL : ∀ c, c < 93 → c ∈ qLs X) (d : Nat) (a1 : Int) (a2 : Int) (a3 : Int) (S : qSto) (o : (Int × qSto)) (h : Dealer_reaches a1 a2 a3 S = some o) (Q : Option qV → qSto → Prop) (hQ : Q (some (qi o.1)) o.2) : qC X d yX0_reaches cX0_reaches 4 (some .boolean) [qr 7, qi a1, qi a2, qi a3] S Q := by
  refine q_entry (lv := [(0, qr 7), (1, qi a1), (2, qi a2), (3, qi a3)]) pn_X0 (Nat.le_of_ble_eq_true rfl) rfl ?_
  unfold Dealer_reaches at h
  refine q_aload_n dX0_reaches_0 rfl rfl ?_
  refine q_getA dX0_reaches_1 fl_X0_15 (hL 7 (by decide)) sh_7 (by decide) rfl rfl ?_
  refine q_getA dX0_reaches_4 fl_X0_61 (hL 2 (by decide)) sh_2 (by decide) rfl rfl ?_
  refine q_iload_n dX0_reaches_7 rfl rfl ?_
  obtain ⟨c534, h⟩ := qk_some h
  refine q_iaload dX0_reaches_8 (hL 18 (by decide)) sh_18 (qIx_0 c534) (qIx_1 c534) rfl ?_
  refine q_iload_n dX0_reaches_9 rfl rfl ?_
  obtain ⟨c535, h⟩ := qk_some h
  obtain ⟨c536, h⟩ := qk_some h
  refine q_icmp_gt (tgt := 30) dX0_reaches_10 (by decide) rfl (qRb_R c535) (qRb_R c536) (fun g => ?_) (fun g => ?_)
  · rw [if_pos (show a3 < (S 18 (Int.toNat a1)) from g)] at h
    refine q_iconst dX0_reaches_30 rfl rfl ?_
    cases h
    exact q_zreturn dX0_reaches_31 rfl (by decide) hQ
  · rw [if_neg (show ¬ (a3 < (S 18 (Int.toNat a1))) from g)] at h
    refine q_aload_n dX0_reaches_13 rfl rfl ?_
    refine q_getA dX0_reaches_14 fl_X0_15 (hL 7 (by decide)) sh_7 (by decide) rfl rfl ?_
    refine q_getA dX0_reaches_17 fl_X0_64 (hL 2 (by decide)) sh_2 (by decide) rfl rfl ?_
    refine q_iload_n dX0_reaches_20 rfl rfl ?_
    obtain ⟨c537, h⟩ := qk_some h
    refine q_iaload dX0_reaches_21 (hL 19 (by decide)) sh_19 (qIx_0 c537) (qIx_1 c537) rfl ?_
    refine q_iload_n dX0_reaches_22 rfl rfl ?_
    obtain ⟨c538, h⟩ := qk_some h
    obtain ⟨c539, h⟩ := qk_some h
    refine q_icmp_lt (tgt := 30) dX0_reaches_23 (by decide) rfl (qRb_R c538) (qRb_R c539) (fun g => ?_) (fun g => ?_)
    · rw [if_pos (show (S 19 (Int.toNat a1)) < a2 from g)] at h
      refine q_iconst dX0_reaches_30 rfl rfl ?_
      cases h
      exact q_zreturn dX0_reaches_31 rfl (by decide) hQ
    · rw [if_neg (show ¬ ((S 19 (Int.toNat a1)) < a2) from g)] at h
      refine q_iconst dX0_reaches_26 rfl rfl ?_
      refine q_goto (pc' := 31) dX0_reaches_27 (by decide) ?_
      cases h
      exact q_zreturn dX0_reaches_31 rfl (by decide) hQ
set_option maxRecDepth 20000 in
theorem Dealer_deal_L91_ok {X : qX} (hL : ∀ c, c < 93 → c ∈ qLs X) (d : Nat) {Q : Option qV → qSto → Prop} : ∀ (n : Nat) (x1 : Int) (x2 : Int) (x3 : Int) (x4 : Int) (x5 : Int) (x6 : Int) (S : qSto) (o : (Int × Int × qSto)), Dealer_deal_L91 n x2 x3 x5 x6 S = some o → (qW X (d + 1) yX0_deal cX0_deal 7 (some .boolean) 157 [(0, qr 7), (1, qi x1), (2, qi x2), (3, qi o.1), (4, qi x4), (6, qi o.2.1)] [] o.2.2 Q) → qW X (d + 1) yX0_deal cX0_deal 7 (some .boolean) 91 [(0, qr 7), (1, qi x1), (2, qi x2), (3, qi x3), (4, qi x4), (5, qi x5), (6, qi x6)] [] S Q := by
  intro n
  induction n with
  | zero =>
    intro x1 x2 x3 x4 x5 x6 S o h
    simp [Dealer_deal_L91] at h
  | succ n ih =>
    intro x1 x2 x3 x4 x5 x6 S o h hE
    rw [Dealer_deal_L91] at h
    refine q_iload dX0_deal_91 rfl rfl ?_
    obtain ⟨c527, h⟩ := qk_some h
    refine q_if_le (tgt := 157) dX0_deal_93 (by decide) rfl (qRb_R c527)  (fun g => ?_) (fun g => ?_)
    · rw [if_pos (show x6 ≤ 0 from g)] at h
      cases h
      exact q_pick [0, 1, 2, 3, 4, 6] rfl (hE)
    · rw [if_neg (show ¬ (x6 ≤ 0) from g)] at h
      refine q_iload_n dX0_deal_96 rfl rfl ?_
      refine q_aload_n dX0_deal_97 rfl rfl ?_
      refine q_getA dX0_deal_98 fl_X0_15 (hL 7 (by decide)) sh_7 (by decide) rfl rfl ?_
      refine q_getI dX0_deal_101 fl_X0_47 (hL 2 (by decide)) sh_2 (by decide) rfl rfl ?_
      obtain ⟨c528, h⟩ := qk_some h
      obtain ⟨c529, h⟩ := qk_some h
      refine q_icmp_ge (tgt := 157) dX0_deal_104 (by decide) rfl (qRb_R c528) (qRb_R c529) (fun g => ?_) (fun g => ?_)
      · rw [if_pos (show (S 2 5) ≤ x3 from g)] at h
        cases h
        exact q_pick [0, 1, 2, 3, 4, 6] rfl (hE)
      · rw [if_neg (show ¬ ((S 2 5) ≤ x3) from g)] at h
        refine q_iload_n dX0_deal_107 rfl rfl ?_
        refine q_iload_n dX0_deal_108 rfl rfl ?_
        refine q_jn (G := fun (t544 : (Int × qSto)) => qW X (d + 1) yX0_deal cX0_deal 7 (some .boolean) 151 [(0, qr 7), (1, qi x1), (2, qi x2), (3, qi x3), (4, qi x4), (5, qi x5), (6, qi t544.1)] [] t544.2 Q) h (fun t544 h => ?_) (fun t544 h hk3769 => ?_)
        · try dsimp only at h
          refine q_iinc (lv' := [(3, qi (x3 + 1)), (0, qr 7), (1, qi x1), (2, qi x2), (4, qi x4), (5, qi x5), (6, qi t544.1)]) dX0_deal_151 (by decide) rfl rfl rfl ?_
          refine q_goto (pc' := 91) dX0_deal_154 (by decide) ?_
          exact q_pick [1, 2, 3, 0, 4, 5, 6] rfl (ih x1 x2 (x3 + 1) x4 x5 t544.1 _ _ h hE)
        · skip
          obtain ⟨c530, h⟩ := qk_some h
          obtain ⟨c531, h⟩ := qk_some h
          refine q_icmp_eq (tgt := 151) dX0_deal_109 (by decide) rfl (qRb_R c530) (qRb_R c531) (fun g => ?_) (fun g => ?_)
          · rw [if_pos (show x3 = x2 from g)] at h
            cases h
            exact q_pick [0, 1, 2, 3, 4, 5, 6] rfl hk3769
          · rw [if_neg (show ¬ (x3 = x2) from g)] at h
            refine q_aload_n dX0_deal_112 rfl rfl ?_
            refine q_iload_n dX0_deal_113 rfl rfl ?_
            refine q_aload_n dX0_deal_114 rfl rfl ?_
            refine q_getA dX0_deal_115 fl_X0_19 (hL 7 (by decide)) sh_7 (by decide) rfl rfl ?_
            refine q_getA dX0_deal_118 fl_X0_51 (hL 6 (by decide)) sh_6 (by decide) rfl rfl ?_
            refine q_iload dX0_deal_121 rfl rfl ?_
            obtain ⟨c532, h⟩ := qk_some h
            refine q_iaload dX0_deal_123 (hL 37 (by decide)) sh_37 (qIx_0 c532) (qIx_1 c532) rfl ?_
            refine q_aload_n dX0_deal_124 rfl rfl ?_
            refine q_getA dX0_deal_125 fl_X0_19 (hL 7 (by decide)) sh_7 (by decide) rfl rfl ?_
            refine q_getA dX0_deal_128 fl_X0_54 (hL 6 (by decide)) sh_6 (by decide) rfl rfl ?_
            refine q_iload dX0_deal_131 rfl rfl ?_
            obtain ⟨c533, h⟩ := qk_some h
            refine q_iaload dX0_deal_133 (hL 38 (by decide)) sh_38 (qIx_0 c533) (qIx_1 c533) rfl ?_
            obtain ⟨q540, h541, h⟩ := Option.bind_eq_some_iff.mp h
            refine q_callVi (as := [qi x3, qi (S 37 (Int.toNat x5)), qi (S 38 (Int.toNat x5))]) (c := 7) dX0_deal_134 ml_X0_57 rfl rfl (hL 7 (by decide)) sh_7 rfl rfl (Nat.le_of_ble_eq_true rfl) (Dealer_reaches_ok hL d x3 (S 37 (Int.toNat x5)) (S 38 (Int.toNat x5)) _ _ h541) rfl ?_
            obtain ⟨c542, h⟩ := qk_some h
            refine q_if_eq (tgt := 151) dX0_deal_137 (by decide) rfl (qRb_R c542)  (fun g => ?_) (fun g => ?_)
            · rw [if_pos (show q540.1 = 0 from g)] at h
              cases h
              exact q_pick [0, 1, 2, 3, 4, 5, 6] rfl hk3769
            · rw [if_neg (show ¬ (q540.1 = 0) from g)] at h
              refine q_aload_n dX0_deal_140 rfl rfl ?_
              refine q_getA dX0_deal_141 fl_X0_9 (hL 7 (by decide)) sh_7 (by decide) rfl rfl ?_
              refine q_iload_n dX0_deal_144 rfl rfl ?_
              refine q_iload dX0_deal_145 rfl rfl ?_
              obtain ⟨c543, h⟩ := qk_some h
              refine q_iastore dX0_deal_147 (hL 45 (by decide)) sh_45 (qIx_0 c543) (qIx_1 c543) rfl ?_
              refine q_iinc (lv' := [(6, qi (x6 + (-1))), (0, qr 7), (1, qi x1), (2, qi x2), (3, qi x3), (4, qi x4), (5, qi x5)]) dX0_deal_148 (by decide) rfl rfl rfl ?_
              cases h
              exact q_pick [1, 2, 3, 4, 5, 6, 0] rfl hk3769
set_option maxRecDepth 20000 in
theorem Dealer_deal_L13_ok {X : qX} (hL : ∀ c, c < 93 → c ∈ qLs X) (d : Nat) {Q : Option qV → qSto → Prop} : ∀ (n : Nat) (x1 : Int) (x2 : Int) (x3 : Int) (x4 : Int) (S : qSto) (o : (qSto ⊕ (Int × qSto))), Dealer_deal_L13 n x1 x2 x3 x4 S = some o → (∀ t, o = Sum.inl t → qW X (d + 1) yX0_deal cX0_deal 7 (some .boolean) 170 [] [] t Q) → (∀ w, o = Sum.inr w → Q (some (qi w.1)) w.2) → qW X (d + 1) yX0_deal cX0_deal 7 (some .boolean) 13 [(0, qr 7), (1, qi x1), (2, qi x2), (3, qi x3), (4, qi x4)] [] S Q := by
  intro n
  induction n with
  | zero =>
    intro x1 x2 x3 x4 S o h
    simp [Dealer_deal_L13] at h
  | succ n ih =>
    intro x1 x2 x3 x4 S o h hE hR
    rw [Dealer_deal_L13] at h
    refine q_iload dX0_deal_13 rfl rfl ?_
    refine q_aload_n dX0_deal_15 rfl rfl ?_
    refine q_getA dX0_deal_16 fl_X0_19 (hL 7 (by decide)) sh_7 (by decide) rfl rfl ?_
    refine q_getI dX0_deal_19 fl_X0_29 (hL 6 (by decide)) sh_6 (by decide) rfl rfl ?_
    obtain ⟨c516, h⟩ := qk_some h
    obtain ⟨c517, h⟩ := qk_some h
    refine q_icmp_ge (tgt := 170) dX0_deal_22 (by decide) rfl (qRb_R c516) (qRb_R c517) (fun g => ?_) (fun g => ?_)
    · rw [if_pos (show (S 6 10) ≤ x4 from g)] at h
      cases h
      exact q_pick [] rfl (hE _ rfl)
    · rw [if_neg (show ¬ ((S 6 10) ≤ x4) from g)] at h
      refine q_aload_n dX0_deal_25 rfl rfl ?_
      refine q_getA dX0_deal_26 fl_X0_19 (hL 7 (by decide)) sh_7 (by decide) rfl rfl ?_
      refine q_getA dX0_deal_29 fl_X0_35 (hL 6 (by decide)) sh_6 (by decide) rfl rfl ?_
      refine q_iload dX0_deal_32 rfl rfl ?_
      obtain ⟨c518, h⟩ := qk_some h
      refine q_iaload dX0_deal_34 (hL 44 (by decide)) sh_44 (qIx_0 c518) (qIx_1 c518) rfl ?_
      refine q_istore (lv' := [(5, qi (S 44 (Int.toNat x4))), (0, qr 7), (1, qi x1), (2, qi x2), (3, qi x3), (4, qi x4)]) dX0_deal_35 (by decide) rfl rfl ?_
      refine q_iload_n dX0_deal_37 rfl rfl ?_
      refine q_aload_n dX0_deal_38 rfl rfl ?_
      refine q_getA dX0_deal_39 fl_X0_19 (hL 7 (by decide)) sh_7 (by decide) rfl rfl ?_
      refine q_getA dX0_deal_42 fl_X0_38 (hL 6 (by decide)) sh_6 (by decide) rfl rfl ?_
      refine q_iload dX0_deal_45 rfl rfl ?_
      obtain ⟨c519, h⟩ := qk_some h
      refine q_iaload dX0_deal_47 (hL 39 (by decide)) sh_39 (qIx_0 c519) (qIx_1 c519) rfl ?_
      obtain ⟨c520, h⟩ := qk_some h
      obtain ⟨c521, h⟩ := qk_some h
      refine q_icmp_lt (tgt := 164) dX0_deal_48 (by decide) rfl (qRb_R c520) (qRb_R c521) (fun g => ?_) (fun g => ?_)
      · rw [if_pos (show x1 < (S 39 (Int.toNat (S 44 (Int.toNat x4)))) from g)] at h
        refine q_iinc (lv' := [(4, qi (x4 + 1)), (5, qi (S 44 (Int.toNat x4))), (0, qr 7), (1, qi x1), (2, qi x2), (3, qi x3)]) dX0_deal_164 (by decide) rfl rfl rfl ?_
        refine q_goto (pc' := 13) dX0_deal_167 (by decide) ?_
        exact q_pick [2, 3, 4, 5, 0] rfl (ih x1 x2 x3 (x4 + 1) _ _ h hE hR)
      · rw [if_neg (show ¬ (x1 < (S 39 (Int.toNat (S 44 (Int.toNat x4))))) from g)] at h
        refine q_iload_n dX0_deal_51 rfl rfl ?_
        refine q_aload_n dX0_deal_52 rfl rfl ?_
        refine q_getA dX0_deal_53 fl_X0_19 (hL 7 (by decide)) sh_7 (by decide) rfl rfl ?_
        refine q_getA dX0_deal_56 fl_X0_38 (hL 6 (by decide)) sh_6 (by decide) rfl rfl ?_
        refine q_iload dX0_deal_59 rfl rfl ?_
        obtain ⟨c522, h⟩ := qk_some h
        refine q_iaload dX0_deal_61 (hL 39 (by decide)) sh_39 (qIx_0 c522) (qIx_1 c522) rfl ?_
        refine q_aload_n dX0_deal_62 rfl rfl ?_
        refine q_getA dX0_deal_63 fl_X0_19 (hL 7 (by decide)) sh_7 (by decide) rfl rfl ?_
        refine q_getA dX0_deal_66 fl_X0_41 (hL 6 (by decide)) sh_6 (by decide) rfl rfl ?_
        refine q_iload dX0_deal_69 rfl rfl ?_
        obtain ⟨c523, h⟩ := qk_some h
        refine q_iaload dX0_deal_71 (hL 41 (by decide)) sh_41 (qIx_0 c523) (qIx_1 c523) rfl ?_
        refine q_iadd dX0_deal_72 rfl ?_
        obtain ⟨c524, h⟩ := qk_some h
        obtain ⟨c525, h⟩ := qk_some h
        refine q_icmp_lt (tgt := 79) dX0_deal_73 (by decide) rfl (qRb_R c524) (qRb_R c525) (fun g => ?_) (fun g => ?_)
        · rw [if_pos (show x1 < ((S 39 (Int.toNat (S 44 (Int.toNat x4)))) + (S 41 (Int.toNat (S 44 (Int.toNat x4))))) from g)] at h
          refine q_aload_n dX0_deal_79 rfl rfl ?_
          refine q_getA dX0_deal_80 fl_X0_19 (hL 7 (by decide)) sh_7 (by decide) rfl rfl ?_
          refine q_getA dX0_deal_83 fl_X0_44 (hL 6 (by decide)) sh_6 (by decide) rfl rfl ?_
          refine q_iload dX0_deal_86 rfl rfl ?_
          obtain ⟨c526, h⟩ := qk_some h
          refine q_iaload dX0_deal_88 (hL 40 (by decide)) sh_40 (qIx_0 c526) (qIx_1 c526) rfl ?_
          refine q_istore (lv' := [(6, qi (S 40 (Int.toNat (S 44 (Int.toNat x4))))), (5, qi (S 44 (Int.toNat x4))), (0, qr 7), (1, qi x1), (2, qi x2), (3, qi x3), (4, qi x4)]) dX0_deal_89 (by decide) rfl rfl ?_
          obtain ⟨q545, h546, h⟩ := Option.bind_eq_some_iff.mp h
          refine q_pick [2, 3, 4, 5, 6, 1, 0] rfl (Dealer_deal_L91_ok hL d qF x1 x2 x3 x4 (S 44 (Int.toNat x4)) (S 40 (Int.toNat (S 44 (Int.toNat x4)))) _ _ h546 ?_)
          refine q_iload dX0_deal_157 rfl rfl ?_
          obtain ⟨c547, h⟩ := qk_some h
          refine q_if_le (tgt := 164) dX0_deal_159 (by decide) rfl (qRb_R c547)  (fun g => ?_) (fun g => ?_)
          · rw [if_pos (show q545.2.1 ≤ 0 from g)] at h
            refine q_iinc (lv' := [(4, qi (x4 + 1)), (0, qr 7), (1, qi x1), (2, qi x2), (3, qi q545.1), (6, qi q545.2.1)]) dX0_deal_164 (by decide) rfl rfl rfl ?_
            refine q_goto (pc' := 13) dX0_deal_167 (by decide) ?_
            exact q_pick [1, 2, 3, 4, 0] rfl (ih x1 x2 q545.1 (x4 + 1) _ _ h hE hR)
          · rw [if_neg (show ¬ (q545.2.1 ≤ 0) from g)] at h
            refine q_iconst dX0_deal_162 rfl rfl ?_
            cases h
            exact q_zreturn dX0_deal_163 rfl (by decide) (hR _ rfl)
        · rw [if_neg (show ¬ (x1 < ((S 39 (Int.toNat (S 44 (Int.toNat x4)))) + (S 41 (Int.toNat (S 44 (Int.toNat x4)))))) from g)] at h
          refine q_goto (pc' := 164) dX0_deal_76 (by decide) ?_
          refine q_iinc (lv' := [(4, qi (x4 + 1)), (5, qi (S 44 (Int.toNat x4))), (0, qr 7), (1, qi x1), (2, qi x2), (3, qi x3)]) dX0_deal_164 (by decide) rfl rfl rfl ?_
          refine q_goto (pc' := 13) dX0_deal_167 (by decide) ?_
          exact q_pick [2, 3, 4, 5, 0] rfl (ih x1 x2 x3 (x4 + 1) _ _ h hE hR)
set_option maxRecDepth 20000 in
theorem Dealer_deal_ok {X : qX} (hL : ∀ c, c < 93 → c ∈ qLs X) (d : Nat) (a1 : Int) (a2 : Int) (S : qSto) (o : (Int × qSto)) (h : Dealer_deal a1 a2 S = some o) (Q : Option qV → qSto → Prop) (hQ : Q (some (qi o.1)) o.2) : qC X (d + 1) yX0_deal cX0_deal 7 (some .boolean) [qr 7, qi a1, qi a2] S Q := by
  refine q_entry (lv := [(0, qr 7), (1, qi a1), (2, qi a2)]) pn_X0 (Nat.le_of_ble_eq_true rfl) rfl ?_
  unfold Dealer_deal at h
  refine q_aload_n dX0_deal_0 rfl rfl ?_
  refine q_getA dX0_deal_1 fl_X0_9 (hL 7 (by decide)) sh_7 (by decide) rfl rfl ?_
  refine q_iconst dX0_deal_4 rfl rfl ?_
  obtain ⟨q514, h515, h⟩ := Option.bind_eq_some_iff.mp h
  refine q_callSv (as := [qr 45, qi (-1)]) dX0_deal_5 ml_X0_23 rfl rfl (Nat.le_of_ble_eq_true rfl) (Ja_fill_45_ok hL d (-1) _ _ h515) rfl ?_
  refine q_iconst dX0_deal_8 rfl rfl ?_
  refine q_istore_n (lv' := [(3, qi 0), (0, qr 7), (1, qi a1), (2, qi a2)]) dX0_deal_9 (by decide) rfl rfl ?_
  refine q_iconst dX0_deal_10 rfl rfl ?_
  refine q_istore (lv' := [(4, qi 0), (3, qi 0), (0, qr 7), (1, qi a1), (2, qi a2)]) dX0_deal_11 (by decide) rfl rfl ?_
  obtain ⟨q548, h549, h⟩ := Option.bind_eq_some_iff.mp h
  refine q_pick [2, 3, 4, 1, 0] rfl (Dealer_deal_L13_ok hL d qF a1 a2 0 0 _ _ h549 (fun t550 e3770 => ?_) (fun w e3770 => ?_))
  · subst e3770
    simp only [Sum.elim_inl] at h
    refine q_iconst dX0_deal_170 rfl rfl ?_
    cases h
    exact q_zreturn dX0_deal_171 rfl (by decide) hQ
  · subst e3770
    simp only [Sum.elim_inr] at h
    cases h
    exact hQ
set_option maxRecDepth 20000 in
theorem Stays_withdraw_ok {X : qX} (hL : ∀ c, c < 93 → c ∈ qLs X) (d : Nat) (a1 : Int) (S : qSto) (o : qSto) (h : Stays_withdraw a1 S = some o) (Q : Option qV → qSto → Prop) (hQ : Q none o) : qC X d yX7_withdraw cX7_withdraw 2 none [qr 6, qi a1] S Q := by
  refine q_entry (lv := [(0, qr 6), (1, qi a1)]) pn_X7 (Nat.le_of_ble_eq_true rfl) rfl ?_
  unfold Stays_withdraw at h
  refine q_aload_n dX7_withdraw_0 rfl rfl ?_
  refine q_getA dX7_withdraw_1 fl_X7_21 (hL 6 (by decide)) sh_6 (by decide) rfl rfl ?_
  refine q_iload_n dX7_withdraw_4 rfl rfl ?_
  refine q_iconst dX7_withdraw_5 rfl rfl ?_
  obtain ⟨c557, h⟩ := qk_some h
  refine q_iastore dX7_withdraw_6 (hL 40 (by decide)) sh_40 (qIx_0 c557) (qIx_1 c557) rfl ?_
  cases h
  exact q_return dX7_withdraw_7 rfl hQ
set_option maxRecDepth 20000 in
theorem Dealer_suffices_L27_ok {X : qX} (hL : ∀ c, c < 93 → c ∈ qLs X) (d : Nat) {Q : Option qV → qSto → Prop} : ∀ (n : Nat) (x1 : Int) (x3 : Int) (x5 : Int) (x6 : Int) (x7 : Int) (S : qSto) (o : (Int × qSto)), Dealer_suffices_L27 n x3 x5 x6 x7 S = some o → (qW X (d + 2) yX0_suffices cX0_suffices 9 (some .boolean) 102 [(0, qr 7), (1, qi x1), (6, qi o.1)] [] o.2 Q) → qW X (d + 2) yX0_suffices cX0_suffices 9 (some .boolean) 27 [(0, qr 7), (1, qi x1), (3, qi x3), (5, qi x5), (6, qi x6), (7, qi x7)] [] S Q := by
  intro n
  induction n with
  | zero =>
    intro x1 x3 x5 x6 x7 S o h
    simp [Dealer_suffices_L27] at h
  | succ n ih =>
    intro x1 x3 x5 x6 x7 S o h hE
    rw [Dealer_suffices_L27] at h
    refine q_iload dX0_suffices_27 rfl rfl ?_
    refine q_aload_n dX0_suffices_29 rfl rfl ?_
    refine q_getA dX0_suffices_30 fl_X0_19 (hL 7 (by decide)) sh_7 (by decide) rfl rfl ?_
    refine q_getI dX0_suffices_33 fl_X0_29 (hL 6 (by decide)) sh_6 (by decide) rfl rfl ?_
    obtain ⟨c501, h⟩ := qk_some h
    obtain ⟨c502, h⟩ := qk_some h
    refine q_icmp_ge (tgt := 102) dX0_suffices_36 (by decide) rfl (qRb_R c501) (qRb_R c502) (fun g => ?_) (fun g => ?_)
    · rw [if_pos (show (S 6 10) ≤ x7 from g)] at h
      cases h
      exact q_pick [0, 1, 4] rfl (hE)
    · rw [if_neg (show ¬ ((S 6 10) ≤ x7) from g)] at h
      refine q_iload dX0_suffices_39 rfl rfl ?_
      obtain ⟨c503, h⟩ := qk_some h
      refine q_if_eq (tgt := 102) dX0_suffices_41 (by decide) rfl (qRb_R c503)  (fun g => ?_) (fun g => ?_)
      · rw [if_pos (show x6 = 0 from g)] at h
        cases h
        exact q_pick [0, 1, 4] rfl (hE)
      · rw [if_neg (show ¬ (x6 = 0) from g)] at h
        refine q_aload_n dX0_suffices_44 rfl rfl ?_
        refine q_getA dX0_suffices_45 fl_X0_19 (hL 7 (by decide)) sh_7 (by decide) rfl rfl ?_
        refine q_getA dX0_suffices_48 fl_X0_38 (hL 6 (by decide)) sh_6 (by decide) rfl rfl ?_
        refine q_aload_n dX0_suffices_51 rfl rfl ?_
        refine q_getA dX0_suffices_52 fl_X0_19 (hL 7 (by decide)) sh_7 (by decide) rfl rfl ?_
        refine q_getA dX0_suffices_55 fl_X0_35 (hL 6 (by decide)) sh_6 (by decide) rfl rfl ?_
        refine q_iload dX0_suffices_58 rfl rfl ?_
        obtain ⟨c504, h⟩ := qk_some h
        refine q_iaload dX0_suffices_60 (hL 44 (by decide)) sh_44 (qIx_0 c504) (qIx_1 c504) rfl ?_
        obtain ⟨c505, h⟩ := qk_some h
        refine q_iaload dX0_suffices_61 (hL 39 (by decide)) sh_39 (qIx_0 c505) (qIx_1 c505) rfl ?_
        refine q_istore (lv' := [(8, qi (S 39 (Int.toNat (S 44 (Int.toNat x7))))), (0, qr 7), (1, qi x1), (3, qi x3), (5, qi x5), (6, qi x6), (7, qi x7)]) dX0_suffices_62 (by decide) rfl rfl ?_
        refine q_iload dX0_suffices_64 rfl rfl ?_
        refine q_iload_n dX0_suffices_66 rfl rfl ?_
        refine q_jn (G := fun (t554 : (Int × qSto)) => qW X (d + 2) yX0_suffices cX0_suffices 9 (some .boolean) 94 [(0, qr 7), (1, qi x1), (3, qi x3), (5, qi x5), (7, qi x7)] [qi t554.1] t554.2 Q) h (fun t554 h => ?_) (fun t554 h hk3771 => ?_)
        · try dsimp only at h
          refine q_istore (lv' := [(6, qi t554.1), (0, qr 7), (1, qi x1), (3, qi x3), (5, qi x5), (7, qi x7)]) dX0_suffices_94 (by decide) rfl rfl ?_
          refine q_iinc (lv' := [(7, qi (x7 + 1)), (6, qi t554.1), (0, qr 7), (1, qi x1), (3, qi x3), (5, qi x5)]) dX0_suffices_96 (by decide) rfl rfl rfl ?_
          refine q_goto (pc' := 27) dX0_suffices_99 (by decide) ?_
          exact q_pick [2, 3, 4, 5, 1, 0] rfl (ih x1 x3 x5 t554.1 (x7 + 1) _ _ h hE)
        · skip
          obtain ⟨c506, h⟩ := qk_some h
          obtain ⟨c507, h⟩ := qk_some h
          refine q_icmp_lt (tgt := 89) dX0_suffices_67 (by decide) rfl (qRb_R c506) (qRb_R c507) (fun g => ?_) (fun g => ?_)
          · rw [if_pos (show (S 39 (Int.toNat (S 44 (Int.toNat x7)))) < x3 from g)] at h
            refine q_iconst dX0_suffices_89 rfl rfl ?_
            refine q_goto (pc' := 94) dX0_suffices_90 (by decide) ?_
            cases h
            exact q_pick [1, 2, 3, 4, 6] rfl hk3771
          · rw [if_neg (show ¬ ((S 39 (Int.toNat (S 44 (Int.toNat x7)))) < x3) from g)] at h
            refine q_iload dX0_suffices_70 rfl rfl ?_
            refine q_iload_n dX0_suffices_72 rfl rfl ?_
            refine q_iload dX0_suffices_73 rfl rfl ?_
            refine q_iadd dX0_suffices_75 rfl ?_
            obtain ⟨c508, h⟩ := qk_some h
            obtain ⟨c509, h⟩ := qk_some h
            refine q_icmp_ge (tgt := 89) dX0_suffices_76 (by decide) rfl (qRb_R c508) (qRb_R c509) (fun g => ?_) (fun g => ?_)
            · rw [if_pos (show (x3 + x5) ≤ (S 39 (Int.toNat (S 44 (Int.toNat x7)))) from g)] at h
              refine q_iconst dX0_suffices_89 rfl rfl ?_
              refine q_goto (pc' := 94) dX0_suffices_90 (by decide) ?_
              cases h
              exact q_pick [1, 2, 3, 4, 6] rfl hk3771
            · rw [if_neg (show ¬ ((x3 + x5) ≤ (S 39 (Int.toNat (S 44 (Int.toNat x7))))) from g)] at h
              refine q_aload_n dX0_suffices_79 rfl rfl ?_
              refine q_iload dX0_suffices_80 rfl rfl ?_
              refine q_iconst dX0_suffices_82 rfl rfl ?_
              obtain ⟨q551, h552, h⟩ := Option.bind_eq_some_iff.mp h
              refine q_callVi (as := [qi (S 39 (Int.toNat (S 44 (Int.toNat x7)))), qi (-1)]) (c := 7) dX0_suffices_83 ml_X0_74 rfl rfl (hL 7 (by decide)) sh_7 rfl rfl (Nat.le_of_ble_eq_true rfl) (Dealer_deal_ok hL d (S 39 (Int.toNat (S 44 (Int.toNat x7)))) (-1) _ _ h552) rfl ?_
              obtain ⟨c553, h⟩ := qk_some h
              refine q_if_eq (tgt := 93) dX0_suffices_86 (by decide) rfl (qRb_R c553)  (fun g => ?_) (fun g => ?_)
              · rw [if_pos (show q551.1 = 0 from g)] at h
                refine q_iconst dX0_suffices_93 rfl rfl ?_
                cases h
                exact q_pick [1, 2, 3, 4, 6] rfl hk3771
              · rw [if_neg (show ¬ (q551.1 = 0) from g)] at h
                refine q_iconst dX0_suffices_89 rfl rfl ?_
                refine q_goto (pc' := 94) dX0_suffices_90 (by decide) ?_
                cases h
                exact q_pick [1, 2, 3, 4, 6] rfl hk3771
set_option maxRecDepth 20000 in
theorem Dealer_suffices_ok {X : qX} (hL : ∀ c, c < 93 → c ∈ qLs X) (d : Nat) (a1 : Int) (a2 : Int) (a3 : Int) (a4 : Int) (a5 : Int) (S : qSto) (o : (Int × qSto)) (h : Dealer_suffices a1 a2 a3 a4 a5 S = some o) (Q : Option qV → qSto → Prop) (hQ : Q (some (qi o.1)) o.2) : qC X (d + 2) yX0_suffices cX0_suffices 9 (some .boolean) [qr 7, qi a1, qi a2, qi a3, qi a4, qi a5] S Q := by
  refine q_entry (lv := [(0, qr 7), (1, qi a1), (2, qi a2), (3, qi a3), (4, qi a4), (5, qi a5)]) pn_X0 (Nat.le_of_ble_eq_true rfl) rfl ?_
  unfold Dealer_suffices at h
  refine q_aload_n dX0_suffices_0 rfl rfl ?_
  refine q_getA dX0_suffices_1 fl_X0_19 (hL 7 (by decide)) sh_7 (by decide) rfl rfl ?_
  refine q_iload_n dX0_suffices_4 rfl rfl ?_
  refine q_iload_n dX0_suffices_5 rfl rfl ?_
  refine q_iload_n dX0_suffices_6 rfl rfl ?_
  refine q_iload dX0_suffices_7 rfl rfl ?_
  refine q_iload dX0_suffices_9 rfl rfl ?_
  obtain ⟨q478, h479, h⟩ := Option.bind_eq_some_iff.mp h
  refine q_callVv (as := [qi a1, qi a2, qi a3, qi a4, qi a5]) (c := 6) dX0_suffices_11 ml_X0_67 rfl rfl (hL 6 (by decide)) sh_6 rfl rfl (Nat.le_of_ble_eq_true rfl) (Stays_propose_ok hL d a1 a2 a3 a4 a5 _ _ h479) rfl ?_
  refine q_aload_n dX0_suffices_14 rfl rfl ?_
  refine q_getA dX0_suffices_15 fl_X0_19 (hL 7 (by decide)) sh_7 (by decide) rfl rfl ?_
  obtain ⟨q499, h500, h⟩ := Option.bind_eq_some_iff.mp h
  refine q_callVv (as := []) (c := 6) dX0_suffices_18 ml_X0_71 rfl rfl (hL 6 (by decide)) sh_6 rfl rfl (Nat.le_of_ble_eq_true rfl) (Stays_lineUp_ok hL d _ _ h500) rfl ?_
  refine q_iconst dX0_suffices_21 rfl rfl ?_
  refine q_istore (lv' := [(6, qi 1), (0, qr 7), (1, qi a1), (2, qi a2), (3, qi a3), (4, qi a4), (5, qi a5)]) dX0_suffices_22 (by decide) rfl rfl ?_
  refine q_iconst dX0_suffices_24 rfl rfl ?_
  refine q_istore (lv' := [(7, qi 0), (6, qi 1), (0, qr 7), (1, qi a1), (2, qi a2), (3, qi a3), (4, qi a4), (5, qi a5)]) dX0_suffices_25 (by decide) rfl rfl ?_
  obtain ⟨q555, h556, h⟩ := Option.bind_eq_some_iff.mp h
  refine q_pick [2, 3, 5, 7, 1, 0] rfl (Dealer_suffices_L27_ok hL d qF a1 a3 a5 1 0 _ _ h556 ?_)
  refine q_aload_n dX0_suffices_102 rfl rfl ?_
  refine q_getA dX0_suffices_103 fl_X0_19 (hL 7 (by decide)) sh_7 (by decide) rfl rfl ?_
  refine q_iload_n dX0_suffices_106 rfl rfl ?_
  obtain ⟨q558, h559, h⟩ := Option.bind_eq_some_iff.mp h
  refine q_callVv (as := [qi a1]) (c := 6) dX0_suffices_107 ml_X0_78 rfl rfl (hL 6 (by decide)) sh_6 rfl rfl (Nat.le_of_ble_eq_true rfl) (Stays_withdraw_ok hL (d + 1) a1 _ _ h559) rfl ?_
  refine q_iload dX0_suffices_110 rfl rfl ?_
  obtain ⟨c560, h⟩ := qk_some h
  cases h
  exact q_zreturn dX0_suffices_112 rfl (qZb_Z c560) hQ
set_option maxRecDepth 20000 in
theorem Laws_firstBroken_ok {X : qX} (hL : ∀ c, c < 93 → c ∈ qLs X) (d : Nat) (a1 : Int) (a2 : Int) (a3 : Int) (a4 : Int) (S : qSto) (o : (Int × qSto)) (h : Laws_firstBroken a1 a2 a3 a4 S = some o) (Q : Option qV → qSto → Prop) (hQ : Q (some (qi o.1)) o.2) : qC X (d + 4) yX3_firstBroken cX3_firstBroken 7 (some .int) [qr 8, qi a1, qi a2, qi a3, qi a4] S Q := by
  refine q_entry (lv := [(0, qr 8), (1, qi a1), (2, qi a2), (3, qi a3), (4, qi a4)]) pn_X3 (Nat.le_of_ble_eq_true rfl) rfl ?_
  unfold Laws_firstBroken at h
  refine q_aload_n dX3_firstBroken_0 rfl rfl ?_
  refine q_iload_n dX3_firstBroken_1 rfl rfl ?_
  refine q_iload_n dX3_firstBroken_2 rfl rfl ?_
  obtain ⟨q357, h358, h⟩ := Option.bind_eq_some_iff.mp h
  refine q_callVi (as := [qi a1, qi a2]) (c := 8) dX3_firstBroken_3 ml_X3_27 rfl rfl (hL 8 (by decide)) sh_8 rfl rfl (Nat.le_of_ble_eq_true rfl) (Laws_fits_ok hL (d + 2) a1 a2 _ _ h358) rfl ?_
  obtain ⟨c359, h⟩ := qk_some h
  refine q_if_ne (tgt := 11) dX3_firstBroken_6 (by decide) rfl (qRb_R c359)  (fun g => ?_) (fun g => ?_)
  · rw [if_neg (show ¬ (q357.1 = 0) from g)] at h
    refine q_aload_n dX3_firstBroken_11 rfl rfl ?_
    refine q_iload_n dX3_firstBroken_12 rfl rfl ?_
    refine q_iload_n dX3_firstBroken_13 rfl rfl ?_
    refine q_iload dX3_firstBroken_14 rfl rfl ?_
    obtain ⟨q396, h397, h⟩ := Option.bind_eq_some_iff.mp h
    refine q_callVi (as := [qi a1, qi a3, qi a4]) (c := 8) dX3_firstBroken_16 ml_X3_31 rfl rfl (hL 8 (by decide)) sh_8 rfl rfl (Nat.le_of_ble_eq_true rfl) (Laws_ofTime_ok hL d a1 a3 a4 _ _ h397) rfl ?_
    refine q_istore (lv' := [(5, qi q396.1), (0, qr 8), (1, qi a1), (2, qi a2), (3, qi a3), (4, qi a4)]) dX3_firstBroken_19 (by decide) rfl rfl ?_
    refine q_iload dX3_firstBroken_21 rfl rfl ?_
    obtain ⟨c398, h⟩ := qk_some h
    refine q_if_eq (tgt := 29) dX3_firstBroken_23 (by decide) rfl (qRb_R c398)  (fun g => ?_) (fun g => ?_)
    · rw [if_pos (show q396.1 = 0 from g)] at h
      refine q_aload_n dX3_firstBroken_29 rfl rfl ?_
      refine q_getA dX3_firstBroken_30 fl_X3_9 (hL 8 (by decide)) sh_8 (by decide) rfl rfl ?_
      refine q_iload_n dX3_firstBroken_33 rfl rfl ?_
      refine q_iload_n dX3_firstBroken_34 rfl rfl ?_
      refine q_aload_n dX3_firstBroken_35 rfl rfl ?_
      refine q_getA dX3_firstBroken_36 fl_X3_9 (hL 8 (by decide)) sh_8 (by decide) rfl rfl ?_
      refine q_iload_n dX3_firstBroken_39 rfl rfl ?_
      refine q_iconst dX3_firstBroken_40 rfl rfl ?_
      obtain ⟨q399, h400, h⟩ := Option.bind_eq_some_iff.mp h
      refine q_callVi (as := [qi a1, qi 0]) (c := 2) dX3_firstBroken_41 ml_X3_35 rfl rfl (hL 2 (by decide)) sh_2 rfl rfl (Nat.le_of_ble_eq_true rfl) (Told_contractOf_ok hL (d + 3) a1 0 _ _ h400) rfl ?_
      refine q_iadd dX3_firstBroken_44 rfl ?_
      refine q_iconst dX3_firstBroken_45 rfl rfl ?_
      refine q_isub dX3_firstBroken_46 rfl ?_
      obtain ⟨q401, h402, h⟩ := Option.bind_eq_some_iff.mp h
      refine q_callVi (as := [qi a2, qi ((a2 + q399.1) - 1)]) (c := 2) dX3_firstBroken_47 ml_X3_41 rfl rfl (hL 2 (by decide)) sh_2 rfl rfl (Nat.le_of_ble_eq_true rfl) (Told_shallowest_ok hL (d + 2) a2 ((a2 + q399.1) - 1) _ _ h402) rfl ?_
      refine q_istore (lv' := [(6, qi q401.1), (5, qi q396.1), (0, qr 8), (1, qi a1), (2, qi a2), (3, qi a3), (4, qi a4)]) dX3_firstBroken_50 (by decide) rfl rfl ?_
      refine q_iload dX3_firstBroken_52 rfl rfl ?_
      refine q_aload_n dX3_firstBroken_54 rfl rfl ?_
      refine q_getA dX3_firstBroken_55 fl_X3_15 (hL 8 (by decide)) sh_8 (by decide) rfl rfl ?_
      refine q_iload_n dX3_firstBroken_58 rfl rfl ?_
      refine q_aload_n dX3_firstBroken_59 rfl rfl ?_
      refine q_getI dX3_firstBroken_60 fl_X3_44 (hL 8 (by decide)) sh_8 (by decide) rfl rfl ?_
      obtain ⟨q411, h412, h⟩ := Option.bind_eq_some_iff.mp h
      refine q_callVi (as := [qi a3, qi (q401.2 8 5)]) (c := 5) dX3_firstBroken_63 ml_X3_48 rfl rfl (hL 5 (by decide)) sh_5 rfl rfl (Nat.le_of_ble_eq_true rfl) (Waters_lowest_ok hL (d + 2) a3 (q401.2 8 5) _ _ h412) rfl ?_
      refine q_iadd dX3_firstBroken_66 rfl ?_
      refine q_aload_n dX3_firstBroken_67 rfl rfl ?_
      refine q_getA dX3_firstBroken_68 fl_X3_9 (hL 8 (by decide)) sh_8 (by decide) rfl rfl ?_
      refine q_iload_n dX3_firstBroken_71 rfl rfl ?_
      obtain ⟨q419, h420, h⟩ := Option.bind_eq_some_iff.mp h
      refine q_callVi (as := [qi a1]) (c := 2) dX3_firstBroken_72 ml_X3_53 rfl rfl (hL 2 (by decide)) sh_2 rfl rfl (Nat.le_of_ble_eq_true rfl) (Told_waterNeededBy_ok hL (d + 2) a1 _ _ h420) rfl ?_
      obtain ⟨c421, h⟩ := qk_some h
      obtain ⟨c422, h⟩ := qk_some h
      refine q_icmp_ge (tgt := 81) dX3_firstBroken_75 (by decide) rfl (qRb_R c421) (qRb_R c422) (fun g => ?_) (fun g => ?_)
      · rw [if_pos (show q419.1 ≤ (q401.1 + q411.1) from g)] at h
        refine q_aload_n dX3_firstBroken_81 rfl rfl ?_
        refine q_iload_n dX3_firstBroken_82 rfl rfl ?_
        refine q_iload_n dX3_firstBroken_83 rfl rfl ?_
        refine q_iload_n dX3_firstBroken_84 rfl rfl ?_
        obtain ⟨q451, h452, h⟩ := Option.bind_eq_some_iff.mp h
        refine q_callVi (as := [qi a1, qi a2, qi a3]) (c := 8) dX3_firstBroken_85 ml_X3_57 rfl rfl (hL 8 (by decide)) sh_8 rfl rfl (Nat.le_of_ble_eq_true rfl) (Laws_pastObstacle_ok hL (d + 1) a1 a2 a3 _ _ h452) rfl ?_
        refine q_iload_n dX3_firstBroken_88 rfl rfl ?_
        obtain ⟨c453, h⟩ := qk_some h
        obtain ⟨c454, h⟩ := qk_some h
        refine q_icmp_le (tgt := 95) dX3_firstBroken_89 (by decide) rfl (qRb_R c453) (qRb_R c454) (fun g => ?_) (fun g => ?_)
        · rw [if_pos (show q451.1 ≤ a2 from g)] at h
          refine q_aload_n dX3_firstBroken_95 rfl rfl ?_
          refine q_iload_n dX3_firstBroken_96 rfl rfl ?_
          refine q_iload dX3_firstBroken_97 rfl rfl ?_
          obtain ⟨q468, h469, h⟩ := Option.bind_eq_some_iff.mp h
          refine q_callVi (as := [qi a3, qi a4]) (c := 8) dX3_firstBroken_99 ml_X3_60 rfl rfl (hL 8 (by decide)) sh_8 rfl rfl (Nat.le_of_ble_eq_true rfl) (Laws_firstShort_ok hL (d + 2) a3 a4 _ _ h469) rfl ?_
          refine q_iconst dX3_firstBroken_102 rfl rfl ?_
          obtain ⟨c470, h⟩ := qk_some h
          refine q_icmp_eq (tgt := 109) dX3_firstBroken_103 (by decide) rfl (qRb_R c470) ⟨by decide, by decide⟩ (fun g => ?_) (fun g => ?_)
          · rw [if_pos (show q468.1 = (-1) from g)] at h
            refine q_aload_n dX3_firstBroken_109 rfl rfl ?_
            refine q_getA dX3_firstBroken_110 fl_X3_23 (hL 8 (by decide)) sh_8 (by decide) rfl rfl ?_
            refine q_iload_n dX3_firstBroken_113 rfl rfl ?_
            refine q_iload_n dX3_firstBroken_114 rfl rfl ?_
            refine q_iload_n dX3_firstBroken_115 rfl rfl ?_
            refine q_iload dX3_firstBroken_116 rfl rfl ?_
            refine q_aload_n dX3_firstBroken_118 rfl rfl ?_
            refine q_getI dX3_firstBroken_119 fl_X3_63 (hL 8 (by decide)) sh_8 (by decide) rfl rfl ?_
            obtain ⟨q561, h562, h⟩ := Option.bind_eq_some_iff.mp h
            refine q_callVi (as := [qi a1, qi a2, qi a3, qi a4, qi (q468.2 8 4)]) (c := 7) dX3_firstBroken_122 ml_X3_66 rfl rfl (hL 7 (by decide)) sh_7 rfl rfl (Nat.le_of_ble_eq_true rfl) (Dealer_suffices_ok hL (d + 1) a1 a2 a3 a4 (q468.2 8 4) _ _ h562) rfl ?_
            obtain ⟨c563, h⟩ := qk_some h
            refine q_if_eq (tgt := 132) dX3_firstBroken_125 (by decide) rfl (qRb_R c563)  (fun g => ?_) (fun g => ?_)
            · rw [if_pos (show q561.1 = 0 from g)] at h
              refine q_bipush dX3_firstBroken_132 (by decide) rfl ?_
              cases h
              exact q_ireturn dX3_firstBroken_134 rfl hQ
            · rw [if_neg (show ¬ (q561.1 = 0) from g)] at h
              refine q_iconst dX3_firstBroken_128 rfl rfl ?_
              refine q_goto (pc' := 134) dX3_firstBroken_129 (by decide) ?_
              cases h
              exact q_ireturn dX3_firstBroken_134 rfl hQ
          · rw [if_neg (show ¬ (q468.1 = (-1)) from g)] at h
            refine q_bipush dX3_firstBroken_106 (by decide) rfl ?_
            cases h
            exact q_ireturn dX3_firstBroken_108 rfl hQ
        · rw [if_neg (show ¬ (q451.1 ≤ a2) from g)] at h
          refine q_bipush dX3_firstBroken_92 (by decide) rfl ?_
          cases h
          exact q_ireturn dX3_firstBroken_94 rfl hQ
      · rw [if_neg (show ¬ (q419.1 ≤ (q401.1 + q411.1)) from g)] at h
        refine q_bipush dX3_firstBroken_78 (by decide) rfl ?_
        cases h
        exact q_ireturn dX3_firstBroken_80 rfl hQ
    · rw [if_neg (show ¬ (q396.1 = 0) from g)] at h
      refine q_iload dX3_firstBroken_26 rfl rfl ?_
      cases h
      exact q_ireturn dX3_firstBroken_28 rfl hQ
  · rw [if_pos (show q357.1 = 0 from g)] at h
    refine q_iconst dX3_firstBroken_9 rfl rfl ?_
    cases h
    exact q_ireturn dX3_firstBroken_10 rfl hQ
set_option maxRecDepth 20000 in
theorem Stays_lay_ok {X : qX} (hL : ∀ c, c < 93 → c ∈ qLs X) (d : Nat) (a1 : Int) (a2 : Int) (a3 : Int) (a4 : Int) (S : qSto) (o : qSto) (h : Stays_lay a1 a2 a3 a4 S = some o) (Q : Option qV → qSto → Prop) (hQ : Q none o) : qC X (d + 3) yX7_lay cX7_lay 5 none [qr 6, qi a1, qi a2, qi a3, qi a4] S Q := by
  refine q_entry (lv := [(0, qr 6), (1, qi a1), (2, qi a2), (3, qi a3), (4, qi a4)]) pn_X7 (Nat.le_of_ble_eq_true rfl) rfl ?_
  unfold Stays_lay at h
  refine q_aload_n dX7_lay_0 rfl rfl ?_
  refine q_iload_n dX7_lay_1 rfl rfl ?_
  refine q_iload_n dX7_lay_2 rfl rfl ?_
  refine q_iload_n dX7_lay_3 rfl rfl ?_
  refine q_iload dX7_lay_4 rfl rfl ?_
  refine q_aload_n dX7_lay_6 rfl rfl ?_
  refine q_getA dX7_lay_7 fl_X7_36 (hL 6 (by decide)) sh_6 (by decide) rfl rfl ?_
  refine q_iload_n dX7_lay_10 rfl rfl ?_
  refine q_iload dX7_lay_11 rfl rfl ?_
  obtain ⟨q567, h568, h⟩ := Option.bind_eq_some_iff.mp h
  refine q_callVi (as := [qi a1, qi a4]) (c := 2) dX7_lay_13 ml_X7_58 rfl rfl (hL 2 (by decide)) sh_2 rfl rfl (Nat.le_of_ble_eq_true rfl) (Told_workWith_ok hL d a1 a4 _ _ h568) rfl ?_
  obtain ⟨q569, h570, h⟩ := Option.bind_eq_some_iff.mp h
  refine q_callVv (as := [qi a1, qi a2, qi a3, qi a4, qi q567.1]) (c := 6) dX7_lay_16 ml_X7_61 rfl rfl (hL 6 (by decide)) sh_6 rfl rfl (Nat.le_of_ble_eq_true rfl) (Stays_propose_ok hL (d + 1) a1 a2 a3 a4 q567.1 _ _ h570) rfl ?_
  refine q_aload_n dX7_lay_19 rfl rfl ?_
  refine q_getA dX7_lay_20 fl_X7_27 (hL 6 (by decide)) sh_6 (by decide) rfl rfl ?_
  refine q_iload_n dX7_lay_23 rfl rfl ?_
  refine q_aload_n dX7_lay_24 rfl rfl ?_
  refine q_getA dX7_lay_25 fl_X7_40 (hL 6 (by decide)) sh_6 (by decide) rfl rfl ?_
  refine q_aload_n dX7_lay_28 rfl rfl ?_
  refine q_getA dX7_lay_29 fl_X7_36 (hL 6 (by decide)) sh_6 (by decide) rfl rfl ?_
  refine q_iload_n dX7_lay_32 rfl rfl ?_
  refine q_iconst dX7_lay_33 rfl rfl ?_
  obtain ⟨q571, h572, h⟩ := Option.bind_eq_some_iff.mp h
  refine q_callVi (as := [qi a1, qi 2]) (c := 2) dX7_lay_34 ml_X7_54 rfl rfl (hL 2 (by decide)) sh_2 rfl rfl (Nat.le_of_ble_eq_true rfl) (Told_contractOf_ok hL (d + 2) a1 2 _ _ h572) rfl ?_
  refine q_iload_n dX7_lay_37 rfl rfl ?_
  refine q_aload_n dX7_lay_38 rfl rfl ?_
  refine q_getA dX7_lay_39 fl_X7_24 (hL 6 (by decide)) sh_6 (by decide) rfl rfl ?_
  refine q_iload_n dX7_lay_42 rfl rfl ?_
  obtain ⟨c573, h⟩ := qk_some h
  refine q_iaload dX7_lay_43 (hL 41 (by decide)) sh_41 (qIx_0 c573) (qIx_1 c573) rfl ?_
  refine q_iadd dX7_lay_44 rfl ?_
  obtain ⟨q574, h575, h⟩ := Option.bind_eq_some_iff.mp h
  refine q_callVi (as := [qi q571.1, qi (a3 + (q571.2 41 (Int.toNat a1)))]) (c := 5) dX7_lay_45 ml_X7_65 rfl rfl (hL 5 (by decide)) sh_5 rfl rfl (Nat.le_of_ble_eq_true rfl) (Waters_firstOpen_ok hL (d + 1) q571.1 (a3 + (q571.2 41 (Int.toNat a1))) _ _ h575) rfl ?_
  obtain ⟨c576, h⟩ := qk_some h
  refine q_iastore dX7_lay_48 (hL 42 (by decide)) sh_42 (qIx_0 c576) (qIx_1 c576) rfl ?_
  refine q_aload_n dX7_lay_49 rfl rfl ?_
  refine q_iload_n dX7_lay_50 rfl rfl ?_
  refine q_iload dX7_lay_51 rfl rfl ?_
  obtain ⟨q577, h578, h⟩ := Option.bind_eq_some_iff.mp h
  refine q_callVv (as := [qi a1, qi a4]) (c := 6) dX7_lay_53 ml_X7_70 rfl rfl (hL 6 (by decide)) sh_6 rfl rfl (Nat.le_of_ble_eq_true rfl) (Stays_addBusy_ok hL (d + 1) a1 a4 _ _ h578) rfl ?_
  cases h
  exact q_return dX7_lay_56 rfl hQ
set_option maxRecDepth 20000 in
theorem Stays_layBack_ok {X : qX} (hL : ∀ c, c < 93 → c ∈ qLs X) (d : Nat) (a1 : Int) (S : qSto) (o : qSto) (h : Stays_layBack a1 S = some o) (Q : Option qV → qSto → Prop) (hQ : Q none o) : qC X (d + 4) yX7_layBack cX7_layBack 2 none [qr 6, qi a1] S Q := by
  refine q_entry (lv := [(0, qr 6), (1, qi a1)]) pn_X7 (Nat.le_of_ble_eq_true rfl) rfl ?_
  unfold Stays_layBack at h
  refine q_aload_n dX7_layBack_0 rfl rfl ?_
  refine q_getI dX7_layBack_1 fl_X7_85 (hL 6 (by decide)) sh_6 (by decide) rfl rfl ?_
  obtain ⟨c566, h⟩ := qk_some h
  refine q_if_le (tgt := 24) dX7_layBack_4 (by decide) rfl (qRb_R c566)  (fun g => ?_) (fun g => ?_)
  · rw [if_pos (show (S 6 13) ≤ 0 from g)] at h
    cases h
    exact q_return dX7_layBack_24 rfl hQ
  · rw [if_neg (show ¬ ((S 6 13) ≤ 0) from g)] at h
    refine q_aload_n dX7_layBack_7 rfl rfl ?_
    refine q_iload_n dX7_layBack_8 rfl rfl ?_
    refine q_aload_n dX7_layBack_9 rfl rfl ?_
    refine q_getI dX7_layBack_10 fl_X7_79 (hL 6 (by decide)) sh_6 (by decide) rfl rfl ?_
    refine q_aload_n dX7_layBack_13 rfl rfl ?_
    refine q_getI dX7_layBack_14 fl_X7_82 (hL 6 (by decide)) sh_6 (by decide) rfl rfl ?_
    refine q_aload_n dX7_layBack_17 rfl rfl ?_
    refine q_getI dX7_layBack_18 fl_X7_85 (hL 6 (by decide)) sh_6 (by decide) rfl rfl ?_
    obtain ⟨q579, h580, h⟩ := Option.bind_eq_some_iff.mp h
    refine q_callVv (as := [qi a1, qi (S 6 11), qi (S 6 12), qi (S 6 13)]) (c := 6) dX7_layBack_21 ml_X7_92 rfl rfl (hL 6 (by decide)) sh_6 rfl rfl (Nat.le_of_ble_eq_true rfl) (Stays_lay_ok hL d a1 (S 6 11) (S 6 12) (S 6 13) _ _ h580) rfl ?_
    cases h
    exact q_return dX7_layBack_24 rfl hQ
set_option maxRecDepth 20000 in
theorem C_breaks_ok {X : qX} (hL : ∀ c, c < 93 → c ∈ qLs X) (d : Nat) (a1 : Int) (a2 : Int) (a3 : Int) (a4 : Int) (S : qSto) (o : (Int × qSto)) (h : C_breaks a1 a2 a3 a4 S = some o) (Q : Option qV → qSto → Prop) (hQ : Q (some (qi o.1)) o.2) : qC X (d + 5) yX11_breaks cX11_breaks 6 (some .int) [qr 0, qi a1, qi a2, qi a3, qi a4] S Q := by
  refine q_entry (lv := [(0, qr 0), (1, qi a1), (2, qi a2), (3, qi a3), (4, qi a4)]) pn_X11 (Nat.le_of_ble_eq_true rfl) rfl ?_
  unfold C_breaks at h
  refine q_aload_n dX11_breaks_0 rfl rfl ?_
  refine q_iload_n dX11_breaks_1 rfl rfl ?_
  obtain ⟨q326, h327, h⟩ := Option.bind_eq_some_iff.mp h
  refine q_callVi (as := [qi a1]) (c := 0) dX11_breaks_2 ml_X11_216 rfl rfl (hL 0 (by decide)) sh_0 rfl rfl (Nat.le_of_ble_eq_true rfl) (C_isShip_ok hL (d + 4) a1 _ _ h327) rfl ?_
  obtain ⟨c328, h⟩ := qk_some h
  refine q_if_ne (tgt := 10) dX11_breaks_5 (by decide) rfl (qRb_R c328)  (fun g => ?_) (fun g => ?_)
  · rw [if_neg (show ¬ (q326.1 = 0) from g)] at h
    refine q_aload_n dX11_breaks_10 rfl rfl ?_
    refine q_getA dX11_breaks_11 fl_X11_49 (hL 0 (by decide)) sh_0 (by decide) rfl rfl ?_
    refine q_iload_n dX11_breaks_14 rfl rfl ?_
    obtain ⟨q350, h351, h⟩ := Option.bind_eq_some_iff.mp h
    refine q_callVv (as := [qi a1]) (c := 6) dX11_breaks_15 ml_X11_260 rfl rfl (hL 6 (by decide)) sh_6 rfl rfl (Nat.le_of_ble_eq_true rfl) (Stays_takeUp_ok hL (d + 1) a1 _ _ h351) rfl ?_
    refine q_aload_n dX11_breaks_18 rfl rfl ?_
    refine q_getA dX11_breaks_19 fl_X11_67 (hL 0 (by decide)) sh_0 (by decide) rfl rfl ?_
    refine q_iload_n dX11_breaks_22 rfl rfl ?_
    refine q_iload_n dX11_breaks_23 rfl rfl ?_
    refine q_iload_n dX11_breaks_24 rfl rfl ?_
    refine q_iload dX11_breaks_25 rfl rfl ?_
    obtain ⟨q564, h565, h⟩ := Option.bind_eq_some_iff.mp h
    refine q_callVi (as := [qi a1, qi a2, qi a3, qi a4]) (c := 8) dX11_breaks_27 ml_X11_263 rfl rfl (hL 8 (by decide)) sh_8 rfl rfl (Nat.le_of_ble_eq_true rfl) (Laws_firstBroken_ok hL d a1 a2 a3 a4 _ _ h565) rfl ?_
    refine q_istore (lv' := [(5, qi q564.1), (0, qr 0), (1, qi a1), (2, qi a2), (3, qi a3), (4, qi a4)]) dX11_breaks_30 (by decide) rfl rfl ?_
    refine q_aload_n dX11_breaks_32 rfl rfl ?_
    refine q_getA dX11_breaks_33 fl_X11_49 (hL 0 (by decide)) sh_0 (by decide) rfl rfl ?_
    refine q_iload_n dX11_breaks_36 rfl rfl ?_
    obtain ⟨q581, h582, h⟩ := Option.bind_eq_some_iff.mp h
    refine q_callVv (as := [qi a1]) (c := 6) dX11_breaks_37 ml_X11_267 rfl rfl (hL 6 (by decide)) sh_6 rfl rfl (Nat.le_of_ble_eq_true rfl) (Stays_layBack_ok hL d a1 _ _ h582) rfl ?_
    refine q_iload dX11_breaks_40 rfl rfl ?_
    cases h
    exact q_ireturn dX11_breaks_42 rfl hQ
  · rw [if_pos (show q326.1 = 0 from g)] at h
    refine q_iconst dX11_breaks_8 rfl rfl ?_
    cases h
    exact q_ireturn dX11_breaks_9 rfl hQ
set_option maxRecDepth 20000 in
theorem C_inWay_L44_ok {X : qX} (hL : ∀ c, c < 93 → c ∈ qLs X) (d : Nat) {Q : Option qV → qSto → Prop} : ∀ (n : Nat) (x1 : Int) (x2 : Int) (x3 : Int) (x5 : Int) (x6 : Int) (S : qSto) (o : (Int × qSto)), C_inWay_L44 n x1 x2 x3 x5 x6 S = some o → (qW X (d + 4) yX11_inWay cX11_inWay 7 (some .int) 86 [(5, qi o.1)] [] o.2 Q) → qW X (d + 4) yX11_inWay cX11_inWay 7 (some .int) 44 [(0, qr 0), (1, qi x1), (2, qi x2), (3, qi x3), (5, qi x5), (6, qi x6)] [] S Q := by
  intro n
  induction n with
  | zero =>
    intro x1 x2 x3 x5 x6 S o h
    simp [C_inWay_L44] at h
  | succ n ih =>
    intro x1 x2 x3 x5 x6 S o h hE
    rw [C_inWay_L44] at h
    refine q_iload dX11_inWay_44 rfl rfl ?_
    refine q_aload_n dX11_inWay_46 rfl rfl ?_
    refine q_getA dX11_inWay_47 fl_X11_16 (hL 0 (by decide)) sh_0 (by decide) rfl rfl ?_
    refine q_getI dX11_inWay_50 fl_X11_158 (hL 2 (by decide)) sh_2 (by decide) rfl rfl ?_
    obtain ⟨c592, h⟩ := qk_some h
    obtain ⟨c593, h⟩ := qk_some h
    refine q_icmp_ge (tgt := 86) dX11_inWay_53 (by decide) rfl (qRb_R c592) (qRb_R c593) (fun g => ?_) (fun g => ?_)
    · rw [if_pos (show (S 2 12) ≤ x6 from g)] at h
      cases h
      exact q_pick [4] rfl (hE)
    · rw [if_neg (show ¬ ((S 2 12) ≤ x6) from g)] at h
      refine q_aload_n dX11_inWay_56 rfl rfl ?_
      refine q_getA dX11_inWay_57 fl_X11_67 (hL 0 (by decide)) sh_0 (by decide) rfl rfl ?_
      refine q_iload dX11_inWay_60 rfl rfl ?_
      refine q_iload_n dX11_inWay_62 rfl rfl ?_
      refine q_iload_n dX11_inWay_63 rfl rfl ?_
      refine q_iload_n dX11_inWay_64 rfl rfl ?_
      obtain ⟨q594, h595, h⟩ := Option.bind_eq_some_iff.mp h
      refine q_callVi (as := [qi x6, qi x1, qi x2, qi x3]) (c := 8) dX11_inWay_65 ml_X11_277 rfl rfl (hL 8 (by decide)) sh_8 rfl rfl (Nat.le_of_ble_eq_true rfl) (Laws_crowds_ok hL (d + 2) x6 x1 x2 x3 _ _ h595) rfl ?_
      refine q_jn (G := fun (t597 : Int) => qW X (d + 4) yX11_inWay cX11_inWay 7 (some .int) 80 [(0, qr 0), (1, qi x1), (2, qi x2), (3, qi x3), (5, qi t597), (6, qi x6)] [] q594.2 Q) h (fun t597 h => ?_) (fun t597 h hk3772 => ?_)
      · try dsimp only at h
        refine q_iinc (lv' := [(6, qi (x6 + 1)), (0, qr 0), (1, qi x1), (2, qi x2), (3, qi x3), (5, qi t597)]) dX11_inWay_80 (by decide) rfl rfl rfl ?_
        refine q_goto (pc' := 44) dX11_inWay_83 (by decide) ?_
        exact q_pick [1, 2, 3, 4, 5, 0] rfl (ih x1 x2 x3 t597 (x6 + 1) _ _ h hE)
      · skip
        obtain ⟨c596, h⟩ := qk_some h
        refine q_if_eq (tgt := 80) dX11_inWay_68 (by decide) rfl (qRb_R c596)  (fun g => ?_) (fun g => ?_)
        · rw [if_pos (show q594.1 = 0 from g)] at h
          cases h
          exact q_pick [0, 1, 2, 3, 4, 5] rfl hk3772
        · rw [if_neg (show ¬ (q594.1 = 0) from g)] at h
          refine q_iload dX11_inWay_71 rfl rfl ?_
          refine q_iconst dX11_inWay_73 rfl rfl ?_
          refine q_iload dX11_inWay_74 rfl rfl ?_
          refine q_ishl dX11_inWay_76 rfl ?_
          refine q_ior dX11_inWay_77 rfl ?_
          refine q_istore (lv' := [(5, qi (qb_ior x5 (qb_ishl 1 x6))), (0, qr 0), (1, qi x1), (2, qi x2), (3, qi x3), (6, qi x6)]) dX11_inWay_78 (by decide) rfl rfl ?_
          cases h
          exact q_pick [1, 2, 3, 4, 0, 5] rfl hk3772
set_option maxRecDepth 20000 in
theorem C_inWay_ok {X : qX} (hL : ∀ c, c < 93 → c ∈ qLs X) (d : Nat) (a1 : Int) (a2 : Int) (a3 : Int) (a4 : Int) (S : qSto) (o : (Int × qSto)) (h : C_inWay a1 a2 a3 a4 S = some o) (Q : Option qV → qSto → Prop) (hQ : Q (some (qi o.1)) o.2) : qC X (d + 4) yX11_inWay cX11_inWay 7 (some .int) [qr 0, qi a1, qi a2, qi a3, qi a4] S Q := by
  refine q_entry (lv := [(0, qr 0), (1, qi a1), (2, qi a2), (3, qi a3), (4, qi a4)]) pn_X11 (Nat.le_of_ble_eq_true rfl) rfl ?_
  unfold C_inWay at h
  refine q_aload_n dX11_inWay_0 rfl rfl ?_
  refine q_iload_n dX11_inWay_1 rfl rfl ?_
  obtain ⟨q583, h584, h⟩ := Option.bind_eq_some_iff.mp h
  refine q_callVi (as := [qi a1]) (c := 0) dX11_inWay_2 ml_X11_216 rfl rfl (hL 0 (by decide)) sh_0 rfl rfl (Nat.le_of_ble_eq_true rfl) (C_isShip_ok hL (d + 3) a1 _ _ h584) rfl ?_
  obtain ⟨c585, h⟩ := qk_some h
  refine q_if_ne (tgt := 10) dX11_inWay_5 (by decide) rfl (qRb_R c585)  (fun g => ?_) (fun g => ?_)
  · rw [if_neg (show ¬ (q583.1 = 0) from g)] at h
    refine q_aload_n dX11_inWay_10 rfl rfl ?_
    refine q_getA dX11_inWay_11 fl_X11_67 (hL 0 (by decide)) sh_0 (by decide) rfl rfl ?_
    refine q_iload_n dX11_inWay_14 rfl rfl ?_
    refine q_iload_n dX11_inWay_15 rfl rfl ?_
    obtain ⟨q586, h587, h⟩ := Option.bind_eq_some_iff.mp h
    refine q_callVi (as := [qi a1, qi a2]) (c := 8) dX11_inWay_16 ml_X11_270 rfl rfl (hL 8 (by decide)) sh_8 rfl rfl (Nat.le_of_ble_eq_true rfl) (Laws_fits_ok hL (d + 2) a1 a2 _ _ h587) rfl ?_
    obtain ⟨c588, h⟩ := qk_some h
    refine q_if_eq (tgt := 36) dX11_inWay_19 (by decide) rfl (qRb_R c588)  (fun g => ?_) (fun g => ?_)
    · rw [if_pos (show q586.1 = 0 from g)] at h
      refine q_iconst dX11_inWay_36 rfl rfl ?_
      cases h
      exact q_ireturn dX11_inWay_37 rfl hQ
    · rw [if_neg (show ¬ (q586.1 = 0) from g)] at h
      refine q_aload_n dX11_inWay_22 rfl rfl ?_
      refine q_getA dX11_inWay_23 fl_X11_67 (hL 0 (by decide)) sh_0 (by decide) rfl rfl ?_
      refine q_iload_n dX11_inWay_26 rfl rfl ?_
      refine q_iload_n dX11_inWay_27 rfl rfl ?_
      refine q_iload dX11_inWay_28 rfl rfl ?_
      obtain ⟨q589, h590, h⟩ := Option.bind_eq_some_iff.mp h
      refine q_callVi (as := [qi a1, qi a3, qi a4]) (c := 8) dX11_inWay_30 ml_X11_273 rfl rfl (hL 8 (by decide)) sh_8 rfl rfl (Nat.le_of_ble_eq_true rfl) (Laws_ofTime_ok hL d a1 a3 a4 _ _ h590) rfl ?_
      obtain ⟨c591, h⟩ := qk_some h
      refine q_if_eq (tgt := 38) dX11_inWay_33 (by decide) rfl (qRb_R c591)  (fun g => ?_) (fun g => ?_)
      · rw [if_pos (show q589.1 = 0 from g)] at h
        refine q_iconst dX11_inWay_38 rfl rfl ?_
        refine q_istore (lv' := [(5, qi 0), (0, qr 0), (1, qi a1), (2, qi a2), (3, qi a3), (4, qi a4)]) dX11_inWay_39 (by decide) rfl rfl ?_
        refine q_iconst dX11_inWay_41 rfl rfl ?_
        refine q_istore (lv' := [(6, qi 0), (5, qi 0), (0, qr 0), (1, qi a1), (2, qi a2), (3, qi a3), (4, qi a4)]) dX11_inWay_42 (by decide) rfl rfl ?_
        obtain ⟨q598, h599, h⟩ := Option.bind_eq_some_iff.mp h
        refine q_pick [2, 3, 4, 5, 1, 0] rfl (C_inWay_L44_ok hL d qF a1 a2 a3 0 0 _ _ h599 ?_)
        refine q_iload dX11_inWay_86 rfl rfl ?_
        cases h
        exact q_ireturn dX11_inWay_88 rfl hQ
      · rw [if_neg (show ¬ (q589.1 = 0) from g)] at h
        refine q_iconst dX11_inWay_36 rfl rfl ?_
        cases h
        exact q_ireturn dX11_inWay_37 rfl hQ
  · rw [if_pos (show q583.1 = 0 from g)] at h
    refine q_iconst dX11_inWay_8 rfl rfl ?_
    cases h
    exact q_ireturn dX11_inWay_9 rfl hQ
set_option maxRecDepth 20000 in
theorem Dealer_reaching_L5_ok {X : qX} (hL : ∀ c, c < 93 → c ∈ qLs X) (d : Nat) {Q : Option qV → qSto → Prop} : ∀ (n : Nat) (x1 : Int) (x2 : Int) (x3 : Int) (x4 : Int) (S : qSto) (o : (Int × qSto)), Dealer_reaching_L5 n x1 x2 x3 x4 S = some o → (qW X (d + 1) yX0_reaching cX0_reaching 5 (some .int) 42 [(3, qi o.1)] [] o.2 Q) → qW X (d + 1) yX0_reaching cX0_reaching 5 (some .int) 5 [(0, qr 7), (1, qi x1), (2, qi x2), (3, qi x3), (4, qi x4)] [] S Q := by
  intro n
  induction n with
  | zero =>
    intro x1 x2 x3 x4 S o h
    simp [Dealer_reaching_L5] at h
  | succ n ih =>
    intro x1 x2 x3 x4 S o h hE
    rw [Dealer_reaching_L5] at h
    refine q_iload dX0_reaching_5 rfl rfl ?_
    refine q_aload_n dX0_reaching_7 rfl rfl ?_
    refine q_getA dX0_reaching_8 fl_X0_15 (hL 7 (by decide)) sh_7 (by decide) rfl rfl ?_
    refine q_getI dX0_reaching_11 fl_X0_47 (hL 2 (by decide)) sh_2 (by decide) rfl rfl ?_
    obtain ⟨c618, h⟩ := qk_some h
    obtain ⟨c619, h⟩ := qk_some h
    refine q_icmp_ge (tgt := 42) dX0_reaching_14 (by decide) rfl (qRb_R c618) (qRb_R c619) (fun g => ?_) (fun g => ?_)
    · rw [if_pos (show (S 2 5) ≤ x4 from g)] at h
      cases h
      exact q_pick [3] rfl (hE)
    · rw [if_neg (show ¬ ((S 2 5) ≤ x4) from g)] at h
      refine q_iload_n dX0_reaching_17 rfl rfl ?_
      refine q_aload_n dX0_reaching_18 rfl rfl ?_
      refine q_iload dX0_reaching_19 rfl rfl ?_
      refine q_iload_n dX0_reaching_21 rfl rfl ?_
      refine q_iload_n dX0_reaching_22 rfl rfl ?_
      obtain ⟨q620, h621, h⟩ := Option.bind_eq_some_iff.mp h
      refine q_callVi (as := [qi x4, qi x1, qi x2]) (c := 7) dX0_reaching_23 ml_X0_57 rfl rfl (hL 7 (by decide)) sh_7 rfl rfl (Nat.le_of_ble_eq_true rfl) (Dealer_reaches_ok hL d x4 x1 x2 _ _ h621) rfl ?_
      refine q_jn (G := fun (t623 : Int) => qW X (d + 1) yX0_reaching cX0_reaching 5 (some .int) 34 [(0, qr 7), (1, qi x1), (2, qi x2), (4, qi x4)] [qi t623, qi x3] q620.2 Q) h (fun t623 h => ?_) (fun t623 h hk3773 => ?_)
      · try dsimp only at h
        refine q_iadd dX0_reaching_34 rfl ?_
        refine q_istore_n (lv' := [(3, qi (x3 + t623)), (0, qr 7), (1, qi x1), (2, qi x2), (4, qi x4)]) dX0_reaching_35 (by decide) rfl rfl ?_
        refine q_iinc (lv' := [(4, qi (x4 + 1)), (3, qi (x3 + t623)), (0, qr 7), (1, qi x1), (2, qi x2)]) dX0_reaching_36 (by decide) rfl rfl rfl ?_
        refine q_goto (pc' := 5) dX0_reaching_39 (by decide) ?_
        exact q_pick [2, 3, 4, 1, 0] rfl (ih x1 x2 (x3 + t623) (x4 + 1) _ _ h hE)
      · skip
        obtain ⟨c622, h⟩ := qk_some h
        refine q_if_eq (tgt := 33) dX0_reaching_26 (by decide) rfl (qRb_R c622)  (fun g => ?_) (fun g => ?_)
        · rw [if_pos (show q620.1 = 0 from g)] at h
          refine q_iconst dX0_reaching_33 rfl rfl ?_
          cases h
          exact q_pick [0, 1, 2, 4] rfl hk3773
        · rw [if_neg (show ¬ (q620.1 = 0) from g)] at h
          refine q_iconst dX0_reaching_29 rfl rfl ?_
          refine q_goto (pc' := 34) dX0_reaching_30 (by decide) ?_
          cases h
          exact q_pick [0, 1, 2, 4] rfl hk3773
set_option maxRecDepth 20000 in
theorem Dealer_reaching_ok {X : qX} (hL : ∀ c, c < 93 → c ∈ qLs X) (d : Nat) (a1 : Int) (a2 : Int) (S : qSto) (o : (Int × qSto)) (h : Dealer_reaching a1 a2 S = some o) (Q : Option qV → qSto → Prop) (hQ : Q (some (qi o.1)) o.2) : qC X (d + 1) yX0_reaching cX0_reaching 5 (some .int) [qr 7, qi a1, qi a2] S Q := by
  refine q_entry (lv := [(0, qr 7), (1, qi a1), (2, qi a2)]) pn_X0 (Nat.le_of_ble_eq_true rfl) rfl ?_
  unfold Dealer_reaching at h
  refine q_iconst dX0_reaching_0 rfl rfl ?_
  refine q_istore_n (lv' := [(3, qi 0), (0, qr 7), (1, qi a1), (2, qi a2)]) dX0_reaching_1 (by decide) rfl rfl ?_
  refine q_iconst dX0_reaching_2 rfl rfl ?_
  refine q_istore (lv' := [(4, qi 0), (3, qi 0), (0, qr 7), (1, qi a1), (2, qi a2)]) dX0_reaching_3 (by decide) rfl rfl ?_
  obtain ⟨q624, h625, h⟩ := Option.bind_eq_some_iff.mp h
  refine q_pick [2, 3, 4, 1, 0] rfl (Dealer_reaching_L5_ok hL d qF a1 a2 0 0 _ _ h625 ?_)
  refine q_iload_n dX0_reaching_42 rfl rfl ?_
  cases h
  exact q_ireturn dX0_reaching_43 rfl hQ
set_option maxRecDepth 20000 in
theorem Search_survey_L16_ok {X : qX} (hL : ∀ c, c < 93 → c ∈ qLs X) (d : Nat) {Q : Option qV → qSto → Prop} : ∀ (n : Nat) (x1 : Int) (x2 : Int) (x3 : Int) (x4 : Int) (x5 : Int) (S : qSto) (o : (Int × qSto)), Search_survey_L16 n x1 x2 x3 x4 x5 S = some o → (qW X (d + 2) yX6_survey cX6_survey 8 (some .boolean) 123 [(4, qi o.1)] [] o.2 Q) → qW X (d + 2) yX6_survey cX6_survey 8 (some .boolean) 16 [(0, qr 9), (1, qi x1), (2, qi x2), (3, qi x3), (4, qi x4), (5, qi x5)] [] S Q := by
  intro n
  induction n with
  | zero =>
    intro x1 x2 x3 x4 x5 S o h
    simp [Search_survey_L16] at h
  | succ n ih =>
    intro x1 x2 x3 x4 x5 S o h hE
    rw [Search_survey_L16] at h
    refine q_iload dX6_survey_16 rfl rfl ?_
    refine q_bipush dX6_survey_18 (by decide) rfl ?_
    obtain ⟨c614, h⟩ := qk_some h
    refine q_icmp_ge (tgt := 123) dX6_survey_20 (by decide) rfl (qRb_R c614) ⟨by decide, by decide⟩ (fun g => ?_) (fun g => ?_)
    · rw [if_pos (show 100 ≤ x5 from g)] at h
      cases h
      exact q_pick [4] rfl (hE)
    · rw [if_neg (show ¬ (100 ≤ x5) from g)] at h
      refine q_iload dX6_survey_23 rfl rfl ?_
      refine q_bipush dX6_survey_25 (by decide) rfl ?_
      refine q_imul dX6_survey_27 rfl ?_
      refine q_istore (lv' := [(6, qi (x5 * 10)), (0, qr 9), (1, qi x1), (2, qi x2), (3, qi x3), (4, qi x4), (5, qi x5)]) dX6_survey_28 (by decide) rfl rfl ?_
      refine q_aload_n dX6_survey_30 rfl rfl ?_
      refine q_getA dX6_survey_31 fl_X6_23 (hL 9 (by decide)) sh_9 (by decide) rfl rfl ?_
      refine q_iload_n dX6_survey_34 rfl rfl ?_
      refine q_iload dX6_survey_35 rfl rfl ?_
      obtain ⟨q615, h616, h⟩ := Option.bind_eq_some_iff.mp h
      refine q_callVi (as := [qi x1, qi (x5 * 10)]) (c := 8) dX6_survey_37 ml_X6_67 rfl rfl (hL 8 (by decide)) sh_8 rfl rfl (Nat.le_of_ble_eq_true rfl) (Laws_fits_ok hL d x1 (x5 * 10) _ _ h616) rfl ?_
      refine q_jn (G := fun (t630 : (Int × qSto)) => qW X (d + 2) yX6_survey cX6_survey 8 (some .boolean) 67 [(0, qr 9), (1, qi x1), (2, qi x2), (3, qi x3), (4, qi x4), (5, qi x5), (6, qi (x5 * 10))] [qi t630.1] t630.2 Q) h (fun t630 h => ?_) (fun t630 h hk3774 => ?_)
      · try dsimp only at h
        refine q_istore (lv' := [(7, qi t630.1), (0, qr 9), (1, qi x1), (2, qi x2), (3, qi x3), (4, qi x4), (5, qi x5), (6, qi (x5 * 10))]) dX6_survey_67 (by decide) rfl rfl ?_
        refine q_aload_n dX6_survey_69 rfl rfl ?_
        refine q_getA dX6_survey_70 fl_X6_9 (hL 9 (by decide)) sh_9 (by decide) rfl rfl ?_
        refine q_iload dX6_survey_73 rfl rfl ?_
        refine q_iload dX6_survey_75 rfl rfl ?_
        refine q_jn (G := fun (t634 : (Int × qSto)) => qW X (d + 2) yX6_survey cX6_survey 8 (some .boolean) 99 [(0, qr 9), (1, qi x1), (2, qi x2), (3, qi x3), (4, qi x4), (5, qi x5), (7, qi t630.1)] [qi t634.1, qi x5, qr 46] t634.2 Q) h (fun t634 h => ?_) (fun t634 h hk3775 => ?_)
        · try dsimp only at h
          obtain ⟨c635, h⟩ := qk_some h
          refine q_iastore dX6_survey_99 (hL 46 (by decide)) sh_46 (qIx_0 c635) (qIx_1 c635) rfl ?_
          refine q_iload dX6_survey_100 rfl rfl ?_
          refine q_jn (G := fun (t638 : Int) => qW X (d + 2) yX6_survey cX6_survey 8 (some .boolean) 115 [(0, qr 9), (1, qi x1), (2, qi x2), (3, qi x3), (5, qi x5)] [qi t638] (qup t634.2 46 (Int.toNat x5) t634.1) Q) h (fun t638 h => ?_) (fun t638 h hk3776 => ?_)
          · try dsimp only at h
            refine q_istore (lv' := [(4, qi t638), (0, qr 9), (1, qi x1), (2, qi x2), (3, qi x3), (5, qi x5)]) dX6_survey_115 (by decide) rfl rfl ?_
            refine q_iinc (lv' := [(5, qi (x5 + 1)), (4, qi t638), (0, qr 9), (1, qi x1), (2, qi x2), (3, qi x3)]) dX6_survey_117 (by decide) rfl rfl rfl ?_
            refine q_goto (pc' := 16) dX6_survey_120 (by decide) ?_
            exact q_pick [2, 3, 4, 5, 1, 0] rfl (ih x1 x2 x3 t638 (x5 + 1) _ _ h hE)
          · skip
            obtain ⟨c636, h⟩ := qk_some h
            refine q_if_ne (tgt := 110) dX6_survey_102 (by decide) rfl (qRb_R c636)  (fun g => ?_) (fun g => ?_)
            · rw [if_neg (show ¬ (x4 = 0) from g)] at h
              refine q_iconst dX6_survey_110 rfl rfl ?_
              refine q_goto (pc' := 115) dX6_survey_111 (by decide) ?_
              cases h
              exact q_pick [0, 1, 2, 3, 5] rfl hk3776
            · rw [if_pos (show x4 = 0 from g)] at h
              refine q_iload dX6_survey_105 rfl rfl ?_
              obtain ⟨c637, h⟩ := qk_some h
              refine q_if_eq (tgt := 114) dX6_survey_107 (by decide) rfl (qRb_R c637)  (fun g => ?_) (fun g => ?_)
              · rw [if_pos (show t630.1 = 0 from g)] at h
                refine q_iconst dX6_survey_114 rfl rfl ?_
                cases h
                exact q_pick [0, 1, 2, 3, 5] rfl hk3776
              · rw [if_neg (show ¬ (t630.1 = 0) from g)] at h
                refine q_iconst dX6_survey_110 rfl rfl ?_
                refine q_goto (pc' := 115) dX6_survey_111 (by decide) ?_
                cases h
                exact q_pick [0, 1, 2, 3, 5] rfl hk3776
        · skip
          obtain ⟨c631, h⟩ := qk_some h
          refine q_if_eq (tgt := 98) dX6_survey_77 (by decide) rfl (qRb_R c631)  (fun g => ?_) (fun g => ?_)
          · rw [if_pos (show t630.1 = 0 from g)] at h
            refine q_iconst dX6_survey_98 rfl rfl ?_
            cases h
            exact q_pick [1, 2, 3, 4, 5, 6, 0] rfl hk3775
          · rw [if_neg (show ¬ (t630.1 = 0) from g)] at h
            refine q_aload_n dX6_survey_80 rfl rfl ?_
            refine q_getA dX6_survey_81 fl_X6_15 (hL 9 (by decide)) sh_9 (by decide) rfl rfl ?_
            refine q_iload dX6_survey_84 rfl rfl ?_
            refine q_iload dX6_survey_86 rfl rfl ?_
            refine q_iload_n dX6_survey_88 rfl rfl ?_
            refine q_iadd dX6_survey_89 rfl ?_
            refine q_iconst dX6_survey_90 rfl rfl ?_
            refine q_isub dX6_survey_91 rfl ?_
            obtain ⟨q632, h633, h⟩ := Option.bind_eq_some_iff.mp h
            refine q_callVi (as := [qi (x5 * 10), qi (((x5 * 10) + x3) - 1)]) (c := 2) dX6_survey_92 ml_X6_75 rfl rfl (hL 2 (by decide)) sh_2 rfl rfl (Nat.le_of_ble_eq_true rfl) (Told_shallowest_ok hL d (x5 * 10) (((x5 * 10) + x3) - 1) _ _ h633) rfl ?_
            refine q_goto (pc' := 99) dX6_survey_95 (by decide) ?_
            cases h
            exact q_pick [1, 2, 3, 4, 5, 6, 0] rfl hk3775
      · skip
        obtain ⟨c617, h⟩ := qk_some h
        refine q_if_eq (tgt := 66) dX6_survey_40 (by decide) rfl (qRb_R c617)  (fun g => ?_) (fun g => ?_)
        · rw [if_pos (show q615.1 = 0 from g)] at h
          refine q_iconst dX6_survey_66 rfl rfl ?_
          cases h
          exact q_pick [1, 2, 3, 4, 5, 6, 0] rfl hk3774
        · rw [if_neg (show ¬ (q615.1 = 0) from g)] at h
          refine q_aload_n dX6_survey_43 rfl rfl ?_
          refine q_getA dX6_survey_44 fl_X6_27 (hL 9 (by decide)) sh_9 (by decide) rfl rfl ?_
          refine q_iload dX6_survey_47 rfl rfl ?_
          refine q_iload dX6_survey_49 rfl rfl ?_
          refine q_iload_n dX6_survey_51 rfl rfl ?_
          refine q_iadd dX6_survey_52 rfl ?_
          refine q_iconst dX6_survey_53 rfl rfl ?_
          refine q_isub dX6_survey_54 rfl ?_
          obtain ⟨q626, h627, h⟩ := Option.bind_eq_some_iff.mp h
          refine q_callVi (as := [qi (x5 * 10), qi (((x5 * 10) + x3) - 1)]) (c := 7) dX6_survey_55 ml_X6_70 rfl rfl (hL 7 (by decide)) sh_7 rfl rfl (Nat.le_of_ble_eq_true rfl) (Dealer_reaching_ok hL d (x5 * 10) (((x5 * 10) + x3) - 1) _ _ h627) rfl ?_
          refine q_iload_n dX6_survey_58 rfl rfl ?_
          obtain ⟨c628, h⟩ := qk_some h
          obtain ⟨c629, h⟩ := qk_some h
          refine q_icmp_lt (tgt := 66) dX6_survey_59 (by decide) rfl (qRb_R c628) (qRb_R c629) (fun g => ?_) (fun g => ?_)
          · rw [if_pos (show q626.1 < x2 from g)] at h
            refine q_iconst dX6_survey_66 rfl rfl ?_
            cases h
            exact q_pick [1, 2, 3, 4, 5, 6, 0] rfl hk3774
          · rw [if_neg (show ¬ (q626.1 < x2) from g)] at h
            refine q_iconst dX6_survey_62 rfl rfl ?_
            refine q_goto (pc' := 67) dX6_survey_63 (by decide) ?_
            cases h
            exact q_pick [1, 2, 3, 4, 5, 6, 0] rfl hk3774
set_option maxRecDepth 20000 in
theorem Search_survey_ok {X : qX} (hL : ∀ c, c < 93 → c ∈ qLs X) (d : Nat) (a1 : Int) (a2 : Int) (S : qSto) (o : (Int × qSto)) (h : Search_survey a1 a2 S = some o) (Q : Option qV → qSto → Prop) (hQ : Q (some (qi o.1)) o.2) : qC X (d + 2) yX6_survey cX6_survey 8 (some .boolean) [qr 9, qi a1, qi a2] S Q := by
  refine q_entry (lv := [(0, qr 9), (1, qi a1), (2, qi a2)]) pn_X6 (Nat.le_of_ble_eq_true rfl) rfl ?_
  unfold Search_survey at h
  refine q_aload_n dX6_survey_0 rfl rfl ?_
  refine q_getA dX6_survey_1 fl_X6_15 (hL 9 (by decide)) sh_9 (by decide) rfl rfl ?_
  refine q_iload_n dX6_survey_4 rfl rfl ?_
  refine q_iconst dX6_survey_5 rfl rfl ?_
  obtain ⟨q612, h613, h⟩ := Option.bind_eq_some_iff.mp h
  refine q_callVi (as := [qi a1, qi 0]) (c := 2) dX6_survey_6 ml_X6_35 rfl rfl (hL 2 (by decide)) sh_2 rfl rfl (Nat.le_of_ble_eq_true rfl) (Told_contractOf_ok hL (d + 1) a1 0 _ _ h613) rfl ?_
  refine q_istore_n (lv' := [(3, qi q612.1), (0, qr 9), (1, qi a1), (2, qi a2)]) dX6_survey_9 (by decide) rfl rfl ?_
  refine q_iconst dX6_survey_10 rfl rfl ?_
  refine q_istore (lv' := [(4, qi 0), (3, qi q612.1), (0, qr 9), (1, qi a1), (2, qi a2)]) dX6_survey_11 (by decide) rfl rfl ?_
  refine q_iconst dX6_survey_13 rfl rfl ?_
  refine q_istore (lv' := [(5, qi 0), (4, qi 0), (3, qi q612.1), (0, qr 9), (1, qi a1), (2, qi a2)]) dX6_survey_14 (by decide) rfl rfl ?_
  obtain ⟨q639, h640, h⟩ := Option.bind_eq_some_iff.mp h
  refine q_pick [3, 4, 5, 2, 1, 0] rfl (Search_survey_L16_ok hL d qF a1 a2 q612.1 0 0 _ _ h640 ?_)
  refine q_iload dX6_survey_123 rfl rfl ?_
  obtain ⟨c641, h⟩ := qk_some h
  cases h
  exact q_zreturn dX6_survey_125 rfl (qZb_Z c641) hQ
