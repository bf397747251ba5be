set_option maxRecDepth 20000 in
theorem FirstFour_tryFrom_n0_L68_ok {X : qX} (hL : ∀ c, c < 93 → c ∈ qLs X) (d : Nat) {Q : Option qV → qSto → Prop} : ∀ (n : Nat) (x2 : Int) (x3 : Int) (x4 : Int) (x5 : Int) (S : qSto) (o : qSto), FirstFour_tryFrom_n0_L68 n x2 x3 x4 x5 S = some o → (qW X (d + 8) yX1_tryFrom cX1_tryFrom 7 none 242 [] [] o Q) → qW X (d + 8) yX1_tryFrom cX1_tryFrom 7 none 68 [(0, qr 11), (1, qi 0), (2, qi x2), (3, qi x3), (4, qi x4), (5, qi x5)] [] S Q := by
  intro n
  induction n with
  | zero =>
    intro x2 x3 x4 x5 S o h
    simp [FirstFour_tryFrom_n0_L68] at h
  | succ n ih =>
    intro x2 x3 x4 x5 S o h hE
    rw [FirstFour_tryFrom_n0_L68] at h
    refine q_iload dX1_tryFrom_68 rfl rfl ?_
    refine q_aload_n dX1_tryFrom_70 rfl rfl ?_
    refine q_getI dX1_tryFrom_71 fl_X1_41 (hL 11 (by decide)) sh_11 (by decide) rfl rfl ?_
    obtain ⟨c1442, h⟩ := qk_some h
    obtain ⟨c1443, h⟩ := qk_some h
    refine q_icmp_ge (tgt := 242) dX1_tryFrom_74 (by decide) rfl (qRb_R c1442) (qRb_R c1443) (fun g => ?_) (fun g => ?_)
    · rw [if_pos (show (S 11 4) ≤ x5 from g)] at h
      cases h
      exact q_pick [] rfl (hE)
    · rw [if_neg (show ¬ ((S 11 4) ≤ x5) from g)] at h
      refine q_iload_n dX1_tryFrom_77 rfl rfl ?_
      refine q_iload dX1_tryFrom_78 rfl rfl ?_
      refine q_ishr dX1_tryFrom_80 rfl ?_
      refine q_iconst dX1_tryFrom_81 rfl rfl ?_
      refine q_iand dX1_tryFrom_82 rfl ?_
      refine q_jn (G := fun (t1589 : qSto) => qW X (d + 8) yX1_tryFrom cX1_tryFrom 7 none 236 [(0, qr 11), (1, qi 0), (2, qi x2), (3, qi x3), (4, qi x4), (5, qi x5)] [] t1589 Q) h (fun t1589 h => ?_) (fun t1589 h hk4141 => ?_)
      · try dsimp only at h
        refine q_iinc (lv' := [(5, qi (x5 + 1)), (0, qr 11), (1, qi 0), (2, qi x2), (3, qi x3), (4, qi x4)]) dX1_tryFrom_236 (by decide) rfl rfl rfl ?_
        refine q_goto (pc' := 68) dX1_tryFrom_239 (by decide) ?_
        exact q_pick [1, 2, 3, 4, 5, 0] rfl (ih x2 x3 x4 (x5 + 1) _ _ h hE)
      · skip
        obtain ⟨c1444, h⟩ := qk_some h
        refine q_if_eq (tgt := 89) dX1_tryFrom_83 (by decide) rfl (qRb_R c1444)  (fun g => ?_) (fun g => ?_)
        · rw [if_pos (show (qb_iand (qb_ishr x2 x5) 1) = 0 from g)] at h
          refine q_aload_n dX1_tryFrom_89 rfl rfl ?_
          refine q_getA dX1_tryFrom_90 fl_X1_15 (hL 11 (by decide)) sh_11 (by decide) rfl rfl ?_
          refine q_iload dX1_tryFrom_93 rfl rfl ?_
          obtain ⟨c1445, h⟩ := qk_some h
          refine q_iaload dX1_tryFrom_95 (hL 48 (by decide)) sh_48 (qIx_0 c1445) (qIx_1 c1445) rfl ?_
          refine q_istore (lv' := [(6, qi (S 48 (Int.toNat x5))), (0, qr 11), (1, qi 0), (2, qi x2), (3, qi x3), (4, qi x4), (5, qi x5)]) dX1_tryFrom_96 (by decide) rfl rfl ?_
          refine q_aload_n dX1_tryFrom_98 rfl rfl ?_
          refine q_getA dX1_tryFrom_99 fl_X1_18 (hL 11 (by decide)) sh_11 (by decide) rfl rfl ?_
          refine q_iload_n dX1_tryFrom_102 rfl rfl ?_
          refine q_iload dX1_tryFrom_103 rfl rfl ?_
          refine q_iastore dX1_tryFrom_105 (hL 49 (by decide)) sh_49 (by decide) (by decide) rfl ?_
          refine q_aload_n dX1_tryFrom_106 rfl rfl ?_
          refine q_getA dX1_tryFrom_107 fl_X1_21 (hL 11 (by decide)) sh_11 (by decide) rfl rfl ?_
          refine q_iload dX1_tryFrom_110 rfl rfl ?_
          obtain ⟨c1446, h⟩ := qk_some h
          refine q_zaload dX1_tryFrom_112 (hL 50 (by decide)) sh_50 (qIx_0 c1446) (qIx_1 c1446) rfl ?_
          obtain ⟨c1447, h⟩ := qk_some h
          refine q_if_eq (tgt := 218) dX1_tryFrom_113 (by decide) rfl (qRb_R c1447)  (fun g => ?_) (fun g => ?_)
          · rw [if_pos (show ((qup S 49 0 (S 48 (Int.toNat x5))) 50 (Int.toNat x5)) = 0 from g)] at h
            refine q_aload_n dX1_tryFrom_218 rfl rfl ?_
            refine q_iload_n dX1_tryFrom_219 rfl rfl ?_
            refine q_iconst dX1_tryFrom_220 rfl rfl ?_
            refine q_iadd dX1_tryFrom_221 rfl ?_
            refine q_iload_n dX1_tryFrom_222 rfl rfl ?_
            refine q_iconst dX1_tryFrom_223 rfl rfl ?_
            refine q_iload dX1_tryFrom_224 rfl rfl ?_
            refine q_ishl dX1_tryFrom_226 rfl ?_
            refine q_ior dX1_tryFrom_227 rfl ?_
            refine q_iload_n dX1_tryFrom_228 rfl rfl ?_
            refine q_iconst dX1_tryFrom_229 rfl rfl ?_
            refine q_iadd dX1_tryFrom_230 rfl ?_
            refine q_iload dX1_tryFrom_231 rfl rfl ?_
            obtain ⟨q1570, h1571, h⟩ := Option.bind_eq_some_iff.mp h
            refine q_callVv (as := [qi (0 + 1), qi (qb_ior x2 (qb_ishl 1 x5)), qi (x3 + 1), qi x4]) (c := 11) dX1_tryFrom_233 ml_X1_70 rfl rfl (hL 11 (by decide)) sh_11 rfl rfl (Nat.le_of_ble_eq_true rfl) (FirstFour_tryFrom_n1_ok hL d (qb_ior x2 (qb_ishl 1 x5)) (x3 + 1) x4 _ _ h1571) rfl ?_
            cases h
            exact q_pick [1, 2, 3, 4, 5, 6] rfl hk4141
          · rw [if_neg (show ¬ (((qup S 49 0 (S 48 (Int.toNat x5))) 50 (Int.toNat x5)) = 0) from g)] at h
            refine q_aload_n dX1_tryFrom_116 rfl rfl ?_
            refine q_getA dX1_tryFrom_117 fl_X1_33 (hL 11 (by decide)) sh_11 (by decide) rfl rfl ?_
            refine q_iload dX1_tryFrom_120 rfl rfl ?_
            refine q_aload_n dX1_tryFrom_122 rfl rfl ?_
            refine q_getA dX1_tryFrom_123 fl_X1_25 (hL 11 (by decide)) sh_11 (by decide) rfl rfl ?_
            refine q_iload dX1_tryFrom_126 rfl rfl ?_
            refine q_bipush dX1_tryFrom_128 (by decide) rfl ?_
            obtain ⟨q1572, h1573, h⟩ := Option.bind_eq_some_iff.mp h
            refine q_callVi (as := [qi (S 48 (Int.toNat x5)), qi 8]) (c := 2) dX1_tryFrom_130 ml_X1_54 rfl rfl (hL 2 (by decide)) sh_2 rfl rfl (Nat.le_of_ble_eq_true rfl) (Told_contractOf_ok hL (d + 7) (S 48 (Int.toNat x5)) 8 _ _ h1573) rfl ?_
            refine q_aload_n dX1_tryFrom_133 rfl rfl ?_
            refine q_getA dX1_tryFrom_134 fl_X1_25 (hL 11 (by decide)) sh_11 (by decide) rfl rfl ?_
            refine q_iload dX1_tryFrom_137 rfl rfl ?_
            refine q_bipush dX1_tryFrom_139 (by decide) rfl ?_
            obtain ⟨q1574, h1575, h⟩ := Option.bind_eq_some_iff.mp h
            refine q_callVi (as := [qi (S 48 (Int.toNat x5)), qi 7]) (c := 2) dX1_tryFrom_141 ml_X1_54 rfl rfl (hL 2 (by decide)) sh_2 rfl rfl (Nat.le_of_ble_eq_true rfl) (Told_contractOf_ok hL (d + 7) (S 48 (Int.toNat x5)) 7 _ _ h1575) rfl ?_
            obtain ⟨q1576, h1577, h⟩ := Option.bind_eq_some_iff.mp h
            refine q_callVi (as := [qi (S 48 (Int.toNat x5)), qi q1572.1, qi q1574.1]) (c := 9) dX1_tryFrom_144 ml_X1_58 rfl rfl (hL 9 (by decide)) sh_9 rfl rfl (Nat.le_of_ble_eq_true rfl) (Search_find_ok hL (d + 3) (S 48 (Int.toNat x5)) q1572.1 q1574.1 _ _ h1577) rfl ?_
            obtain ⟨c1578, h⟩ := qk_some h
            refine q_if_eq (tgt := 218) dX1_tryFrom_147 (by decide) rfl (qRb_R c1578)  (fun g => ?_) (fun g => ?_)
            · rw [if_pos (show q1576.1 = 0 from g)] at h
              refine q_aload_n dX1_tryFrom_218 rfl rfl ?_
              refine q_iload_n dX1_tryFrom_219 rfl rfl ?_
              refine q_iconst dX1_tryFrom_220 rfl rfl ?_
              refine q_iadd dX1_tryFrom_221 rfl ?_
              refine q_iload_n dX1_tryFrom_222 rfl rfl ?_
              refine q_iconst dX1_tryFrom_223 rfl rfl ?_
              refine q_iload dX1_tryFrom_224 rfl rfl ?_
              refine q_ishl dX1_tryFrom_226 rfl ?_
              refine q_ior dX1_tryFrom_227 rfl ?_
              refine q_iload_n dX1_tryFrom_228 rfl rfl ?_
              refine q_iconst dX1_tryFrom_229 rfl rfl ?_
              refine q_iadd dX1_tryFrom_230 rfl ?_
              refine q_iload dX1_tryFrom_231 rfl rfl ?_
              obtain ⟨q1579, h1580, h⟩ := Option.bind_eq_some_iff.mp h
              refine q_callVv (as := [qi (0 + 1), qi (qb_ior x2 (qb_ishl 1 x5)), qi (x3 + 1), qi x4]) (c := 11) dX1_tryFrom_233 ml_X1_70 rfl rfl (hL 11 (by decide)) sh_11 rfl rfl (Nat.le_of_ble_eq_true rfl) (FirstFour_tryFrom_n1_ok hL d (qb_ior x2 (qb_ishl 1 x5)) (x3 + 1) x4 _ _ h1580) rfl ?_
              cases h
              exact q_pick [1, 2, 3, 4, 5, 6] rfl hk4141
            · rw [if_neg (show ¬ (q1576.1 = 0) from g)] at h
              refine q_aload_n dX1_tryFrom_150 rfl rfl ?_
              refine q_getA dX1_tryFrom_151 fl_X1_29 (hL 11 (by decide)) sh_11 (by decide) rfl rfl ?_
              refine q_iload dX1_tryFrom_154 rfl rfl ?_
              refine q_aload_n dX1_tryFrom_156 rfl rfl ?_
              refine q_getA dX1_tryFrom_157 fl_X1_33 (hL 11 (by decide)) sh_11 (by decide) rfl rfl ?_
              refine q_getI dX1_tryFrom_160 fl_X1_80 (hL 9 (by decide)) sh_9 (by decide) rfl rfl ?_
              refine q_aload_n dX1_tryFrom_163 rfl rfl ?_
              refine q_getA dX1_tryFrom_164 fl_X1_33 (hL 11 (by decide)) sh_11 (by decide) rfl rfl ?_
              refine q_getI dX1_tryFrom_167 fl_X1_83 (hL 9 (by decide)) sh_9 (by decide) rfl rfl ?_
              refine q_aload_n dX1_tryFrom_170 rfl rfl ?_
              refine q_getA dX1_tryFrom_171 fl_X1_33 (hL 11 (by decide)) sh_11 (by decide) rfl rfl ?_
              refine q_getI dX1_tryFrom_174 fl_X1_86 (hL 9 (by decide)) sh_9 (by decide) rfl rfl ?_
              obtain ⟨q1581, h1582, h⟩ := Option.bind_eq_some_iff.mp h
              refine q_callVv (as := [qi (S 48 (Int.toNat x5)), qi (q1576.2 9 5), qi (q1576.2 9 6), qi (q1576.2 9 7)]) (c := 6) dX1_tryFrom_177 ml_X1_89 rfl rfl (hL 6 (by decide)) sh_6 rfl rfl (Nat.le_of_ble_eq_true rfl) (Stays_lay_ok hL (d + 4) (S 48 (Int.toNat x5)) (q1576.2 9 5) (q1576.2 9 6) (q1576.2 9 7) _ _ h1582) rfl ?_
              refine q_aload_n dX1_tryFrom_180 rfl rfl ?_
              refine q_iload_n dX1_tryFrom_181 rfl rfl ?_
              refine q_iconst dX1_tryFrom_182 rfl rfl ?_
              refine q_iadd dX1_tryFrom_183 rfl ?_
              refine q_iload_n dX1_tryFrom_184 rfl rfl ?_
              refine q_iconst dX1_tryFrom_185 rfl rfl ?_
              refine q_iload dX1_tryFrom_186 rfl rfl ?_
              refine q_ishl dX1_tryFrom_188 rfl ?_
              refine q_ior dX1_tryFrom_189 rfl ?_
              refine q_iload_n dX1_tryFrom_190 rfl rfl ?_
              refine q_iload dX1_tryFrom_191 rfl rfl ?_
              refine q_aload_n dX1_tryFrom_193 rfl rfl ?_
              refine q_getA dX1_tryFrom_194 fl_X1_29 (hL 11 (by decide)) sh_11 (by decide) rfl rfl ?_
              refine q_iload dX1_tryFrom_197 rfl rfl ?_
              obtain ⟨q1583, h1584, h⟩ := Option.bind_eq_some_iff.mp h
              refine q_callVi (as := [qi (S 48 (Int.toNat x5))]) (c := 6) dX1_tryFrom_199 ml_X1_92 rfl rfl (hL 6 (by decide)) sh_6 rfl rfl (Nat.le_of_ble_eq_true rfl) (Stays_costOf_ok hL (d + 5) (S 48 (Int.toNat x5)) _ _ h1584) rfl ?_
              refine q_iadd dX1_tryFrom_202 rfl ?_
              obtain ⟨q1585, h1586, h⟩ := Option.bind_eq_some_iff.mp h
              refine q_callVv (as := [qi (0 + 1), qi (qb_ior x2 (qb_ishl 1 x5)), qi x3, qi (x4 + q1583.1)]) (c := 11) dX1_tryFrom_203 ml_X1_70 rfl rfl (hL 11 (by decide)) sh_11 rfl rfl (Nat.le_of_ble_eq_true rfl) (FirstFour_tryFrom_n1_ok hL d (qb_ior x2 (qb_ishl 1 x5)) x3 (x4 + q1583.1) _ _ h1586) rfl ?_
              refine q_aload_n dX1_tryFrom_206 rfl rfl ?_
              refine q_getA dX1_tryFrom_207 fl_X1_29 (hL 11 (by decide)) sh_11 (by decide) rfl rfl ?_
              refine q_iload dX1_tryFrom_210 rfl rfl ?_
              obtain ⟨q1587, h1588, h⟩ := Option.bind_eq_some_iff.mp h
              refine q_callVv (as := [qi (S 48 (Int.toNat x5))]) (c := 6) dX1_tryFrom_212 ml_X1_96 rfl rfl (hL 6 (by decide)) sh_6 rfl rfl (Nat.le_of_ble_eq_true rfl) (Stays_lift_ok hL (d + 5) (S 48 (Int.toNat x5)) _ _ h1588) rfl ?_
              refine q_goto (pc' := 236) dX1_tryFrom_215 (by decide) ?_
              cases h
              exact q_pick [1, 2, 3, 4, 5, 6] rfl hk4141
        · rw [if_neg (show ¬ ((qb_iand (qb_ishr x2 x5) 1) = 0) from g)] at h
          refine q_goto (pc' := 236) dX1_tryFrom_86 (by decide) ?_
          cases h
          exact q_pick [0, 1, 2, 3, 4, 5] rfl hk4141
set_option maxRecDepth 20000 in
theorem FirstFour_tryFrom_n0_ok {X : qX} (hL : ∀ c, c < 93 → c ∈ qLs X) (d : Nat) (a2 : Int) (a3 : Int) (a4 : Int) (S : qSto) (o : qSto) (h : FirstFour_tryFrom_n0 a2 a3 a4 S = some o) (Q : Option qV → qSto → Prop) (hQ : Q none o) : qC X (d + 8) yX1_tryFrom cX1_tryFrom 7 none [qr 11, qi 0, qi a2, qi a3, qi a4] S Q := by
  refine q_entry (lv := [(0, qr 11), (1, qi 0), (2, qi a2), (3, qi a3), (4, qi a4)]) pn_X1 (Nat.le_of_ble_eq_true rfl) rfl ?_
  unfold FirstFour_tryFrom_n0 at h
  refine q_iload_n dX1_tryFrom_0 rfl rfl ?_
  refine q_aload_n dX1_tryFrom_1 rfl rfl ?_
  refine q_getI dX1_tryFrom_2 fl_X1_64 (hL 11 (by decide)) sh_11 (by decide) rfl rfl ?_
  obtain ⟨c1437, h⟩ := qk_some h
  obtain ⟨c1438, h⟩ := qk_some h
  refine q_icmp_gt (tgt := 25) dX1_tryFrom_5 (by decide) rfl (qRb_R c1437) (qRb_R c1438) (fun g => ?_) (fun g => ?_)
  · rw [if_pos (show (S 11 5) < a3 from g)] at h
    cases h
    exact q_return dX1_tryFrom_25 rfl hQ
  · rw [if_neg (show ¬ ((S 11 5) < a3) from g)] at h
    refine q_iload_n dX1_tryFrom_8 rfl rfl ?_
    refine q_aload_n dX1_tryFrom_9 rfl rfl ?_
    refine q_getI dX1_tryFrom_10 fl_X1_64 (hL 11 (by decide)) sh_11 (by decide) rfl rfl ?_
    obtain ⟨c1439, h⟩ := qk_some h
    obtain ⟨c1440, h⟩ := qk_some h
    refine q_icmp_ne (tgt := 26) dX1_tryFrom_13 (by decide) rfl (qRb_R c1439) (qRb_R c1440) (fun g => ?_) (fun g => ?_)
    · rw [if_neg (show ¬ (a3 = (S 11 5)) from g)] at h
      refine q_iload_n dX1_tryFrom_26 rfl rfl ?_
      refine q_aload_n dX1_tryFrom_27 rfl rfl ?_
      refine q_getI dX1_tryFrom_28 fl_X1_41 (hL 11 (by decide)) sh_11 (by decide) rfl rfl ?_
      obtain ⟨c1441, h⟩ := qk_some h
      refine q_icmp_ge (tgt := 39) dX1_tryFrom_31 (by decide) rfl ⟨by decide, by decide⟩ (qRb_R c1441) (fun g => ?_) (fun g => ?_)
      · rw [if_pos (show (S 11 4) ≤ 0 from g)] at h
        refine q_aload_n dX1_tryFrom_39 rfl rfl ?_
        refine q_iload_n dX1_tryFrom_40 rfl rfl ?_
        refine q_putI dX1_tryFrom_41 fl_X1_64 (hL 11 (by decide)) sh_11 (by decide) pf_1_5 pt_1_5 rfl rfl ?_
        refine q_aload_n dX1_tryFrom_44 rfl rfl ?_
        refine q_iload dX1_tryFrom_45 rfl rfl ?_
        refine q_putI dX1_tryFrom_47 fl_X1_67 (hL 11 (by decide)) sh_11 (by decide) pf_1_6 pt_1_6 rfl rfl ?_
        refine q_aload_n dX1_tryFrom_50 rfl rfl ?_
        refine q_getA dX1_tryFrom_51 fl_X1_18 (hL 11 (by decide)) sh_11 (by decide) rfl rfl ?_
        refine q_iconst dX1_tryFrom_54 rfl rfl ?_
        refine q_aload_n dX1_tryFrom_55 rfl rfl ?_
        refine q_getA dX1_tryFrom_56 fl_X1_9 (hL 11 (by decide)) sh_11 (by decide) rfl rfl ?_
        refine q_iconst dX1_tryFrom_59 rfl rfl ?_
        refine q_iconst dX1_tryFrom_60 rfl rfl ?_
        refine q_copy dX1_tryFrom_61 cw_X1_74 (hL 49 (by decide)) (hL 47 (by decide)) sh_49 sh_47 (by decide) (by decide) (by decide) (by decide) (by decide) (Nat.le_of_ble_eq_true rfl) rfl ?_
        cases h
        exact q_return dX1_tryFrom_64 rfl hQ
      · rw [if_neg (show ¬ ((S 11 4) ≤ 0) from g)] at h
        refine q_iload_n dX1_tryFrom_34 rfl rfl ?_
        refine q_iconst dX1_tryFrom_35 rfl rfl ?_
        refine q_icmp_lt (tgt := 65) dX1_tryFrom_36 (by decide) rfl ⟨by decide, by decide⟩ ⟨by decide, by decide⟩ (fun g => ?_) (fun g => absurd g (by decide))
        refine q_iconst dX1_tryFrom_65 rfl rfl ?_
        refine q_istore (lv' := [(5, qi 0), (0, qr 11), (1, qi 0), (2, qi a2), (3, qi a3), (4, qi a4)]) dX1_tryFrom_66 (by decide) rfl rfl ?_
        obtain ⟨q1590, h1591, h⟩ := Option.bind_eq_some_iff.mp h
        refine q_pick [1, 2, 3, 4, 5, 0] rfl (FirstFour_tryFrom_n0_L68_ok hL d qF a2 a3 a4 0 _ _ h1591 ?_)
        cases h
        exact q_return dX1_tryFrom_242 rfl hQ
    · rw [if_pos (show a3 = (S 11 5) from g)] at h
      refine q_iload dX1_tryFrom_16 rfl rfl ?_
      refine q_aload_n dX1_tryFrom_18 rfl rfl ?_
      refine q_getI dX1_tryFrom_19 fl_X1_67 (hL 11 (by decide)) sh_11 (by decide) rfl rfl ?_
      obtain ⟨c1592, h⟩ := qk_some h
      obtain ⟨c1593, h⟩ := qk_some h
      refine q_icmp_lt (tgt := 26) dX1_tryFrom_22 (by decide) rfl (qRb_R c1592) (qRb_R c1593) (fun g => ?_) (fun g => ?_)
      · rw [if_pos (show a4 < (S 11 6) from g)] at h
        refine q_iload_n dX1_tryFrom_26 rfl rfl ?_
        refine q_aload_n dX1_tryFrom_27 rfl rfl ?_
        refine q_getI dX1_tryFrom_28 fl_X1_41 (hL 11 (by decide)) sh_11 (by decide) rfl rfl ?_
        obtain ⟨c1594, h⟩ := qk_some h
        refine q_icmp_ge (tgt := 39) dX1_tryFrom_31 (by decide) rfl ⟨by decide, by decide⟩ (qRb_R c1594) (fun g => ?_) (fun g => ?_)
        · rw [if_pos (show (S 11 4) ≤ 0 from g)] at h
          refine q_aload_n dX1_tryFrom_39 rfl rfl ?_
          refine q_iload_n dX1_tryFrom_40 rfl rfl ?_
          refine q_putI dX1_tryFrom_41 fl_X1_64 (hL 11 (by decide)) sh_11 (by decide) pf_1_5 pt_1_5 rfl rfl ?_
          refine q_aload_n dX1_tryFrom_44 rfl rfl ?_
          refine q_iload dX1_tryFrom_45 rfl rfl ?_
          refine q_putI dX1_tryFrom_47 fl_X1_67 (hL 11 (by decide)) sh_11 (by decide) pf_1_6 pt_1_6 rfl rfl ?_
          refine q_aload_n dX1_tryFrom_50 rfl rfl ?_
          refine q_getA dX1_tryFrom_51 fl_X1_18 (hL 11 (by decide)) sh_11 (by decide) rfl rfl ?_
          refine q_iconst dX1_tryFrom_54 rfl rfl ?_
          refine q_aload_n dX1_tryFrom_55 rfl rfl ?_
          refine q_getA dX1_tryFrom_56 fl_X1_9 (hL 11 (by decide)) sh_11 (by decide) rfl rfl ?_
          refine q_iconst dX1_tryFrom_59 rfl rfl ?_
          refine q_iconst dX1_tryFrom_60 rfl rfl ?_
          refine q_copy dX1_tryFrom_61 cw_X1_74 (hL 49 (by decide)) (hL 47 (by decide)) sh_49 sh_47 (by decide) (by decide) (by decide) (by decide) (by decide) (Nat.le_of_ble_eq_true rfl) rfl ?_
          cases h
          exact q_return dX1_tryFrom_64 rfl hQ
        · rw [if_neg (show ¬ ((S 11 4) ≤ 0) from g)] at h
          refine q_iload_n dX1_tryFrom_34 rfl rfl ?_
          refine q_iconst dX1_tryFrom_35 rfl rfl ?_
          refine q_icmp_lt (tgt := 65) dX1_tryFrom_36 (by decide) rfl ⟨by decide, by decide⟩ ⟨by decide, by decide⟩ (fun g => ?_) (fun g => absurd g (by decide))
          refine q_iconst dX1_tryFrom_65 rfl rfl ?_
          refine q_istore (lv' := [(5, qi 0), (0, qr 11), (1, qi 0), (2, qi a2), (3, qi a3), (4, qi a4)]) dX1_tryFrom_66 (by decide) rfl rfl ?_
          obtain ⟨q1595, h1596, h⟩ := Option.bind_eq_some_iff.mp h
          refine q_pick [1, 2, 3, 4, 5, 0] rfl (FirstFour_tryFrom_n0_L68_ok hL d qF a2 a3 a4 0 _ _ h1596 ?_)
          cases h
          exact q_return dX1_tryFrom_242 rfl hQ
      · rw [if_neg (show ¬ (a4 < (S 11 6)) from g)] at h
        cases h
        exact q_return dX1_tryFrom_25 rfl hQ
set_option maxRecDepth 20000 in
theorem FirstFour_reckon_L15_ok {X : qX} (hL : ∀ c, c < 93 → c ∈ qLs X) (d : Nat) {Q : Option qV → qSto → Prop} : ∀ (n : Nat) (x1 : Int) (S : qSto) (o : qSto), FirstFour_reckon_L15 n x1 S = some o → (qW X (d + 9) yX1_reckon cX1_reckon 2 none 108 [(0, qr 11)] [] o Q) → qW X (d + 9) yX1_reckon cX1_reckon 2 none 15 [(0, qr 11), (1, qi x1)] [] S Q := by
  intro n
  induction n with
  | zero =>
    intro x1 S o h
    simp [FirstFour_reckon_L15] at h
  | succ n ih =>
    intro x1 S o h hE
    rw [FirstFour_reckon_L15] at h
    refine q_iload_n dX1_reckon_15 rfl rfl ?_
    refine q_aload_n dX1_reckon_16 rfl rfl ?_
    refine q_getA dX1_reckon_17 fl_X1_25 (hL 11 (by decide)) sh_11 (by decide) rfl rfl ?_
    refine q_getI dX1_reckon_20 fl_X1_45 (hL 2 (by decide)) sh_2 (by decide) rfl rfl ?_
    obtain ⟨c1419, h⟩ := qk_some h
    obtain ⟨c1420, h⟩ := qk_some h
    refine q_icmp_ge (tgt := 108) dX1_reckon_23 (by decide) rfl (qRb_R c1419) (qRb_R c1420) (fun g => ?_) (fun g => ?_)
    · rw [if_pos (show (S 2 12) ≤ x1 from g)] at h
      cases h
      exact q_pick [0] rfl (hE)
    · rw [if_neg (show ¬ ((S 2 12) ≤ x1) from g)] at h
      refine q_aload_n dX1_reckon_26 rfl rfl ?_
      refine q_getI dX1_reckon_27 fl_X1_41 (hL 11 (by decide)) sh_11 (by decide) rfl rfl ?_
      refine q_iconst dX1_reckon_30 rfl rfl ?_
      obtain ⟨c1421, h⟩ := qk_some h
      refine q_icmp_ge (tgt := 108) dX1_reckon_31 (by decide) rfl (qRb_R c1421) ⟨by decide, by decide⟩ (fun g => ?_) (fun g => ?_)
      · rw [if_pos (show 4 ≤ (S 11 4) from g)] at h
        cases h
        exact q_pick [0] rfl (hE)
      · rw [if_neg (show ¬ (4 ≤ (S 11 4)) from g)] at h
        refine q_aload_n dX1_reckon_34 rfl rfl ?_
        refine q_getA dX1_reckon_35 fl_X1_29 (hL 11 (by decide)) sh_11 (by decide) rfl rfl ?_
        refine q_iload_n dX1_reckon_38 rfl rfl ?_
        obtain ⟨q1422, h1423, h⟩ := Option.bind_eq_some_iff.mp h
        refine q_callVi (as := [qi x1]) (c := 6) dX1_reckon_39 ml_X1_48 rfl rfl (hL 6 (by decide)) sh_6 rfl rfl (Nat.le_of_ble_eq_true rfl) (Stays_has_ok hL (d + 8) x1 _ _ h1423) rfl ?_
        refine q_jn (G := fun (t1434 : qSto) => qW X (d + 9) yX1_reckon cX1_reckon 2 none 102 [(0, qr 11), (1, qi x1)] [] t1434 Q) h (fun t1434 h => ?_) (fun t1434 h hk4142 => ?_)
        · try dsimp only at h
          refine q_iinc (lv' := [(1, qi (x1 + 1)), (0, qr 11)]) dX1_reckon_102 (by decide) rfl rfl rfl ?_
          refine q_goto (pc' := 15) dX1_reckon_105 (by decide) ?_
          exact q_pick [1, 0] rfl (ih (x1 + 1) _ _ h hE)
        · skip
          obtain ⟨c1424, h⟩ := qk_some h
          refine q_if_ne (tgt := 102) dX1_reckon_42 (by decide) rfl (qRb_R c1424)  (fun g => ?_) (fun g => ?_)
          · rw [if_neg (show ¬ (q1422.1 = 0) from g)] at h
            cases h
            exact q_pick [0, 1] rfl hk4142
          · rw [if_pos (show q1422.1 = 0 from g)] at h
            refine q_aload_n dX1_reckon_45 rfl rfl ?_
            refine q_getA dX1_reckon_46 fl_X1_15 (hL 11 (by decide)) sh_11 (by decide) rfl rfl ?_
            refine q_aload_n dX1_reckon_49 rfl rfl ?_
            refine q_getI dX1_reckon_50 fl_X1_41 (hL 11 (by decide)) sh_11 (by decide) rfl rfl ?_
            refine q_iload_n dX1_reckon_53 rfl rfl ?_
            obtain ⟨c1425, h⟩ := qk_some h
            refine q_iastore dX1_reckon_54 (hL 48 (by decide)) sh_48 (qIx_0 c1425) (qIx_1 c1425) rfl ?_
            refine q_aload_n dX1_reckon_55 rfl rfl ?_
            refine q_getA dX1_reckon_56 fl_X1_21 (hL 11 (by decide)) sh_11 (by decide) rfl rfl ?_
            refine q_aload_n dX1_reckon_59 rfl rfl ?_
            refine q_getI dX1_reckon_60 fl_X1_41 (hL 11 (by decide)) sh_11 (by decide) rfl rfl ?_
            refine q_aload_n dX1_reckon_63 rfl rfl ?_
            refine q_getA dX1_reckon_64 fl_X1_33 (hL 11 (by decide)) sh_11 (by decide) rfl rfl ?_
            refine q_iload_n dX1_reckon_67 rfl rfl ?_
            refine q_aload_n dX1_reckon_68 rfl rfl ?_
            refine q_getA dX1_reckon_69 fl_X1_25 (hL 11 (by decide)) sh_11 (by decide) rfl rfl ?_
            refine q_iload_n dX1_reckon_72 rfl rfl ?_
            refine q_bipush dX1_reckon_73 (by decide) rfl ?_
            obtain ⟨q1426, h1427, h⟩ := Option.bind_eq_some_iff.mp h
            refine q_callVi (as := [qi x1, qi 8]) (c := 2) dX1_reckon_75 ml_X1_54 rfl rfl (hL 2 (by decide)) sh_2 rfl rfl (Nat.le_of_ble_eq_true rfl) (Told_contractOf_ok hL (d + 8) x1 8 _ _ h1427) rfl ?_
            refine q_aload_n dX1_reckon_78 rfl rfl ?_
            refine q_getA dX1_reckon_79 fl_X1_25 (hL 11 (by decide)) sh_11 (by decide) rfl rfl ?_
            refine q_iload_n dX1_reckon_82 rfl rfl ?_
            refine q_bipush dX1_reckon_83 (by decide) rfl ?_
            obtain ⟨q1428, h1429, h⟩ := Option.bind_eq_some_iff.mp h
            refine q_callVi (as := [qi x1, qi 7]) (c := 2) dX1_reckon_85 ml_X1_54 rfl rfl (hL 2 (by decide)) sh_2 rfl rfl (Nat.le_of_ble_eq_true rfl) (Told_contractOf_ok hL (d + 8) x1 7 _ _ h1429) rfl ?_
            obtain ⟨q1430, h1431, h⟩ := Option.bind_eq_some_iff.mp h
            refine q_callVi (as := [qi x1, qi q1426.1, qi q1428.1]) (c := 9) dX1_reckon_88 ml_X1_58 rfl rfl (hL 9 (by decide)) sh_9 rfl rfl (Nat.le_of_ble_eq_true rfl) (Search_find_ok hL (d + 4) x1 q1426.1 q1428.1 _ _ h1431) rfl ?_
            obtain ⟨c1432, h⟩ := qk_some h
            obtain ⟨c1433, h⟩ := qk_some h
            refine q_zastore dX1_reckon_91 (hL 50 (by decide)) sh_50 (qIx_0 c1432) (qIx_1 c1432) (qZb_Z c1433) rfl ?_
            refine q_aload_n dX1_reckon_92 rfl rfl ?_
            refine q_dupA dX1_reckon_93 rfl ?_
            refine q_getI dX1_reckon_94 fl_X1_41 (hL 11 (by decide)) sh_11 (by decide) rfl rfl ?_
            refine q_iconst dX1_reckon_97 rfl rfl ?_
            refine q_iadd dX1_reckon_98 rfl ?_
            refine q_putI dX1_reckon_99 fl_X1_41 (hL 11 (by decide)) sh_11 (by decide) pf_1_4 pt_1_4 rfl rfl ?_
            cases h
            exact q_pick [0, 1] rfl hk4142
set_option maxRecDepth 20000 in
theorem FirstFour_reckon_ok {X : qX} (hL : ∀ c, c < 93 → c ∈ qLs X) (d : Nat) (S : qSto) (o : qSto) (h : FirstFour_reckon S = some o) (Q : Option qV → qSto → Prop) (hQ : Q none o) : qC X (d + 9) yX1_reckon cX1_reckon 2 none [qr 11] S Q := by
  refine q_entry (lv := [(0, qr 11)]) pn_X1 (Nat.le_of_ble_eq_true rfl) rfl ?_
  unfold FirstFour_reckon at h
  refine q_aload_n dX1_reckon_0 rfl rfl ?_
  refine q_getZ dX1_reckon_1 fl_X1_37 (hL 11 (by decide)) sh_11 (by decide) rfl rfl ?_
  obtain ⟨c1418, h⟩ := qk_some h
  refine q_if_eq (tgt := 8) dX1_reckon_4 (by decide) rfl (qRb_R c1418)  (fun g => ?_) (fun g => ?_)
  · rw [if_pos (show (S 11 3) = 0 from g)] at h
    refine q_aload_n dX1_reckon_8 rfl rfl ?_
    refine q_iconst dX1_reckon_9 rfl rfl ?_
    refine q_putI dX1_reckon_10 fl_X1_41 (hL 11 (by decide)) sh_11 (by decide) pf_1_4 pt_1_4 rfl rfl ?_
    refine q_iconst dX1_reckon_13 rfl rfl ?_
    refine q_istore_n (lv' := [(1, qi 0), (0, qr 11)]) dX1_reckon_14 (by decide) rfl rfl ?_
    obtain ⟨q1435, h1436, h⟩ := Option.bind_eq_some_iff.mp h
    refine q_pick [1, 0] rfl (FirstFour_reckon_L15_ok hL d qF 0 _ _ h1436 ?_)
    refine q_aload_n dX1_reckon_108 rfl rfl ?_
    refine q_iconst dX1_reckon_109 rfl rfl ?_
    refine q_putI dX1_reckon_110 fl_X1_64 (hL 11 (by decide)) sh_11 (by decide) pf_1_5 pt_1_5 rfl rfl ?_
    refine q_aload_n dX1_reckon_113 rfl rfl ?_
    refine q_iconst dX1_reckon_114 rfl rfl ?_
    refine q_putI dX1_reckon_115 fl_X1_67 (hL 11 (by decide)) sh_11 (by decide) pf_1_6 pt_1_6 rfl rfl ?_
    refine q_aload_n dX1_reckon_118 rfl rfl ?_
    refine q_iconst dX1_reckon_119 rfl rfl ?_
    refine q_iconst dX1_reckon_120 rfl rfl ?_
    refine q_iconst dX1_reckon_121 rfl rfl ?_
    refine q_iconst dX1_reckon_122 rfl rfl ?_
    obtain ⟨q1597, h1598, h⟩ := Option.bind_eq_some_iff.mp h
    refine q_callVv (as := [qi 0, qi 0, qi 0, qi 0]) (c := 11) dX1_reckon_123 ml_X1_70 rfl rfl (hL 11 (by decide)) sh_11 rfl rfl (Nat.le_of_ble_eq_true rfl) (FirstFour_tryFrom_n0_ok hL d 0 0 0 _ _ h1598) rfl ?_
    refine q_aload_n dX1_reckon_126 rfl rfl ?_
    refine q_iconst dX1_reckon_127 rfl rfl ?_
    refine q_putZ dX1_reckon_128 fl_X1_37 (hL 11 (by decide)) sh_11 (by decide) pf_1_3 pt_1_3 rfl (by decide) rfl ?_
    cases h
    exact q_return dX1_reckon_131 rfl hQ
  · rw [if_neg (show ¬ ((S 11 3) = 0) from g)] at h
    cases h
    exact q_return dX1_reckon_7 rfl hQ
set_option maxRecDepth 20000 in
theorem C_best_ok {X : qX} (hL : ∀ c, c < 93 → c ∈ qLs X) (d : Nat) (a1 : Int) (S : qSto) (o : (Int × qSto)) (h : C_best a1 S = some o) (Q : Option qV → qSto → Prop) (hQ : Q (some (qi o.1)) o.2) : qC X (d + 10) yX11_best cX11_best 2 (some .int) [qr 0, qi a1] S Q := by
  refine q_entry (lv := [(0, qr 0), (1, qi a1)]) pn_X11 (Nat.le_of_ble_eq_true rfl) rfl ?_
  unfold C_best at h
  refine q_iload_n dX11_best_0 rfl rfl ?_
  obtain ⟨c1412, h⟩ := qk_some h
  refine q_if_lt (tgt := 26) dX11_best_1 (by decide) rfl (qRb_R c1412)  (fun g => ?_) (fun g => ?_)
  · rw [if_pos (show a1 < 0 from g)] at h
    refine q_iconst dX11_best_26 rfl rfl ?_
    cases h
    exact q_ireturn dX11_best_27 rfl hQ
  · rw [if_neg (show ¬ (a1 < 0) from g)] at h
    refine q_iload_n dX11_best_4 rfl rfl ?_
    refine q_iconst dX11_best_5 rfl rfl ?_
    obtain ⟨c1413, h⟩ := qk_some h
    refine q_icmp_gt (tgt := 26) dX11_best_6 (by decide) rfl (qRb_R c1413) ⟨by decide, by decide⟩ (fun g => ?_) (fun g => ?_)
    · rw [if_pos (show 5 < a1 from g)] at h
      refine q_iconst dX11_best_26 rfl rfl ?_
      cases h
      exact q_ireturn dX11_best_27 rfl hQ
    · rw [if_neg (show ¬ (5 < a1) from g)] at h
      refine q_aload_n dX11_best_9 rfl rfl ?_
      refine q_getA dX11_best_10 fl_X11_49 (hL 0 (by decide)) sh_0 (by decide) rfl rfl ?_
      obtain ⟨q1414, h1415, h⟩ := Option.bind_eq_some_iff.mp h
      refine q_callVi (as := []) (c := 6) dX11_best_13 ml_X11_161 rfl rfl (hL 6 (by decide)) sh_6 rfl rfl (Nat.le_of_ble_eq_true rfl) (Stays_howMany_ok hL (d + 8) _ _ h1415) rfl ?_
      refine q_aload_n dX11_best_16 rfl rfl ?_
      refine q_getA dX11_best_17 fl_X11_16 (hL 0 (by decide)) sh_0 (by decide) rfl rfl ?_
      refine q_getI dX11_best_20 fl_X11_158 (hL 2 (by decide)) sh_2 (by decide) rfl rfl ?_
      obtain ⟨c1416, h⟩ := qk_some h
      obtain ⟨c1417, h⟩ := qk_some h
      refine q_icmp_ne (tgt := 28) dX11_best_23 (by decide) rfl (qRb_R c1416) (qRb_R c1417) (fun g => ?_) (fun g => ?_)
      · rw [if_neg (show ¬ (q1414.1 = (q1414.2 2 12)) from g)] at h
        refine q_aload_n dX11_best_28 rfl rfl ?_
        refine q_getA dX11_best_29 fl_X11_92 (hL 0 (by decide)) sh_0 (by decide) rfl rfl ?_
        obtain ⟨q1599, h1600, h⟩ := Option.bind_eq_some_iff.mp h
        refine q_callVv (as := []) (c := 11) dX11_best_32 ml_X11_350 rfl rfl (hL 11 (by decide)) sh_11 rfl rfl (Nat.le_of_ble_eq_true rfl) (FirstFour_reckon_ok hL d _ _ h1600) rfl ?_
        refine q_iload_n dX11_best_35 rfl rfl ?_
        obtain ⟨c1601, h⟩ := qk_some h
        by_cases e4143 : a1 = 0
        · rw [if_pos e4143] at h
          refine q_lsw (tgt := 64) (off := 28) dX11_best_36 (by decide) (qRb_R c1601) (by rw [e4143]; rfl) (by decide) ?_
          refine q_aload_n dX11_best_64 rfl rfl ?_
          refine q_getA dX11_best_65 fl_X11_92 (hL 0 (by decide)) sh_0 (by decide) rfl rfl ?_
          refine q_getI dX11_best_68 fl_X11_351 (hL 11 (by decide)) sh_11 (by decide) rfl rfl ?_
          cases h
          exact q_ireturn dX11_best_71 rfl hQ
        · rw [if_neg e4143] at h
          by_cases e4144 : a1 = 1
          · rw [if_pos e4144] at h
            refine q_lsw (tgt := 72) (off := 36) dX11_best_36 (by decide) (qRb_R c1601) (by rw [e4144]; rfl) (by decide) ?_
            refine q_aload_n dX11_best_72 rfl rfl ?_
            refine q_getA dX11_best_73 fl_X11_92 (hL 0 (by decide)) sh_0 (by decide) rfl rfl ?_
            refine q_getI dX11_best_76 fl_X11_354 (hL 11 (by decide)) sh_11 (by decide) rfl rfl ?_
            cases h
            exact q_ireturn dX11_best_79 rfl hQ
          · rw [if_neg e4144] at h
            refine q_lsw (tgt := 80) (off := 44) dX11_best_36 (by decide) (qRb_R c1601) (by simp [Op.lookupswitch.offset, show ¬ (0 = a1) from fun z => e4143 z.symm, show ¬ (1 = a1) from fun z => e4144 z.symm]) (by decide) ?_
            refine q_iload_n dX11_best_80 rfl rfl ?_
            refine q_iconst dX11_best_81 rfl rfl ?_
            refine q_isub dX11_best_82 rfl ?_
            refine q_aload_n dX11_best_83 rfl rfl ?_
            refine q_getA dX11_best_84 fl_X11_92 (hL 0 (by decide)) sh_0 (by decide) rfl rfl ?_
            refine q_getI dX11_best_87 fl_X11_357 (hL 11 (by decide)) sh_11 (by decide) rfl rfl ?_
            obtain ⟨c1602, h⟩ := qk_some h
            obtain ⟨c1603, h⟩ := qk_some h
            refine q_icmp_ge (tgt := 107) dX11_best_90 (by decide) rfl (qRb_R c1602) (qRb_R c1603) (fun g => ?_) (fun g => ?_)
            · rw [if_pos (show (q1599 11 4) ≤ (a1 - 2) from g)] at h
              refine q_bipush dX11_best_107 (by decide) rfl ?_
              cases h
              exact q_ireturn dX11_best_109 rfl hQ
            · rw [if_neg (show ¬ ((q1599 11 4) ≤ (a1 - 2)) from g)] at h
              refine q_aload_n dX11_best_93 rfl rfl ?_
              refine q_getA dX11_best_94 fl_X11_92 (hL 0 (by decide)) sh_0 (by decide) rfl rfl ?_
              refine q_getA dX11_best_97 fl_X11_358 (hL 11 (by decide)) sh_11 (by decide) rfl rfl ?_
              refine q_iload_n dX11_best_100 rfl rfl ?_
              refine q_iconst dX11_best_101 rfl rfl ?_
              refine q_isub dX11_best_102 rfl ?_
              obtain ⟨c1604, h⟩ := qk_some h
              refine q_iaload dX11_best_103 (hL 47 (by decide)) sh_47 (qIx_0 c1604) (qIx_1 c1604) rfl ?_
              refine q_goto (pc' := 109) dX11_best_104 (by decide) ?_
              cases h
              exact q_ireturn dX11_best_109 rfl hQ
      · rw [if_pos (show q1414.1 = (q1414.2 2 12) from g)] at h
        refine q_iconst dX11_best_26 rfl rfl ?_
        cases h
        exact q_ireturn dX11_best_27 rfl hQ
set_option maxRecDepth 20000 in
theorem C_four_L41_ok {X : qX} (hL : ∀ c, c < 93 → c ∈ qLs X) (d : Nat) {Q : Option qV → qSto → Prop} : ∀ (n : Nat) (x1 : Int) (x2 : Int) (S : qSto) (o : (Int × qSto)), C_four_L41 n x1 x2 S = some o → (qW X (d + 10) yX11_four cX11_four 3 (some .int) 77 [(0, qr 0), (1, qi o.1)] [] o.2 Q) → qW X (d + 10) yX11_four cX11_four 3 (some .int) 41 [(0, qr 0), (1, qi x1), (2, qi x2)] [] S Q := by
  intro n
  induction n with
  | zero =>
    intro x1 x2 S o h
    simp [C_four_L41] at h
  | succ n ih =>
    intro x1 x2 S o h hE
    rw [C_four_L41] at h
    refine q_iload_n dX11_four_41 rfl rfl ?_
    refine q_aload_n dX11_four_42 rfl rfl ?_
    refine q_getA dX11_four_43 fl_X11_92 (hL 0 (by decide)) sh_0 (by decide) rfl rfl ?_
    refine q_getI dX11_four_46 fl_X11_357 (hL 11 (by decide)) sh_11 (by decide) rfl rfl ?_
    obtain ⟨c1611, h⟩ := qk_some h
    obtain ⟨c1612, h⟩ := qk_some h
    refine q_icmp_ge (tgt := 77) dX11_four_49 (by decide) rfl (qRb_R c1611) (qRb_R c1612) (fun g => ?_) (fun g => ?_)
    · rw [if_pos (show (S 11 4) ≤ x2 from g)] at h
      cases h
      exact q_pick [0, 1] rfl (hE)
    · rw [if_neg (show ¬ ((S 11 4) ≤ x2) from g)] at h
      refine q_aload_n dX11_four_52 rfl rfl ?_
      refine q_aload_n dX11_four_53 rfl rfl ?_
      refine q_getA dX11_four_54 fl_X11_92 (hL 0 (by decide)) sh_0 (by decide) rfl rfl ?_
      refine q_getA dX11_four_57 fl_X11_358 (hL 11 (by decide)) sh_11 (by decide) rfl rfl ?_
      refine q_iload_n dX11_four_60 rfl rfl ?_
      obtain ⟨c1613, h⟩ := qk_some h
      refine q_iaload dX11_four_61 (hL 47 (by decide)) sh_47 (qIx_0 c1613) (qIx_1 c1613) rfl ?_
      obtain ⟨q1614, h1615, h⟩ := Option.bind_eq_some_iff.mp h
      refine q_callVi (as := [qi (S 47 (Int.toNat x2))]) (c := 0) dX11_four_62 ml_X11_309 rfl rfl (hL 0 (by decide)) sh_0 rfl rfl (Nat.le_of_ble_eq_true rfl) (C_layByItself_ok hL (d + 4) (S 47 (Int.toNat x2)) _ _ h1615) rfl ?_
      refine q_jn (G := fun (t1617 : Int) => qW X (d + 10) yX11_four cX11_four 3 (some .int) 71 [(0, qr 0), (1, qi t1617), (2, qi x2)] [] q1614.2 Q) h (fun t1617 h => ?_) (fun t1617 h hk4145 => ?_)
      · try dsimp only at h
        refine q_iinc (lv' := [(2, qi (x2 + 1)), (0, qr 0), (1, qi t1617)]) dX11_four_71 (by decide) rfl rfl rfl ?_
        refine q_goto (pc' := 41) dX11_four_74 (by decide) ?_
        exact q_pick [1, 2, 0] rfl (ih t1617 (x2 + 1) _ _ h hE)
      · skip
        obtain ⟨c1616, h⟩ := qk_some h
        refine q_if_eq (tgt := 71) dX11_four_65 (by decide) rfl (qRb_R c1616)  (fun g => ?_) (fun g => ?_)
        · rw [if_pos (show q1614.1 = 0 from g)] at h
          cases h
          exact q_pick [0, 1, 2] rfl hk4145
        · rw [if_neg (show ¬ (q1614.1 = 0) from g)] at h
          refine q_iinc (lv' := [(1, qi (x1 + 1)), (0, qr 0), (2, qi x2)]) dX11_four_68 (by decide) rfl rfl rfl ?_
          cases h
          exact q_pick [1, 0, 2] rfl hk4145
set_option maxRecDepth 20000 in
theorem C_four_ok {X : qX} (hL : ∀ c, c < 93 → c ∈ qLs X) (d : Nat) (S : qSto) (o : (Int × qSto)) (h : C_four S = some o) (Q : Option qV → qSto → Prop) (hQ : Q (some (qi o.1)) o.2) : qC X (d + 10) yX11_four cX11_four 3 (some .int) [qr 0] S Q := by
  refine q_entry (lv := [(0, qr 0)]) pn_X11 (Nat.le_of_ble_eq_true rfl) rfl ?_
  unfold C_four at h
  refine q_aload_n dX11_four_0 rfl rfl ?_
  refine q_getA dX11_four_1 fl_X11_92 (hL 0 (by decide)) sh_0 (by decide) rfl rfl ?_
  obtain ⟨q1605, h1606, h⟩ := Option.bind_eq_some_iff.mp h
  refine q_callVv (as := []) (c := 11) dX11_four_4 ml_X11_350 rfl rfl (hL 11 (by decide)) sh_11 rfl rfl (Nat.le_of_ble_eq_true rfl) (FirstFour_reckon_ok hL d _ _ h1606) rfl ?_
  refine q_aload_n dX11_four_7 rfl rfl ?_
  refine q_getA dX11_four_8 fl_X11_92 (hL 0 (by decide)) sh_0 (by decide) rfl rfl ?_
  refine q_getI dX11_four_11 fl_X11_351 (hL 11 (by decide)) sh_11 (by decide) rfl rfl ?_
  refine q_aload_n dX11_four_14 rfl rfl ?_
  refine q_getA dX11_four_15 fl_X11_92 (hL 0 (by decide)) sh_0 (by decide) rfl rfl ?_
  refine q_getI dX11_four_18 fl_X11_357 (hL 11 (by decide)) sh_11 (by decide) rfl rfl ?_
  obtain ⟨c1607, h⟩ := qk_some h
  obtain ⟨c1608, h⟩ := qk_some h
  refine q_icmp_lt (tgt := 26) dX11_four_21 (by decide) rfl (qRb_R c1607) (qRb_R c1608) (fun g => ?_) (fun g => ?_)
  · rw [if_pos (show (q1605 11 5) < (q1605 11 4) from g)] at h
    refine q_aload_n dX11_four_26 rfl rfl ?_
    refine q_getA dX11_four_27 fl_X11_49 (hL 0 (by decide)) sh_0 (by decide) rfl rfl ?_
    refine q_aload_n dX11_four_30 rfl rfl ?_
    refine q_getA dX11_four_31 fl_X11_110 (hL 0 (by decide)) sh_0 (by decide) rfl rfl ?_
    obtain ⟨q1609, h1610, h⟩ := Option.bind_eq_some_iff.mp h
    refine q_callVv (as := [qr 14]) (c := 6) dX11_four_34 ml_X11_295 rfl rfl (hL 6 (by decide)) sh_6 rfl rfl (Nat.le_of_ble_eq_true rfl) (Stays_save_14_ok hL (d + 9) _ _ h1610) rfl ?_
    refine q_iconst dX11_four_37 rfl rfl ?_
    refine q_istore_n (lv' := [(1, qi 0), (0, qr 0)]) dX11_four_38 (by decide) rfl rfl ?_
    refine q_iconst dX11_four_39 rfl rfl ?_
    refine q_istore_n (lv' := [(2, qi 0), (1, qi 0), (0, qr 0)]) dX11_four_40 (by decide) rfl rfl ?_
    obtain ⟨q1618, h1619, h⟩ := Option.bind_eq_some_iff.mp h
    refine q_pick [2, 1, 0] rfl (C_four_L41_ok hL d qF 0 0 _ _ h1619 ?_)
    refine q_aload_n dX11_four_77 rfl rfl ?_
    obtain ⟨q1620, h1621, h⟩ := Option.bind_eq_some_iff.mp h
    refine q_callVv (as := []) (c := 0) dX11_four_78 ml_X11_303 rfl rfl (hL 0 (by decide)) sh_0 rfl rfl (Nat.le_of_ble_eq_true rfl) (C_keepAct_ok hL (d + 8) _ _ h1621) rfl ?_
    refine q_iload_n dX11_four_81 rfl rfl ?_
    cases h
    exact q_ireturn dX11_four_82 rfl hQ
  · rw [if_neg (show ¬ ((q1605 11 5) < (q1605 11 4)) from g)] at h
    refine q_iconst dX11_four_24 rfl rfl ?_
    cases h
    exact q_ireturn dX11_four_25 rfl hQ
set_option maxRecDepth 20000 in
theorem Stays_liesIn_ok {X : qX} (hL : ∀ c, c < 93 → c ∈ qLs X) (d : Nat) (a1 : Int) (a2 : Int) (S : qSto) (o : (Int × qSto)) (h : Stays_liesIn a1 a2 S = some o) (Q : Option qV → qSto → Prop) (hQ : Q (some (qi o.1)) o.2) : qC X (d + 1) yX7_liesIn cX7_liesIn 3 (some .boolean) [qr 6, qi a1, qi a2] S Q := by
  refine q_entry (lv := [(0, qr 6), (1, qi a1), (2, qi a2)]) pn_X7 (Nat.le_of_ble_eq_true rfl) rfl ?_
  unfold Stays_liesIn at h
  refine q_aload_n dX7_liesIn_0 rfl rfl ?_
  refine q_iload_n dX7_liesIn_1 rfl rfl ?_
  obtain ⟨q1630, h1631, h⟩ := Option.bind_eq_some_iff.mp h
  refine q_callVi (as := [qi a1]) (c := 6) dX7_liesIn_2 ml_X7_50 rfl rfl (hL 6 (by decide)) sh_6 rfl rfl (Nat.le_of_ble_eq_true rfl) (Stays_has_ok hL d a1 _ _ h1631) rfl ?_
  obtain ⟨c1632, h⟩ := qk_some h
  refine q_if_eq (tgt := 32) dX7_liesIn_5 (by decide) rfl (qRb_R c1632)  (fun g => ?_) (fun g => ?_)
  · rw [if_pos (show q1630.1 = 0 from g)] at h
    refine q_iconst dX7_liesIn_32 rfl rfl ?_
    cases h
    exact q_zreturn dX7_liesIn_33 rfl (by decide) hQ
  · rw [if_neg (show ¬ (q1630.1 = 0) from g)] at h
    refine q_iload_n dX7_liesIn_8 rfl rfl ?_
    refine q_aload_n dX7_liesIn_9 rfl rfl ?_
    refine q_getA dX7_liesIn_10 fl_X7_18 (hL 6 (by decide)) sh_6 (by decide) rfl rfl ?_
    refine q_iload_n dX7_liesIn_13 rfl rfl ?_
    obtain ⟨c1633, h⟩ := qk_some h
    refine q_iaload dX7_liesIn_14 (hL 39 (by decide)) sh_39 (qIx_0 c1633) (qIx_1 c1633) rfl ?_
    obtain ⟨c1634, h⟩ := qk_some h
    obtain ⟨c1635, h⟩ := qk_some h
    refine q_icmp_lt (tgt := 32) dX7_liesIn_15 (by decide) rfl (qRb_R c1634) (qRb_R c1635) (fun g => ?_) (fun g => ?_)
    · rw [if_pos (show a2 < (q1630.2 39 (Int.toNat a1)) from g)] at h
      refine q_iconst dX7_liesIn_32 rfl rfl ?_
      cases h
      exact q_zreturn dX7_liesIn_33 rfl (by decide) hQ
    · rw [if_neg (show ¬ (a2 < (q1630.2 39 (Int.toNat a1))) from g)] at h
      refine q_iload_n dX7_liesIn_18 rfl rfl ?_
      refine q_aload_n dX7_liesIn_19 rfl rfl ?_
      refine q_getA dX7_liesIn_20 fl_X7_27 (hL 6 (by decide)) sh_6 (by decide) rfl rfl ?_
      refine q_iload_n dX7_liesIn_23 rfl rfl ?_
      obtain ⟨c1636, h⟩ := qk_some h
      refine q_iaload dX7_liesIn_24 (hL 42 (by decide)) sh_42 (qIx_0 c1636) (qIx_1 c1636) rfl ?_
      obtain ⟨c1637, h⟩ := qk_some h
      obtain ⟨c1638, h⟩ := qk_some h
      refine q_icmp_ge (tgt := 32) dX7_liesIn_25 (by decide) rfl (qRb_R c1637) (qRb_R c1638) (fun g => ?_) (fun g => ?_)
      · rw [if_pos (show (q1630.2 42 (Int.toNat a1)) ≤ a2 from g)] at h
        refine q_iconst dX7_liesIn_32 rfl rfl ?_
        cases h
        exact q_zreturn dX7_liesIn_33 rfl (by decide) hQ
      · rw [if_neg (show ¬ ((q1630.2 42 (Int.toNat a1)) ≤ a2) from g)] at h
        refine q_iconst dX7_liesIn_28 rfl rfl ?_
        refine q_goto (pc' := 33) dX7_liesIn_29 (by decide) ?_
        cases h
        exact q_zreturn dX7_liesIn_33 rfl (by decide) hQ
set_option maxRecDepth 20000 in
theorem C_at_L19_ok {X : qX} (hL : ∀ c, c < 93 → c ∈ qLs X) (d : Nat) {Q : Option qV → qSto → Prop} : ∀ (n : Nat) (x1 : Int) (x2 : Int) (x3 : Int) (S : qSto) (o : (qSto ⊕ (Int × qSto))), C_at_L19 n x1 x2 x3 S = some o → (∀ t, o = Sum.inl t → qW X (d + 2) yX11_at cX11_at 4 (some .int) 76 [] [] t Q) → (∀ w, o = Sum.inr w → Q (some (qi w.1)) w.2) → qW X (d + 2) yX11_at cX11_at 4 (some .int) 19 [(0, qr 0), (1, qi x1), (2, qi x2), (3, qi x3)] [] S Q := by
  intro n
  induction n with
  | zero =>
    intro x1 x2 x3 S o h
    simp [C_at_L19] at h
  | succ n ih =>
    intro x1 x2 x3 S o h hE hR
    rw [C_at_L19] at h
    refine q_iload_n dX11_at_19 rfl rfl ?_
    refine q_aload_n dX11_at_20 rfl rfl ?_
    refine q_getA dX11_at_21 fl_X11_16 (hL 0 (by decide)) sh_0 (by decide) rfl rfl ?_
    refine q_getI dX11_at_24 fl_X11_158 (hL 2 (by decide)) sh_2 (by decide) rfl rfl ?_
    obtain ⟨c1628, h⟩ := qk_some h
    obtain ⟨c1629, h⟩ := qk_some h
    refine q_icmp_ge (tgt := 76) dX11_at_27 (by decide) rfl (qRb_R c1628) (qRb_R c1629) (fun g => ?_) (fun g => ?_)
    · rw [if_pos (show (S 2 12) ≤ x3 from g)] at h
      cases h
      exact q_pick [] rfl (hE _ rfl)
    · rw [if_neg (show ¬ ((S 2 12) ≤ x3) from g)] at h
      refine q_aload_n dX11_at_30 rfl rfl ?_
      refine q_getA dX11_at_31 fl_X11_49 (hL 0 (by decide)) sh_0 (by decide) rfl rfl ?_
      refine q_iload_n dX11_at_34 rfl rfl ?_
      refine q_iload_n dX11_at_35 rfl rfl ?_
      obtain ⟨q1639, h1640, h⟩ := Option.bind_eq_some_iff.mp h
      refine q_callVi (as := [qi x3, qi x1]) (c := 6) dX11_at_36 ml_X11_361 rfl rfl (hL 6 (by decide)) sh_6 rfl rfl (Nat.le_of_ble_eq_true rfl) (Stays_liesIn_ok hL d x3 x1 _ _ h1640) rfl ?_
      obtain ⟨c1641, h⟩ := qk_some h
      refine q_if_eq (tgt := 70) dX11_at_39 (by decide) rfl (qRb_R c1641)  (fun g => ?_) (fun g => ?_)
      · rw [if_pos (show q1639.1 = 0 from g)] at h
        refine q_iinc (lv' := [(3, qi (x3 + 1)), (0, qr 0), (1, qi x1), (2, qi x2)]) dX11_at_70 (by decide) rfl rfl rfl ?_
        refine q_goto (pc' := 19) dX11_at_73 (by decide) ?_
        exact q_pick [1, 2, 3, 0] rfl (ih x1 x2 (x3 + 1) _ _ h hE hR)
      · rw [if_neg (show ¬ (q1639.1 = 0) from g)] at h
        refine q_iload_n dX11_at_42 rfl rfl ?_
        refine q_aload_n dX11_at_43 rfl rfl ?_
        refine q_getA dX11_at_44 fl_X11_49 (hL 0 (by decide)) sh_0 (by decide) rfl rfl ?_
        refine q_getA dX11_at_47 fl_X11_225 (hL 6 (by decide)) sh_6 (by decide) rfl rfl ?_
        refine q_iload_n dX11_at_50 rfl rfl ?_
        obtain ⟨c1642, h⟩ := qk_some h
        refine q_iaload dX11_at_51 (hL 37 (by decide)) sh_37 (qIx_0 c1642) (qIx_1 c1642) rfl ?_
        obtain ⟨c1643, h⟩ := qk_some h
        obtain ⟨c1644, h⟩ := qk_some h
        refine q_icmp_lt (tgt := 70) dX11_at_52 (by decide) rfl (qRb_R c1643) (qRb_R c1644) (fun g => ?_) (fun g => ?_)
        · rw [if_pos (show x2 < (q1639.2 37 (Int.toNat x3)) from g)] at h
          refine q_iinc (lv' := [(3, qi (x3 + 1)), (0, qr 0), (1, qi x1), (2, qi x2)]) dX11_at_70 (by decide) rfl rfl rfl ?_
          refine q_goto (pc' := 19) dX11_at_73 (by decide) ?_
          exact q_pick [1, 2, 3, 0] rfl (ih x1 x2 (x3 + 1) _ _ h hE hR)
        · rw [if_neg (show ¬ (x2 < (q1639.2 37 (Int.toNat x3))) from g)] at h
          refine q_iload_n dX11_at_55 rfl rfl ?_
          refine q_aload_n dX11_at_56 rfl rfl ?_
          refine q_getA dX11_at_57 fl_X11_49 (hL 0 (by decide)) sh_0 (by decide) rfl rfl ?_
          refine q_getA dX11_at_60 fl_X11_364 (hL 6 (by decide)) sh_6 (by decide) rfl rfl ?_
          refine q_iload_n dX11_at_63 rfl rfl ?_
          obtain ⟨c1645, h⟩ := qk_some h
          refine q_iaload dX11_at_64 (hL 38 (by decide)) sh_38 (qIx_0 c1645) (qIx_1 c1645) rfl ?_
          obtain ⟨c1646, h⟩ := qk_some h
          obtain ⟨c1647, h⟩ := qk_some h
          refine q_icmp_gt (tgt := 70) dX11_at_65 (by decide) rfl (qRb_R c1646) (qRb_R c1647) (fun g => ?_) (fun g => ?_)
          · rw [if_pos (show (q1639.2 38 (Int.toNat x3)) < x2 from g)] at h
            refine q_iinc (lv' := [(3, qi (x3 + 1)), (0, qr 0), (1, qi x1), (2, qi x2)]) dX11_at_70 (by decide) rfl rfl rfl ?_
            refine q_goto (pc' := 19) dX11_at_73 (by decide) ?_
            exact q_pick [1, 2, 3, 0] rfl (ih x1 x2 (x3 + 1) _ _ h hE hR)
          · rw [if_neg (show ¬ ((q1639.2 38 (Int.toNat x3)) < x2) from g)] at h
            refine q_iload_n dX11_at_68 rfl rfl ?_
            cases h
            exact q_ireturn dX11_at_69 rfl (hR _ rfl)
set_option maxRecDepth 20000 in
theorem C_at_ok {X : qX} (hL : ∀ c, c < 93 → c ∈ qLs X) (d : Nat) (a1 : Int) (a2 : Int) (S : qSto) (o : (Int × qSto)) (h : C_at a1 a2 S = some o) (Q : Option qV → qSto → Prop) (hQ : Q (some (qi o.1)) o.2) : qC X (d + 2) yX11_at cX11_at 4 (some .int) [qr 0, qi a1, qi a2] S Q := by
  refine q_entry (lv := [(0, qr 0), (1, qi a1), (2, qi a2)]) pn_X11 (Nat.le_of_ble_eq_true rfl) rfl ?_
  unfold C_at at h
  refine q_iload_n dX11_at_0 rfl rfl ?_
  obtain ⟨q1622, h1623, h⟩ := Option.bind_eq_some_iff.mp h
  refine q_callSi (as := [qi a1]) dX11_at_1 ml_X11_194 rfl rfl (Nat.le_of_ble_eq_true rfl) (C_isSlot_ok hL (d + 1) a1 _ _ h1623) rfl ?_
  obtain ⟨c1624, h⟩ := qk_some h
  refine q_if_eq (tgt := 15) dX11_at_4 (by decide) rfl (qRb_R c1624)  (fun g => ?_) (fun g => ?_)
  · rw [if_pos (show q1622.1 = 0 from g)] at h
    refine q_iconst dX11_at_15 rfl rfl ?_
    cases h
    exact q_ireturn dX11_at_16 rfl hQ
  · rw [if_neg (show ¬ (q1622.1 = 0) from g)] at h
    refine q_aload_n dX11_at_7 rfl rfl ?_
    refine q_iload_n dX11_at_8 rfl rfl ?_
    obtain ⟨q1625, h1626, h⟩ := Option.bind_eq_some_iff.mp h
    refine q_callVi (as := [qi a2]) (c := 0) dX11_at_9 ml_X11_185 rfl rfl (hL 0 (by decide)) sh_0 rfl rfl (Nat.le_of_ble_eq_true rfl) (C_isMetre_ok hL (d + 1) a2 _ _ h1626) rfl ?_
    obtain ⟨c1627, h⟩ := qk_some h
    refine q_if_ne (tgt := 17) dX11_at_12 (by decide) rfl (qRb_R c1627)  (fun g => ?_) (fun g => ?_)
    · rw [if_neg (show ¬ (q1625.1 = 0) from g)] at h
      refine q_iconst dX11_at_17 rfl rfl ?_
      refine q_istore_n (lv' := [(3, qi 0), (0, qr 0), (1, qi a1), (2, qi a2)]) dX11_at_18 (by decide) rfl rfl ?_
      obtain ⟨q1648, h1649, h⟩ := Option.bind_eq_some_iff.mp h
      refine q_pick [1, 2, 3, 0] rfl (C_at_L19_ok hL d qF a1 a2 0 _ _ h1649 (fun t1650 e4146 => ?_) (fun w e4146 => ?_))
      · subst e4146
        simp only [Sum.elim_inl] at h
        refine q_bipush dX11_at_76 (by decide) rfl ?_
        cases h
        exact q_ireturn dX11_at_78 rfl hQ
      · subst e4146
        simp only [Sum.elim_inr] at h
        cases h
        exact hQ
    · rw [if_pos (show q1625.1 = 0 from g)] at h
      refine q_iconst dX11_at_15 rfl rfl ?_
      cases h
      exact q_ireturn dX11_at_16 rfl hQ
set_option maxRecDepth 20000 in
theorem C_lies_L30_ok {X : qX} (hL : ∀ c, c < 93 → c ∈ qLs X) (d : Nat) {Q : Option qV → qSto → Prop} : ∀ (n : Nat) (x1 : Int) (x2 : Int) (x3 : Int) (x4 : Int) (x5 : Int) (S : qSto) (o : (Int × Int × qSto)), C_lies_L30 n x1 x2 x3 x4 x5 S = some o → (qW X (d + 2) yX11_lies cX11_lies 7 (some .int) 85 [(2, qi x2), (3, qi o.1), (4, qi o.2.1)] [] o.2.2 Q) → qW X (d + 2) yX11_lies cX11_lies 7 (some .int) 30 [(0, qr 0), (1, qi x1), (2, qi x2), (3, qi x3), (4, qi x4), (5, qi x5)] [] S Q := by
  intro n
  induction n with
  | zero =>
    intro x1 x2 x3 x4 x5 S o h
    simp [C_lies_L30] at h
  | succ n ih =>
    intro x1 x2 x3 x4 x5 S o h hE
    rw [C_lies_L30] at h
    refine q_iload dX11_lies_30 rfl rfl ?_
    refine q_aload_n dX11_lies_32 rfl rfl ?_
    refine q_getA dX11_lies_33 fl_X11_49 (hL 0 (by decide)) sh_0 (by decide) rfl rfl ?_
    refine q_getI dX11_lies_36 fl_X11_370 (hL 6 (by decide)) sh_6 (by decide) rfl rfl ?_
    obtain ⟨c1657, h⟩ := qk_some h
    obtain ⟨c1658, h⟩ := qk_some h
    refine q_icmp_ge (tgt := 85) dX11_lies_39 (by decide) rfl (qRb_R c1657) (qRb_R c1658) (fun g => ?_) (fun g => ?_)
    · rw [if_pos (show (S 6 10) ≤ x5 from g)] at h
      cases h
      exact q_pick [2, 3, 4] rfl (hE)
    · rw [if_neg (show ¬ ((S 6 10) ≤ x5) from g)] at h
      refine q_aload_n dX11_lies_42 rfl rfl ?_
      refine q_getA dX11_lies_43 fl_X11_49 (hL 0 (by decide)) sh_0 (by decide) rfl rfl ?_
      refine q_getA dX11_lies_46 fl_X11_373 (hL 6 (by decide)) sh_6 (by decide) rfl rfl ?_
      refine q_iload dX11_lies_49 rfl rfl ?_
      obtain ⟨c1659, h⟩ := qk_some h
      refine q_iaload dX11_lies_51 (hL 44 (by decide)) sh_44 (qIx_0 c1659) (qIx_1 c1659) rfl ?_
      refine q_istore (lv' := [(6, qi (S 44 (Int.toNat x5))), (0, qr 0), (1, qi x1), (2, qi x2), (3, qi x3), (4, qi x4), (5, qi x5)]) dX11_lies_52 (by decide) rfl rfl ?_
      refine q_aload_n dX11_lies_54 rfl rfl ?_
      refine q_getA dX11_lies_55 fl_X11_49 (hL 0 (by decide)) sh_0 (by decide) rfl rfl ?_
      refine q_iload dX11_lies_58 rfl rfl ?_
      refine q_iload_n dX11_lies_60 rfl rfl ?_
      obtain ⟨q1660, h1661, h⟩ := Option.bind_eq_some_iff.mp h
      refine q_callVi (as := [qi (S 44 (Int.toNat x5)), qi x1]) (c := 6) dX11_lies_61 ml_X11_361 rfl rfl (hL 6 (by decide)) sh_6 rfl rfl (Nat.le_of_ble_eq_true rfl) (Stays_liesIn_ok hL d (S 44 (Int.toNat x5)) x1 _ _ h1661) rfl ?_
      refine q_jn (G := fun (t1666 : (Int × Int)) => qW X (d + 2) yX11_lies cX11_lies 7 (some .int) 79 [(0, qr 0), (1, qi x1), (2, qi x2), (3, qi t1666.1), (4, qi t1666.2), (5, qi x5)] [] q1660.2 Q) h (fun t1666 h => ?_) (fun t1666 h hk4147 => ?_)
      · try dsimp only at h
        refine q_iinc (lv' := [(5, qi (x5 + 1)), (0, qr 0), (1, qi x1), (2, qi x2), (3, qi t1666.1), (4, qi t1666.2)]) dX11_lies_79 (by decide) rfl rfl rfl ?_
        refine q_goto (pc' := 30) dX11_lies_82 (by decide) ?_
        exact q_pick [1, 2, 3, 4, 5, 0] rfl (ih x1 x2 t1666.1 t1666.2 (x5 + 1) _ _ h hE)
      · skip
        obtain ⟨c1662, h⟩ := qk_some h
        refine q_if_eq (tgt := 79) dX11_lies_64 (by decide) rfl (qRb_R c1662)  (fun g => ?_) (fun g => ?_)
        · rw [if_pos (show q1660.1 = 0 from g)] at h
          cases h
          exact q_pick [1, 2, 3, 4, 5, 6] rfl hk4147
        · rw [if_neg (show ¬ (q1660.1 = 0) from g)] at h
          refine q_iload_n dX11_lies_67 rfl rfl ?_
          refine q_iload_n dX11_lies_68 rfl rfl ?_
          refine q_jn (G := fun (t1665 : Int) => qW X (d + 2) yX11_lies cX11_lies 7 (some .int) 76 [(0, qr 0), (1, qi x1), (2, qi x2), (3, qi x3), (4, qi t1665), (5, qi x5)] [] q1660.2 Q) h (fun t1665 h => ?_) (fun t1665 h hk4148 => ?_)
          · try dsimp only at h
            refine q_iinc (lv' := [(3, qi (x3 + 1)), (0, qr 0), (1, qi x1), (2, qi x2), (4, qi t1665), (5, qi x5)]) dX11_lies_76 (by decide) rfl rfl rfl ?_
            cases h
            exact q_pick [1, 2, 3, 0, 4, 5] rfl hk4147
          · skip
            obtain ⟨c1663, h⟩ := qk_some h
            obtain ⟨c1664, h⟩ := qk_some h
            refine q_icmp_ne (tgt := 76) dX11_lies_69 (by decide) rfl (qRb_R c1663) (qRb_R c1664) (fun g => ?_) (fun g => ?_)
            · rw [if_neg (show ¬ (x3 = x2) from g)] at h
              cases h
              exact q_pick [1, 2, 3, 4, 5, 6] rfl hk4148
            · rw [if_pos (show x3 = x2 from g)] at h
              refine q_iload dX11_lies_72 rfl rfl ?_
              refine q_istore (lv' := [(4, qi (S 44 (Int.toNat x5))), (6, qi (S 44 (Int.toNat x5))), (0, qr 0), (1, qi x1), (2, qi x2), (3, qi x3), (5, qi x5)]) dX11_lies_74 (by decide) rfl rfl ?_
              cases h
              exact q_pick [2, 3, 4, 5, 0, 6] rfl hk4148
set_option maxRecDepth 20000 in
theorem C_lies_ok {X : qX} (hL : ∀ c, c < 93 → c ∈ qLs X) (d : Nat) (a1 : Int) (a2 : Int) (S : qSto) (o : (Int × qSto)) (h : C_lies a1 a2 S = some o) (Q : Option qV → qSto → Prop) (hQ : Q (some (qi o.1)) o.2) : qC X (d + 2) yX11_lies cX11_lies 7 (some .int) [qr 0, qi a1, qi a2] S Q := by
  refine q_entry (lv := [(0, qr 0), (1, qi a1), (2, qi a2)]) pn_X11 (Nat.le_of_ble_eq_true rfl) rfl ?_
  unfold C_lies at h
  refine q_iload_n dX11_lies_0 rfl rfl ?_
  obtain ⟨q1651, h1652, h⟩ := Option.bind_eq_some_iff.mp h
  refine q_callSi (as := [qi a1]) dX11_lies_1 ml_X11_194 rfl rfl (Nat.le_of_ble_eq_true rfl) (C_isSlot_ok hL (d + 1) a1 _ _ h1652) rfl ?_
  obtain ⟨c1653, h⟩ := qk_some h
  refine q_if_eq (tgt := 12) dX11_lies_4 (by decide) rfl (qRb_R c1653)  (fun g => ?_) (fun g => ?_)
  · rw [if_pos (show q1651.1 = 0 from g)] at h
    refine q_iconst dX11_lies_12 rfl rfl ?_
    cases h
    exact q_ireturn dX11_lies_13 rfl hQ
  · rw [if_neg (show ¬ (q1651.1 = 0) from g)] at h
    refine q_iload_n dX11_lies_7 rfl rfl ?_
    refine q_iconst dX11_lies_8 rfl rfl ?_
    obtain ⟨c1654, h⟩ := qk_some h
    refine q_icmp_ge (tgt := 14) dX11_lies_9 (by decide) rfl (qRb_R c1654) ⟨by decide, by decide⟩ (fun g => ?_) (fun g => ?_)
    · rw [if_pos (show (-1) ≤ a2 from g)] at h
      refine q_aload_n dX11_lies_14 rfl rfl ?_
      refine q_getA dX11_lies_15 fl_X11_49 (hL 0 (by decide)) sh_0 (by decide) rfl rfl ?_
      obtain ⟨q1655, h1656, h⟩ := Option.bind_eq_some_iff.mp h
      refine q_callVv (as := []) (c := 6) dX11_lies_18 ml_X11_367 rfl rfl (hL 6 (by decide)) sh_6 rfl rfl (Nat.le_of_ble_eq_true rfl) (Stays_lineUp_ok hL d _ _ h1656) rfl ?_
      refine q_iconst dX11_lies_21 rfl rfl ?_
      refine q_istore_n (lv' := [(3, qi 0), (0, qr 0), (1, qi a1), (2, qi a2)]) dX11_lies_22 (by decide) rfl rfl ?_
      refine q_bipush dX11_lies_23 (by decide) rfl ?_
      refine q_istore (lv' := [(4, qi (-2)), (3, qi 0), (0, qr 0), (1, qi a1), (2, qi a2)]) dX11_lies_25 (by decide) rfl rfl ?_
      refine q_iconst dX11_lies_27 rfl rfl ?_
      refine q_istore (lv' := [(5, qi 0), (4, qi (-2)), (3, qi 0), (0, qr 0), (1, qi a1), (2, qi a2)]) dX11_lies_28 (by decide) rfl rfl ?_
      obtain ⟨q1667, h1668, h⟩ := Option.bind_eq_some_iff.mp h
      refine q_pick [3, 4, 5, 2, 1, 0] rfl (C_lies_L30_ok hL d qF a1 a2 0 (-2) 0 _ _ h1668 ?_)
      refine q_iload_n dX11_lies_85 rfl rfl ?_
      refine q_iconst dX11_lies_86 rfl rfl ?_
      obtain ⟨c1669, h⟩ := qk_some h
      refine q_icmp_ne (tgt := 94) dX11_lies_87 (by decide) rfl (qRb_R c1669) ⟨by decide, by decide⟩ (fun g => ?_) (fun g => ?_)
      · rw [if_neg (show ¬ (a2 = (-1)) from g)] at h
        refine q_iload dX11_lies_94 rfl rfl ?_
        cases h
        exact q_ireturn dX11_lies_96 rfl hQ
      · rw [if_pos (show a2 = (-1) from g)] at h
        refine q_iload_n dX11_lies_90 rfl rfl ?_
        refine q_goto (pc' := 96) dX11_lies_91 (by decide) ?_
        cases h
        exact q_ireturn dX11_lies_96 rfl hQ
    · rw [if_neg (show ¬ ((-1) ≤ a2) from g)] at h
      refine q_iconst dX11_lies_12 rfl rfl ?_
      cases h
      exact q_ireturn dX11_lies_13 rfl hQ
set_option maxRecDepth 20000 in
theorem C_free_L37_ok {X : qX} (hL : ∀ c, c < 93 → c ∈ qLs X) (d : Nat) {Q : Option qV → qSto → Prop} : ∀ (n : Nat) (x1 : Int) (x2 : Int) (x3 : Int) (x4 : Int) (x5 : Int) (x6 : Int) (S : qSto) (o : (Int × Int × qSto)), C_free_L37 n x1 x3 x4 x5 x6 S = some o → (qW X (d + 2) yX11_free cX11_free 9 (some .int) 188 [(2, qi x2), (3, qi o.1), (4, qi o.2.1)] [] o.2.2 Q) → qW X (d + 2) yX11_free cX11_free 9 (some .int) 37 [(0, qr 0), (1, qi x1), (2, qi x2), (3, qi x3), (4, qi x4), (5, qi x5), (6, qi x6)] [] S Q := by
  intro n
  induction n with
  | zero =>
    intro x1 x2 x3 x4 x5 x6 S o h
    simp [C_free_L37] at h
  | succ n ih =>
    intro x1 x2 x3 x4 x5 x6 S o h hE
    rw [C_free_L37] at h
    refine q_iload dX11_free_37 rfl rfl ?_
    refine q_aload_n dX11_free_39 rfl rfl ?_
    refine q_getA dX11_free_40 fl_X11_49 (hL 0 (by decide)) sh_0 (by decide) rfl rfl ?_
    refine q_getI dX11_free_43 fl_X11_370 (hL 6 (by decide)) sh_6 (by decide) rfl rfl ?_
    obtain ⟨c1677, h⟩ := qk_some h
    obtain ⟨c1678, h⟩ := qk_some h
    refine q_icmp_gt (tgt := 188) dX11_free_46 (by decide) rfl (qRb_R c1677) (qRb_R c1678) (fun g => ?_) (fun g => ?_)
    · rw [if_pos (show (S 6 10) < x6 from g)] at h
      cases h
      exact q_pick [2, 3, 4] rfl (hE)
    · rw [if_neg (show ¬ ((S 6 10) < x6) from g)] at h
      refine q_iload dX11_free_49 rfl rfl ?_
      refine q_aload_n dX11_free_51 rfl rfl ?_
      refine q_getA dX11_free_52 fl_X11_49 (hL 0 (by decide)) sh_0 (by decide) rfl rfl ?_
      refine q_getI dX11_free_55 fl_X11_370 (hL 6 (by decide)) sh_6 (by decide) rfl rfl ?_
      refine q_jn (G := fun (t1681 : Int) => qW X (d + 2) yX11_free cX11_free 9 (some .int) 66 [(0, qr 0), (1, qi x1), (2, qi x2), (3, qi x3), (4, qi x4), (5, qi x5), (6, qi x6)] [qi t1681] S Q) h (fun t1681 h => ?_) (fun t1681 h hk4149 => ?_)
      · try dsimp only at h
        refine q_istore (lv' := [(7, qi t1681), (0, qr 0), (1, qi x1), (2, qi x2), (3, qi x3), (4, qi x4), (5, qi x5), (6, qi x6)]) dX11_free_66 (by decide) rfl rfl ?_
        refine q_iload dX11_free_68 rfl rfl ?_
        refine q_jn (G := fun (t1709 : (Int × Int × Int × qSto)) => qW X (d + 2) yX11_free cX11_free 9 (some .int) 182 [(0, qr 0), (1, qi x1), (2, qi x2), (3, qi t1709.1), (4, qi t1709.2.1), (5, qi t1709.2.2.1), (6, qi x6)] [] t1709.2.2.2 Q) h (fun t1709 h => ?_) (fun t1709 h hk4150 => ?_)
        · try dsimp only at h
          refine q_iinc (lv' := [(6, qi (x6 + 1)), (0, qr 0), (1, qi x1), (2, qi x2), (3, qi t1709.1), (4, qi t1709.2.1), (5, qi t1709.2.2.1)]) dX11_free_182 (by decide) rfl rfl rfl ?_
          refine q_goto (pc' := 37) dX11_free_185 (by decide) ?_
          exact q_pick [1, 2, 3, 4, 5, 6, 0] rfl (ih x1 x2 t1709.1 t1709.2.1 t1709.2.2.1 (x6 + 1) _ _ h hE)
        · skip
          obtain ⟨c1682, h⟩ := qk_some h
          refine q_if_ne (tgt := 94) dX11_free_70 (by decide) rfl (qRb_R c1682)  (fun g => ?_) (fun g => ?_)
          · rw [if_neg (show ¬ (t1681 = 0) from g)] at h
            refine q_iload dX11_free_94 rfl rfl ?_
            refine q_jn (G := fun (t1686 : Int) => qW X (d + 2) yX11_free cX11_free 9 (some .int) 129 [(0, qr 0), (1, qi x1), (2, qi x2), (3, qi x3), (4, qi x4), (5, qi x5), (6, qi x6), (7, qi t1681)] [qi t1686] S Q) h (fun t1686 h => ?_) (fun t1686 h hk4151 => ?_)
            · try dsimp only at h
              refine q_istore (lv' := [(8, qi t1686), (0, qr 0), (1, qi x1), (2, qi x2), (3, qi x3), (4, qi x4), (5, qi x5), (6, qi x6), (7, qi t1681)]) dX11_free_129 (by decide) rfl rfl ?_
              refine q_iload dX11_free_131 rfl rfl ?_
              refine q_iload dX11_free_133 rfl rfl ?_
              refine q_isub dX11_free_135 rfl ?_
              refine q_iload_n dX11_free_136 rfl rfl ?_
              refine q_jn (G := fun (t1689 : (Int × Int)) => qW X (d + 2) yX11_free cX11_free 9 (some .int) 150 [(0, qr 0), (1, qi x1), (2, qi x2), (3, qi t1689.1), (4, qi t1689.2), (6, qi x6), (7, qi t1681), (8, qi t1686)] [] S Q) h (fun t1689 h => ?_) (fun t1689 h hk4152 => ?_)
              · try dsimp only at h
                refine q_iload dX11_free_150 rfl rfl ?_
                refine q_jn (G := fun (t1693 : Int) => qW X (d + 2) yX11_free cX11_free 9 (some .int) 180 [(0, qr 0), (1, qi x1), (2, qi x2), (3, qi t1689.1), (4, qi t1689.2), (6, qi x6)] [qi t1693] S Q) h (fun t1693 h => ?_) (fun t1693 h hk4153 => ?_)
                · try dsimp only at h
                  refine q_istore (lv' := [(5, qi t1693), (0, qr 0), (1, qi x1), (2, qi x2), (3, qi t1689.1), (4, qi t1689.2), (6, qi x6)]) dX11_free_180 (by decide) rfl rfl ?_
                  cases h
                  exact q_pick [1, 2, 3, 4, 5, 0, 6] rfl hk4150
                · skip
                  obtain ⟨c1690, h⟩ := qk_some h
                  refine q_if_eq (tgt := 160) dX11_free_152 (by decide) rfl (qRb_R c1690)  (fun g => ?_) (fun g => ?_)
                  · rw [if_pos (show t1681 = 0 from g)] at h
                    refine q_aload_n dX11_free_160 rfl rfl ?_
                    refine q_getA dX11_free_161 fl_X11_49 (hL 0 (by decide)) sh_0 (by decide) rfl rfl ?_
                    refine q_getA dX11_free_164 fl_X11_364 (hL 6 (by decide)) sh_6 (by decide) rfl rfl ?_
                    refine q_aload_n dX11_free_167 rfl rfl ?_
                    refine q_getA dX11_free_168 fl_X11_49 (hL 0 (by decide)) sh_0 (by decide) rfl rfl ?_
                    refine q_getA dX11_free_171 fl_X11_373 (hL 6 (by decide)) sh_6 (by decide) rfl rfl ?_
                    refine q_iload dX11_free_174 rfl rfl ?_
                    obtain ⟨c1691, h⟩ := qk_some h
                    refine q_iaload dX11_free_176 (hL 44 (by decide)) sh_44 (qIx_0 c1691) (qIx_1 c1691) rfl ?_
                    obtain ⟨c1692, h⟩ := qk_some h
                    refine q_iaload dX11_free_177 (hL 38 (by decide)) sh_38 (qIx_0 c1692) (qIx_1 c1692) rfl ?_
                    refine q_iconst dX11_free_178 rfl rfl ?_
                    refine q_iadd dX11_free_179 rfl ?_
                    cases h
                    exact q_pick [0, 1, 2, 3, 4, 5] rfl hk4153
                  · rw [if_neg (show ¬ (t1681 = 0) from g)] at h
                    refine q_iload dX11_free_155 rfl rfl ?_
                    refine q_goto (pc' := 180) dX11_free_157 (by decide) ?_
                    cases h
                    exact q_pick [0, 1, 2, 3, 4, 5] rfl hk4153
              · skip
                obtain ⟨c1687, h⟩ := qk_some h
                obtain ⟨c1688, h⟩ := qk_some h
                refine q_icmp_le (tgt := 150) dX11_free_137 (by decide) rfl (qRb_R c1687) (qRb_R c1688) (fun g => ?_) (fun g => ?_)
                · rw [if_pos (show (t1686 - x5) ≤ x3 from g)] at h
                  cases h
                  exact q_pick [1, 2, 3, 4, 5, 7, 8, 0] rfl hk4152
                · rw [if_neg (show ¬ ((t1686 - x5) ≤ x3) from g)] at h
                  refine q_iload dX11_free_140 rfl rfl ?_
                  refine q_iload dX11_free_142 rfl rfl ?_
                  refine q_isub dX11_free_144 rfl ?_
                  refine q_istore_n (lv' := [(3, qi (t1686 - x5)), (8, qi t1686), (0, qr 0), (1, qi x1), (2, qi x2), (4, qi x4), (5, qi x5), (6, qi x6), (7, qi t1681)]) dX11_free_145 (by decide) rfl rfl ?_
                  refine q_iload dX11_free_146 rfl rfl ?_
                  refine q_istore (lv' := [(4, qi x5), (3, qi (t1686 - x5)), (8, qi t1686), (0, qr 0), (1, qi x1), (2, qi x2), (5, qi x5), (6, qi x6), (7, qi t1681)]) dX11_free_148 (by decide) rfl rfl ?_
                  cases h
                  exact q_pick [3, 4, 5, 1, 0, 7, 8, 2] rfl hk4152
            · skip
              obtain ⟨c1683, h⟩ := qk_some h
              refine q_if_eq (tgt := 111) dX11_free_96 (by decide) rfl (qRb_R c1683)  (fun g => ?_) (fun g => ?_)
              · rw [if_pos (show t1681 = 0 from g)] at h
                refine q_aload_n dX11_free_111 rfl rfl ?_
                refine q_getA dX11_free_112 fl_X11_49 (hL 0 (by decide)) sh_0 (by decide) rfl rfl ?_
                refine q_getA dX11_free_115 fl_X11_225 (hL 6 (by decide)) sh_6 (by decide) rfl rfl ?_
                refine q_aload_n dX11_free_118 rfl rfl ?_
                refine q_getA dX11_free_119 fl_X11_49 (hL 0 (by decide)) sh_0 (by decide) rfl rfl ?_
                refine q_getA dX11_free_122 fl_X11_373 (hL 6 (by decide)) sh_6 (by decide) rfl rfl ?_
                refine q_iload dX11_free_125 rfl rfl ?_
                obtain ⟨c1684, h⟩ := qk_some h
                refine q_iaload dX11_free_127 (hL 44 (by decide)) sh_44 (qIx_0 c1684) (qIx_1 c1684) rfl ?_
                obtain ⟨c1685, h⟩ := qk_some h
                refine q_iaload dX11_free_128 (hL 37 (by decide)) sh_37 (qIx_0 c1685) (qIx_1 c1685) rfl ?_
                cases h
                exact q_pick [1, 2, 3, 4, 5, 6, 7, 0] rfl hk4151
              · rw [if_neg (show ¬ (t1681 = 0) from g)] at h
                refine q_aload_n dX11_free_99 rfl rfl ?_
                refine q_getA dX11_free_100 fl_X11_16 (hL 0 (by decide)) sh_0 (by decide) rfl rfl ?_
                refine q_getA dX11_free_103 fl_X11_146 (hL 2 (by decide)) sh_2 (by decide) rfl rfl ?_
                refine q_iconst dX11_free_106 rfl rfl ?_
                refine q_iaload dX11_free_107 (hL 15 (by decide)) sh_15 (by decide) (by decide) rfl ?_
                refine q_goto (pc' := 129) dX11_free_108 (by decide) ?_
                cases h
                exact q_pick [1, 2, 3, 4, 5, 6, 7, 0] rfl hk4151
          · rw [if_pos (show t1681 = 0 from g)] at h
            refine q_aload_n dX11_free_73 rfl rfl ?_
            refine q_getA dX11_free_74 fl_X11_49 (hL 0 (by decide)) sh_0 (by decide) rfl rfl ?_
            refine q_aload_n dX11_free_77 rfl rfl ?_
            refine q_getA dX11_free_78 fl_X11_49 (hL 0 (by decide)) sh_0 (by decide) rfl rfl ?_
            refine q_getA dX11_free_81 fl_X11_373 (hL 6 (by decide)) sh_6 (by decide) rfl rfl ?_
            refine q_iload dX11_free_84 rfl rfl ?_
            obtain ⟨c1694, h⟩ := qk_some h
            refine q_iaload dX11_free_86 (hL 44 (by decide)) sh_44 (qIx_0 c1694) (qIx_1 c1694) rfl ?_
            refine q_iload_n dX11_free_87 rfl rfl ?_
            obtain ⟨q1695, h1696, h⟩ := Option.bind_eq_some_iff.mp h
            refine q_callVi (as := [qi (S 44 (Int.toNat x6)), qi x1]) (c := 6) dX11_free_88 ml_X11_361 rfl rfl (hL 6 (by decide)) sh_6 rfl rfl (Nat.le_of_ble_eq_true rfl) (Stays_liesIn_ok hL d (S 44 (Int.toNat x6)) x1 _ _ h1696) rfl ?_
            obtain ⟨c1697, h⟩ := qk_some h
            refine q_if_eq (tgt := 182) dX11_free_91 (by decide) rfl (qRb_R c1697)  (fun g => ?_) (fun g => ?_)
            · rw [if_pos (show q1695.1 = 0 from g)] at h
              cases h
              exact q_pick [1, 2, 3, 4, 5, 6, 7] rfl hk4150
            · rw [if_neg (show ¬ (q1695.1 = 0) from g)] at h
              refine q_iload dX11_free_94 rfl rfl ?_
              refine q_jn (G := fun (t1701 : Int) => qW X (d + 2) yX11_free cX11_free 9 (some .int) 129 [(0, qr 0), (1, qi x1), (2, qi x2), (3, qi x3), (4, qi x4), (5, qi x5), (6, qi x6), (7, qi t1681)] [qi t1701] q1695.2 Q) h (fun t1701 h => ?_) (fun t1701 h hk4154 => ?_)
              · try dsimp only at h
                refine q_istore (lv' := [(8, qi t1701), (0, qr 0), (1, qi x1), (2, qi x2), (3, qi x3), (4, qi x4), (5, qi x5), (6, qi x6), (7, qi t1681)]) dX11_free_129 (by decide) rfl rfl ?_
                refine q_iload dX11_free_131 rfl rfl ?_
                refine q_iload dX11_free_133 rfl rfl ?_
                refine q_isub dX11_free_135 rfl ?_
                refine q_iload_n dX11_free_136 rfl rfl ?_
                refine q_jn (G := fun (t1704 : (Int × Int)) => qW X (d + 2) yX11_free cX11_free 9 (some .int) 150 [(0, qr 0), (1, qi x1), (2, qi x2), (3, qi t1704.1), (4, qi t1704.2), (6, qi x6), (7, qi t1681), (8, qi t1701)] [] q1695.2 Q) h (fun t1704 h => ?_) (fun t1704 h hk4155 => ?_)
                · try dsimp only at h
                  refine q_iload dX11_free_150 rfl rfl ?_
                  refine q_jn (G := fun (t1708 : Int) => qW X (d + 2) yX11_free cX11_free 9 (some .int) 180 [(0, qr 0), (1, qi x1), (2, qi x2), (3, qi t1704.1), (4, qi t1704.2), (6, qi x6)] [qi t1708] q1695.2 Q) h (fun t1708 h => ?_) (fun t1708 h hk4156 => ?_)
                  · try dsimp only at h
                    refine q_istore (lv' := [(5, qi t1708), (0, qr 0), (1, qi x1), (2, qi x2), (3, qi t1704.1), (4, qi t1704.2), (6, qi x6)]) dX11_free_180 (by decide) rfl rfl ?_
                    cases h
                    exact q_pick [1, 2, 3, 4, 5, 0, 6] rfl hk4150
                  · skip
                    obtain ⟨c1705, h⟩ := qk_some h
                    refine q_if_eq (tgt := 160) dX11_free_152 (by decide) rfl (qRb_R c1705)  (fun g => ?_) (fun g => ?_)
                    · rw [if_pos (show t1681 = 0 from g)] at h
                      refine q_aload_n dX11_free_160 rfl rfl ?_
                      refine q_getA dX11_free_161 fl_X11_49 (hL 0 (by decide)) sh_0 (by decide) rfl rfl ?_
                      refine q_getA dX11_free_164 fl_X11_364 (hL 6 (by decide)) sh_6 (by decide) rfl rfl ?_
                      refine q_aload_n dX11_free_167 rfl rfl ?_
                      refine q_getA dX11_free_168 fl_X11_49 (hL 0 (by decide)) sh_0 (by decide) rfl rfl ?_
                      refine q_getA dX11_free_171 fl_X11_373 (hL 6 (by decide)) sh_6 (by decide) rfl rfl ?_
                      refine q_iload dX11_free_174 rfl rfl ?_
                      obtain ⟨c1706, h⟩ := qk_some h
                      refine q_iaload dX11_free_176 (hL 44 (by decide)) sh_44 (qIx_0 c1706) (qIx_1 c1706) rfl ?_
                      obtain ⟨c1707, h⟩ := qk_some h
                      refine q_iaload dX11_free_177 (hL 38 (by decide)) sh_38 (qIx_0 c1707) (qIx_1 c1707) rfl ?_
                      refine q_iconst dX11_free_178 rfl rfl ?_
                      refine q_iadd dX11_free_179 rfl ?_
                      cases h
                      exact q_pick [0, 1, 2, 3, 4, 5] rfl hk4156
                    · rw [if_neg (show ¬ (t1681 = 0) from g)] at h
                      refine q_iload dX11_free_155 rfl rfl ?_
                      refine q_goto (pc' := 180) dX11_free_157 (by decide) ?_
                      cases h
                      exact q_pick [0, 1, 2, 3, 4, 5] rfl hk4156
                · skip
                  obtain ⟨c1702, h⟩ := qk_some h
                  obtain ⟨c1703, h⟩ := qk_some h
                  refine q_icmp_le (tgt := 150) dX11_free_137 (by decide) rfl (qRb_R c1702) (qRb_R c1703) (fun g => ?_) (fun g => ?_)
                  · rw [if_pos (show (t1701 - x5) ≤ x3 from g)] at h
                    cases h
                    exact q_pick [1, 2, 3, 4, 5, 7, 8, 0] rfl hk4155
                  · rw [if_neg (show ¬ ((t1701 - x5) ≤ x3) from g)] at h
                    refine q_iload dX11_free_140 rfl rfl ?_
                    refine q_iload dX11_free_142 rfl rfl ?_
                    refine q_isub dX11_free_144 rfl ?_
                    refine q_istore_n (lv' := [(3, qi (t1701 - x5)), (8, qi t1701), (0, qr 0), (1, qi x1), (2, qi x2), (4, qi x4), (5, qi x5), (6, qi x6), (7, qi t1681)]) dX11_free_145 (by decide) rfl rfl ?_
                    refine q_iload dX11_free_146 rfl rfl ?_
                    refine q_istore (lv' := [(4, qi x5), (3, qi (t1701 - x5)), (8, qi t1701), (0, qr 0), (1, qi x1), (2, qi x2), (5, qi x5), (6, qi x6), (7, qi t1681)]) dX11_free_148 (by decide) rfl rfl ?_
                    cases h
                    exact q_pick [3, 4, 5, 1, 0, 7, 8, 2] rfl hk4155
              · skip
                obtain ⟨c1698, h⟩ := qk_some h
                refine q_if_eq (tgt := 111) dX11_free_96 (by decide) rfl (qRb_R c1698)  (fun g => ?_) (fun g => ?_)
                · rw [if_pos (show t1681 = 0 from g)] at h
                  refine q_aload_n dX11_free_111 rfl rfl ?_
                  refine q_getA dX11_free_112 fl_X11_49 (hL 0 (by decide)) sh_0 (by decide) rfl rfl ?_
                  refine q_getA dX11_free_115 fl_X11_225 (hL 6 (by decide)) sh_6 (by decide) rfl rfl ?_
                  refine q_aload_n dX11_free_118 rfl rfl ?_
                  refine q_getA dX11_free_119 fl_X11_49 (hL 0 (by decide)) sh_0 (by decide) rfl rfl ?_
                  refine q_getA dX11_free_122 fl_X11_373 (hL 6 (by decide)) sh_6 (by decide) rfl rfl ?_
                  refine q_iload dX11_free_125 rfl rfl ?_
                  obtain ⟨c1699, h⟩ := qk_some h
                  refine q_iaload dX11_free_127 (hL 44 (by decide)) sh_44 (qIx_0 c1699) (qIx_1 c1699) rfl ?_
                  obtain ⟨c1700, h⟩ := qk_some h
                  refine q_iaload dX11_free_128 (hL 37 (by decide)) sh_37 (qIx_0 c1700) (qIx_1 c1700) rfl ?_
                  cases h
                  exact q_pick [1, 2, 3, 4, 5, 6, 7, 0] rfl hk4154
                · rw [if_neg (show ¬ (t1681 = 0) from g)] at h
                  refine q_aload_n dX11_free_99 rfl rfl ?_
                  refine q_getA dX11_free_100 fl_X11_16 (hL 0 (by decide)) sh_0 (by decide) rfl rfl ?_
                  refine q_getA dX11_free_103 fl_X11_146 (hL 2 (by decide)) sh_2 (by decide) rfl rfl ?_
                  refine q_iconst dX11_free_106 rfl rfl ?_
                  refine q_iaload dX11_free_107 (hL 15 (by decide)) sh_15 (by decide) (by decide) rfl ?_
                  refine q_goto (pc' := 129) dX11_free_108 (by decide) ?_
                  cases h
                  exact q_pick [1, 2, 3, 4, 5, 6, 7, 0] rfl hk4154
      · skip
        obtain ⟨c1679, h⟩ := qk_some h
        obtain ⟨c1680, h⟩ := qk_some h
        refine q_icmp_ne (tgt := 65) dX11_free_58 (by decide) rfl (qRb_R c1679) (qRb_R c1680) (fun g => ?_) (fun g => ?_)
        · rw [if_neg (show ¬ (x6 = (S 6 10)) from g)] at h
          refine q_iconst dX11_free_65 rfl rfl ?_
          cases h
          exact q_pick [0, 1, 2, 3, 4, 5, 6] rfl hk4149
        · rw [if_pos (show x6 = (S 6 10) from g)] at h
          refine q_iconst dX11_free_61 rfl rfl ?_
          refine q_goto (pc' := 66) dX11_free_62 (by decide) ?_
          cases h
          exact q_pick [0, 1, 2, 3, 4, 5, 6] rfl hk4149
set_option maxRecDepth 20000 in
theorem C_free_ok {X : qX} (hL : ∀ c, c < 93 → c ∈ qLs X) (d : Nat) (a1 : Int) (a2 : Int) (S : qSto) (o : (Int × qSto)) (h : C_free a1 a2 S = some o) (Q : Option qV → qSto → Prop) (hQ : Q (some (qi o.1)) o.2) : qC X (d + 2) yX11_free cX11_free 9 (some .int) [qr 0, qi a1, qi a2] S Q := by
  refine q_entry (lv := [(0, qr 0), (1, qi a1), (2, qi a2)]) pn_X11 (Nat.le_of_ble_eq_true rfl) rfl ?_
  unfold C_free at h
  refine q_iload_n dX11_free_0 rfl rfl ?_
  obtain ⟨q1670, h1671, h⟩ := Option.bind_eq_some_iff.mp h
  refine q_callSi (as := [qi a1]) dX11_free_1 ml_X11_194 rfl rfl (Nat.le_of_ble_eq_true rfl) (C_isSlot_ok hL (d + 1) a1 _ _ h1671) rfl ?_
  obtain ⟨c1672, h⟩ := qk_some h
  refine q_if_eq (tgt := 16) dX11_free_4 (by decide) rfl (qRb_R c1672)  (fun g => ?_) (fun g => ?_)
  · rw [if_pos (show q1670.1 = 0 from g)] at h
    refine q_iconst dX11_free_16 rfl rfl ?_
    cases h
    exact q_ireturn dX11_free_17 rfl hQ
  · rw [if_neg (show ¬ (q1670.1 = 0) from g)] at h
    refine q_iload_n dX11_free_7 rfl rfl ?_
    obtain ⟨c1673, h⟩ := qk_some h
    refine q_if_lt (tgt := 16) dX11_free_8 (by decide) rfl (qRb_R c1673)  (fun g => ?_) (fun g => ?_)
    · rw [if_pos (show a2 < 0 from g)] at h
      refine q_iconst dX11_free_16 rfl rfl ?_
      cases h
      exact q_ireturn dX11_free_17 rfl hQ
    · rw [if_neg (show ¬ (a2 < 0) from g)] at h
      refine q_iload_n dX11_free_11 rfl rfl ?_
      refine q_iconst dX11_free_12 rfl rfl ?_
      obtain ⟨c1674, h⟩ := qk_some h
      refine q_icmp_le (tgt := 18) dX11_free_13 (by decide) rfl (qRb_R c1674) ⟨by decide, by decide⟩ (fun g => ?_) (fun g => ?_)
      · rw [if_pos (show a2 ≤ 1 from g)] at h
        refine q_aload_n dX11_free_18 rfl rfl ?_
        refine q_getA dX11_free_19 fl_X11_49 (hL 0 (by decide)) sh_0 (by decide) rfl rfl ?_
        obtain ⟨q1675, h1676, h⟩ := Option.bind_eq_some_iff.mp h
        refine q_callVv (as := []) (c := 6) dX11_free_22 ml_X11_367 rfl rfl (hL 6 (by decide)) sh_6 rfl rfl (Nat.le_of_ble_eq_true rfl) (Stays_lineUp_ok hL d _ _ h1676) rfl ?_
        refine q_iconst dX11_free_25 rfl rfl ?_
        refine q_istore_n (lv' := [(3, qi 0), (0, qr 0), (1, qi a1), (2, qi a2)]) dX11_free_26 (by decide) rfl rfl ?_
        refine q_bipush dX11_free_27 (by decide) rfl ?_
        refine q_istore (lv' := [(4, qi (-2)), (3, qi 0), (0, qr 0), (1, qi a1), (2, qi a2)]) dX11_free_29 (by decide) rfl rfl ?_
        refine q_iconst dX11_free_31 rfl rfl ?_
        refine q_istore (lv' := [(5, qi 0), (4, qi (-2)), (3, qi 0), (0, qr 0), (1, qi a1), (2, qi a2)]) dX11_free_32 (by decide) rfl rfl ?_
        refine q_iconst dX11_free_34 rfl rfl ?_
        refine q_istore (lv' := [(6, qi 0), (5, qi 0), (4, qi (-2)), (3, qi 0), (0, qr 0), (1, qi a1), (2, qi a2)]) dX11_free_35 (by decide) rfl rfl ?_
        obtain ⟨q1710, h1711, h⟩ := Option.bind_eq_some_iff.mp h
        refine q_pick [4, 5, 6, 3, 2, 1, 0] rfl (C_free_L37_ok hL d qF a1 a2 0 (-2) 0 0 _ _ h1711 ?_)
        refine q_iload_n dX11_free_188 rfl rfl ?_
        obtain ⟨c1712, h⟩ := qk_some h
        refine q_if_ne (tgt := 196) dX11_free_189 (by decide) rfl (qRb_R c1712)  (fun g => ?_) (fun g => ?_)
        · rw [if_neg (show ¬ (a2 = 0) from g)] at h
          refine q_iload dX11_free_196 rfl rfl ?_
          cases h
          exact q_ireturn dX11_free_198 rfl hQ
        · rw [if_pos (show a2 = 0 from g)] at h
          refine q_iload_n dX11_free_192 rfl rfl ?_
          refine q_goto (pc' := 198) dX11_free_193 (by decide) ?_
          cases h
          exact q_ireturn dX11_free_198 rfl hQ
      · rw [if_neg (show ¬ (a2 ≤ 1) from g)] at h
        refine q_iconst dX11_free_16 rfl rfl ?_
        cases h
        exact q_ireturn dX11_free_17 rfl hQ
set_option maxRecDepth 20000 in
theorem C_works_ok {X : qX} (hL : ∀ c, c < 93 → c ∈ qLs X) (d : Nat) (a1 : Int) (a2 : Int) (S : qSto) (o : (Int × qSto)) (h : C_works a1 a2 S = some o) (Q : Option qV → qSto → Prop) (hQ : Q (some (qi o.1)) o.2) : qC X (d + 2) yX11_works cX11_works 4 (some .int) [qr 0, qi a1, qi a2] S Q := by
  refine q_entry (lv := [(0, qr 0), (1, qi a1), (2, qi a2)]) pn_X11 (Nat.le_of_ble_eq_true rfl) rfl ?_
  unfold C_works at h
  refine q_aload_n dX11_works_0 rfl rfl ?_
  refine q_iload_n dX11_works_1 rfl rfl ?_
  obtain ⟨q1713, h1714, h⟩ := Option.bind_eq_some_iff.mp h
  refine q_callVi (as := [qi a1]) (c := 0) dX11_works_2 ml_X11_207 rfl rfl (hL 0 (by decide)) sh_0 rfl rfl (Nat.le_of_ble_eq_true rfl) (C_isCrane_ok hL (d + 1) a1 _ _ h1714) rfl ?_
  obtain ⟨c1715, h⟩ := qk_some h
  refine q_if_eq (tgt := 15) dX11_works_5 (by decide) rfl (qRb_R c1715)  (fun g => ?_) (fun g => ?_)
  · rw [if_pos (show q1713.1 = 0 from g)] at h
    refine q_iconst dX11_works_15 rfl rfl ?_
    cases h
    exact q_ireturn dX11_works_16 rfl hQ
  · rw [if_neg (show ¬ (q1713.1 = 0) from g)] at h
    refine q_iload_n dX11_works_8 rfl rfl ?_
    obtain ⟨q1716, h1717, h⟩ := Option.bind_eq_some_iff.mp h
    refine q_callSi (as := [qi a2]) dX11_works_9 ml_X11_194 rfl rfl (Nat.le_of_ble_eq_true rfl) (C_isSlot_ok hL (d + 1) a2 _ _ h1717) rfl ?_
    obtain ⟨c1718, h⟩ := qk_some h
    refine q_if_ne (tgt := 17) dX11_works_12 (by decide) rfl (qRb_R c1718)  (fun g => ?_) (fun g => ?_)
    · rw [if_neg (show ¬ (q1716.1 = 0) from g)] at h
      refine q_aload_n dX11_works_17 rfl rfl ?_
      refine q_getA dX11_works_18 fl_X11_49 (hL 0 (by decide)) sh_0 (by decide) rfl rfl ?_
      obtain ⟨q1719, h1720, h⟩ := Option.bind_eq_some_iff.mp h
      refine q_callVv (as := []) (c := 6) dX11_works_21 ml_X11_367 rfl rfl (hL 6 (by decide)) sh_6 rfl rfl (Nat.le_of_ble_eq_true rfl) (Stays_lineUp_ok hL d _ _ h1720) rfl ?_
      refine q_aload_n dX11_works_24 rfl rfl ?_
      refine q_getA dX11_works_25 fl_X11_58 (hL 0 (by decide)) sh_0 (by decide) rfl rfl ?_
      refine q_iload_n dX11_works_28 rfl rfl ?_
      refine q_iconst dX11_works_29 rfl rfl ?_
      obtain ⟨q1721, h1722, h⟩ := Option.bind_eq_some_iff.mp h
      refine q_callVi (as := [qi a2, qi (-1)]) (c := 7) dX11_works_30 ml_X11_376 rfl rfl (hL 7 (by decide)) sh_7 rfl rfl (Nat.le_of_ble_eq_true rfl) (Dealer_deal_ok hL d a2 (-1) _ _ h1722) rfl ?_
      refine q_popI dX11_works_33 rfl ?_
      refine q_aload_n dX11_works_34 rfl rfl ?_
      refine q_getA dX11_works_35 fl_X11_58 (hL 0 (by decide)) sh_0 (by decide) rfl rfl ?_
      refine q_getA dX11_works_38 fl_X11_379 (hL 7 (by decide)) sh_7 (by decide) rfl rfl ?_
      refine q_iload_n dX11_works_41 rfl rfl ?_
      obtain ⟨c1723, h⟩ := qk_some h
      refine q_iaload dX11_works_42 (hL 45 (by decide)) sh_45 (qIx_0 c1723) (qIx_1 c1723) rfl ?_
      refine q_istore_n (lv' := [(3, qi (q1721.2 45 (Int.toNat a1))), (0, qr 0), (1, qi a1), (2, qi a2)]) dX11_works_43 (by decide) rfl rfl ?_
      refine q_iload_n dX11_works_44 rfl rfl ?_
      refine q_iconst dX11_works_45 rfl rfl ?_
      obtain ⟨c1724, h⟩ := qk_some h
      refine q_icmp_ne (tgt := 54) dX11_works_46 (by decide) rfl (qRb_R c1724) ⟨by decide, by decide⟩ (fun g => ?_) (fun g => ?_)
      · rw [if_neg (show ¬ ((q1721.2 45 (Int.toNat a1)) = (-1)) from g)] at h
        refine q_iload_n dX11_works_54 rfl rfl ?_
        cases h
        exact q_ireturn dX11_works_55 rfl hQ
      · rw [if_pos (show (q1721.2 45 (Int.toNat a1)) = (-1) from g)] at h
        refine q_bipush dX11_works_49 (by decide) rfl ?_
        refine q_goto (pc' := 55) dX11_works_51 (by decide) ?_
        cases h
        exact q_ireturn dX11_works_55 rfl hQ
    · rw [if_pos (show q1716.1 = 0 from g)] at h
      refine q_iconst dX11_works_15 rfl rfl ?_
      cases h
      exact q_ireturn dX11_works_16 rfl hQ
set_option maxRecDepth 20000 in
theorem C_hours_L21_ok {X : qX} (hL : ∀ c, c < 93 → c ∈ qLs X) (d : Nat) {Q : Option qV → qSto → Prop} : ∀ (n : Nat) (x1 : Int) (x2 : Int) (x3 : Int) (S : qSto) (o : (Int × qSto)), C_hours_L21 n x1 x2 x3 S = some o → (qW X (d + 2) yX11_hours cX11_hours 4 (some .int) 77 [(2, qi o.1)] [] o.2 Q) → qW X (d + 2) yX11_hours cX11_hours 4 (some .int) 21 [(0, qr 0), (1, qi x1), (2, qi x2), (3, qi x3)] [] S Q := by
  intro n
  induction n with
  | zero =>
    intro x1 x2 x3 S o h
    simp [C_hours_L21] at h
  | succ n ih =>
    intro x1 x2 x3 S o h hE
    rw [C_hours_L21] at h
    refine q_iload_n dX11_hours_21 rfl rfl ?_
    refine q_sipush dX11_hours_22 (by decide) rfl ?_
    obtain ⟨c1730, h⟩ := qk_some h
    refine q_icmp_ge (tgt := 77) dX11_hours_25 (by decide) rfl (qRb_R c1730) ⟨by decide, by decide⟩ (fun g => ?_) (fun g => ?_)
    · rw [if_pos (show 336 ≤ x3 from g)] at h
      cases h
      exact q_pick [2] rfl (hE)
    · rw [if_neg (show ¬ (336 ≤ x3) from g)] at h
      refine q_aload_n dX11_hours_28 rfl rfl ?_
      refine q_getA dX11_hours_29 fl_X11_49 (hL 0 (by decide)) sh_0 (by decide) rfl rfl ?_
      refine q_getA dX11_hours_32 fl_X11_382 (hL 6 (by decide)) sh_6 (by decide) rfl rfl ?_
      refine q_iload_n dX11_hours_35 rfl rfl ?_
      obtain ⟨c1731, h⟩ := qk_some h
      refine q_iaload dX11_hours_36 (hL 43 (by decide)) sh_43 (qIx_0 c1731) (qIx_1 c1731) rfl ?_
      refine q_jn (G := fun (t1738 : (Int × qSto)) => qW X (d + 2) yX11_hours cX11_hours 4 (some .int) 71 [(0, qr 0), (1, qi x1), (2, qi t1738.1), (3, qi x3)] [] t1738.2 Q) h (fun t1738 h => ?_) (fun t1738 h hk4157 => ?_)
      · try dsimp only at h
        refine q_iinc (lv' := [(3, qi (x3 + 1)), (0, qr 0), (1, qi x1), (2, qi t1738.1)]) dX11_hours_71 (by decide) rfl rfl rfl ?_
        refine q_goto (pc' := 21) dX11_hours_74 (by decide) ?_
        exact q_pick [1, 2, 3, 0] rfl (ih x1 t1738.1 (x3 + 1) _ _ h hE)
      · skip
        obtain ⟨c1732, h⟩ := qk_some h
        refine q_if_le (tgt := 71) dX11_hours_37 (by decide) rfl (qRb_R c1732)  (fun g => ?_) (fun g => ?_)
        · rw [if_pos (show (S 43 (Int.toNat x3)) ≤ 0 from g)] at h
          cases h
          exact q_pick [0, 1, 2, 3] rfl hk4157
        · rw [if_neg (show ¬ ((S 43 (Int.toNat x3)) ≤ 0) from g)] at h
          refine q_aload_n dX11_hours_40 rfl rfl ?_
          refine q_getA dX11_hours_41 fl_X11_58 (hL 0 (by decide)) sh_0 (by decide) rfl rfl ?_
          refine q_iload_n dX11_hours_44 rfl rfl ?_
          refine q_iconst dX11_hours_45 rfl rfl ?_
          obtain ⟨q1733, h1734, h⟩ := Option.bind_eq_some_iff.mp h
          refine q_callVi (as := [qi x3, qi (-1)]) (c := 7) dX11_hours_46 ml_X11_376 rfl rfl (hL 7 (by decide)) sh_7 rfl rfl (Nat.le_of_ble_eq_true rfl) (Dealer_deal_ok hL d x3 (-1) _ _ h1734) rfl ?_
          refine q_popI dX11_hours_49 rfl ?_
          refine q_iload_n dX11_hours_50 rfl rfl ?_
          refine q_aload_n dX11_hours_51 rfl rfl ?_
          refine q_getA dX11_hours_52 fl_X11_58 (hL 0 (by decide)) sh_0 (by decide) rfl rfl ?_
          refine q_getA dX11_hours_55 fl_X11_379 (hL 7 (by decide)) sh_7 (by decide) rfl rfl ?_
          refine q_iload_n dX11_hours_58 rfl rfl ?_
          obtain ⟨c1735, h⟩ := qk_some h
          refine q_iaload dX11_hours_59 (hL 45 (by decide)) sh_45 (qIx_0 c1735) (qIx_1 c1735) rfl ?_
          refine q_iconst dX11_hours_60 rfl rfl ?_
          refine q_jn (G := fun (t1737 : Int) => qW X (d + 2) yX11_hours cX11_hours 4 (some .int) 69 [(0, qr 0), (1, qi x1), (3, qi x3)] [qi t1737, qi x2] q1733.2 Q) h (fun t1737 h => ?_) (fun t1737 h hk4158 => ?_)
          · try dsimp only at h
            refine q_iadd dX11_hours_69 rfl ?_
            refine q_istore_n (lv' := [(2, qi (x2 + t1737)), (0, qr 0), (1, qi x1), (3, qi x3)]) dX11_hours_70 (by decide) rfl rfl ?_
            cases h
            exact q_pick [1, 2, 0, 3] rfl hk4157
          · skip
            obtain ⟨c1736, h⟩ := qk_some h
            refine q_icmp_ne (tgt := 68) dX11_hours_61 (by decide) rfl (qRb_R c1736) ⟨by decide, by decide⟩ (fun g => ?_) (fun g => ?_)
            · rw [if_neg (show ¬ ((q1733.2 45 (Int.toNat x1)) = (-1)) from g)] at h
              refine q_iconst dX11_hours_68 rfl rfl ?_
              cases h
              exact q_pick [0, 1, 3] rfl hk4158
            · rw [if_pos (show (q1733.2 45 (Int.toNat x1)) = (-1) from g)] at h
              refine q_iconst dX11_hours_64 rfl rfl ?_
              refine q_goto (pc' := 69) dX11_hours_65 (by decide) ?_
              cases h
              exact q_pick [0, 1, 3] rfl hk4158
set_option maxRecDepth 20000 in
theorem C_hours_ok {X : qX} (hL : ∀ c, c < 93 → c ∈ qLs X) (d : Nat) (a1 : Int) (S : qSto) (o : (Int × qSto)) (h : C_hours a1 S = some o) (Q : Option qV → qSto → Prop) (hQ : Q (some (qi o.1)) o.2) : qC X (d + 2) yX11_hours cX11_hours 4 (some .int) [qr 0, qi a1] S Q := by
  refine q_entry (lv := [(0, qr 0), (1, qi a1)]) pn_X11 (Nat.le_of_ble_eq_true rfl) rfl ?_
  unfold C_hours at h
  refine q_aload_n dX11_hours_0 rfl rfl ?_
  refine q_iload_n dX11_hours_1 rfl rfl ?_
  obtain ⟨q1725, h1726, h⟩ := Option.bind_eq_some_iff.mp h
  refine q_callVi (as := [qi a1]) (c := 0) dX11_hours_2 ml_X11_207 rfl rfl (hL 0 (by decide)) sh_0 rfl rfl (Nat.le_of_ble_eq_true rfl) (C_isCrane_ok hL (d + 1) a1 _ _ h1726) rfl ?_
  obtain ⟨c1727, h⟩ := qk_some h
  refine q_if_ne (tgt := 10) dX11_hours_5 (by decide) rfl (qRb_R c1727)  (fun g => ?_) (fun g => ?_)
  · rw [if_neg (show ¬ (q1725.1 = 0) from g)] at h
    refine q_aload_n dX11_hours_10 rfl rfl ?_
    refine q_getA dX11_hours_11 fl_X11_49 (hL 0 (by decide)) sh_0 (by decide) rfl rfl ?_
    obtain ⟨q1728, h1729, h⟩ := Option.bind_eq_some_iff.mp h
    refine q_callVv (as := []) (c := 6) dX11_hours_14 ml_X11_367 rfl rfl (hL 6 (by decide)) sh_6 rfl rfl (Nat.le_of_ble_eq_true rfl) (Stays_lineUp_ok hL d _ _ h1729) rfl ?_
    refine q_iconst dX11_hours_17 rfl rfl ?_
    refine q_istore_n (lv' := [(2, qi 0), (0, qr 0), (1, qi a1)]) dX11_hours_18 (by decide) rfl rfl ?_
    refine q_iconst dX11_hours_19 rfl rfl ?_
    refine q_istore_n (lv' := [(3, qi 0), (2, qi 0), (0, qr 0), (1, qi a1)]) dX11_hours_20 (by decide) rfl rfl ?_
    obtain ⟨q1739, h1740, h⟩ := Option.bind_eq_some_iff.mp h
    refine q_pick [2, 3, 1, 0] rfl (C_hours_L21_ok hL d qF a1 0 0 _ _ h1740 ?_)
    refine q_iload_n dX11_hours_77 rfl rfl ?_
    cases h
    exact q_ireturn dX11_hours_78 rfl hQ
  · rw [if_pos (show q1725.1 = 0 from g)] at h
    refine q_iconst dX11_hours_8 rfl rfl ?_
    cases h
    exact q_ireturn dX11_hours_9 rfl hQ
set_option maxRecDepth 20000 in
theorem Stays_movedAhead_ok {X : qX} (hL : ∀ c, c < 93 → c ∈ qLs X) (d : Nat) (a1 : Int) (a2 : Int) (S : qSto) (o : (Int × qSto)) (h : Stays_movedAhead a1 a2 S = some o) (Q : Option qV → qSto → Prop) (hQ : Q (some (qi o.1)) o.2) : qC X (d + 2) yX7_movedAhead cX7_movedAhead 4 (some .int) [qr 6, qi a1, qi a2] S Q := by
  refine q_entry (lv := [(0, qr 6), (1, qi a1), (2, qi a2)]) pn_X7 (Nat.le_of_ble_eq_true rfl) rfl ?_
  unfold Stays_movedAhead at h
  refine q_aload_n dX7_movedAhead_0 rfl rfl ?_
  refine q_iload_n dX7_movedAhead_1 rfl rfl ?_
  obtain ⟨q1749, h1750, h⟩ := Option.bind_eq_some_iff.mp h
  refine q_callVi (as := [qi a1]) (c := 6) dX7_movedAhead_2 ml_X7_50 rfl rfl (hL 6 (by decide)) sh_6 rfl rfl (Nat.le_of_ble_eq_true rfl) (Stays_has_ok hL (d + 1) a1 _ _ h1750) rfl ?_
  obtain ⟨c1751, h⟩ := qk_some h
  refine q_if_eq (tgt := 18) dX7_movedAhead_5 (by decide) rfl (qRb_R c1751)  (fun g => ?_) (fun g => ?_)
  · rw [if_pos (show q1749.1 = 0 from g)] at h
    refine q_iconst dX7_movedAhead_18 rfl rfl ?_
    cases h
    exact q_ireturn dX7_movedAhead_19 rfl hQ
  · rw [if_neg (show ¬ (q1749.1 = 0) from g)] at h
    refine q_iload_n dX7_movedAhead_8 rfl rfl ?_
    refine q_aload_n dX7_movedAhead_9 rfl rfl ?_
    refine q_getA dX7_movedAhead_10 fl_X7_18 (hL 6 (by decide)) sh_6 (by decide) rfl rfl ?_
    refine q_iload_n dX7_movedAhead_13 rfl rfl ?_
    obtain ⟨c1752, h⟩ := qk_some h
    refine q_iaload dX7_movedAhead_14 (hL 39 (by decide)) sh_39 (qIx_0 c1752) (qIx_1 c1752) rfl ?_
    obtain ⟨c1753, h⟩ := qk_some h
    obtain ⟨c1754, h⟩ := qk_some h
    refine q_icmp_gt (tgt := 20) dX7_movedAhead_15 (by decide) rfl (qRb_R c1753) (qRb_R c1754) (fun g => ?_) (fun g => ?_)
    · rw [if_pos (show (q1749.2 39 (Int.toNat a1)) < a2 from g)] at h
      refine q_aload_n dX7_movedAhead_20 rfl rfl ?_
      refine q_getA dX7_movedAhead_21 fl_X7_24 (hL 6 (by decide)) sh_6 (by decide) rfl rfl ?_
      refine q_iload_n dX7_movedAhead_24 rfl rfl ?_
      obtain ⟨c1755, h⟩ := qk_some h
      refine q_iaload dX7_movedAhead_25 (hL 41 (by decide)) sh_41 (qIx_0 c1755) (qIx_1 c1755) rfl ?_
      refine q_iload_n dX7_movedAhead_26 rfl rfl ?_
      refine q_aload_n dX7_movedAhead_27 rfl rfl ?_
      refine q_getA dX7_movedAhead_28 fl_X7_18 (hL 6 (by decide)) sh_6 (by decide) rfl rfl ?_
      refine q_iload_n dX7_movedAhead_31 rfl rfl ?_
      obtain ⟨c1756, h⟩ := qk_some h
      refine q_iaload dX7_movedAhead_32 (hL 39 (by decide)) sh_39 (qIx_0 c1756) (qIx_1 c1756) rfl ?_
      refine q_isub dX7_movedAhead_33 rfl ?_
      obtain ⟨q1757, h1758, h⟩ := Option.bind_eq_some_iff.mp h
      refine q_callSi (as := [qi (q1749.2 41 (Int.toNat a1)), qi (a2 - (q1749.2 39 (Int.toNat a1)))]) dX7_movedAhead_34 ml_X7_74 rfl rfl (Nat.le_of_ble_eq_true rfl) (Jm_min_ok hL (d + 1) (q1749.2 41 (Int.toNat a1)) (a2 - (q1749.2 39 (Int.toNat a1))) _ _ h1758) rfl ?_
      refine q_istore_n (lv' := [(3, qi q1757.1), (0, qr 6), (1, qi a1), (2, qi a2)]) dX7_movedAhead_37 (by decide) rfl rfl ?_
      refine q_aload_n dX7_movedAhead_38 rfl rfl ?_
      refine q_getA dX7_movedAhead_39 fl_X7_36 (hL 6 (by decide)) sh_6 (by decide) rfl rfl ?_
      refine q_iload_n dX7_movedAhead_42 rfl rfl ?_
      refine q_iconst dX7_movedAhead_43 rfl rfl ?_
      obtain ⟨q1759, h1760, h⟩ := Option.bind_eq_some_iff.mp h
      refine q_callVi (as := [qi a1, qi 3]) (c := 2) dX7_movedAhead_44 ml_X7_54 rfl rfl (hL 2 (by decide)) sh_2 rfl rfl (Nat.le_of_ble_eq_true rfl) (Told_contractOf_ok hL (d + 1) a1 3 _ _ h1760) rfl ?_
      refine q_iload_n dX7_movedAhead_47 rfl rfl ?_
      refine q_aload_n dX7_movedAhead_48 rfl rfl ?_
      refine q_getA dX7_movedAhead_49 fl_X7_36 (hL 6 (by decide)) sh_6 (by decide) rfl rfl ?_
      refine q_aload_n dX7_movedAhead_52 rfl rfl ?_
      refine q_getA dX7_movedAhead_53 fl_X7_21 (hL 6 (by decide)) sh_6 (by decide) rfl rfl ?_
      refine q_iload_n dX7_movedAhead_56 rfl rfl ?_
      obtain ⟨c1761, h⟩ := qk_some h
      refine q_iaload dX7_movedAhead_57 (hL 40 (by decide)) sh_40 (qIx_0 c1761) (qIx_1 c1761) rfl ?_
      obtain ⟨q1762, h1763, h⟩ := Option.bind_eq_some_iff.mp h
      refine q_callVi (as := [qi (q1759.2 40 (Int.toNat a1))]) (c := 2) dX7_movedAhead_58 ml_X7_111 rfl rfl (hL 2 (by decide)) sh_2 rfl rfl (Nat.le_of_ble_eq_true rfl) (Told_movesWith_ok hL d (q1759.2 40 (Int.toNat a1)) _ _ h1763) rfl ?_
      refine q_imul dX7_movedAhead_61 rfl ?_
      obtain ⟨q1764, h1765, h⟩ := Option.bind_eq_some_iff.mp h
      refine q_callSi (as := [qi q1759.1, qi (q1757.1 * q1762.1)]) dX7_movedAhead_62 ml_X7_74 rfl rfl (Nat.le_of_ble_eq_true rfl) (Jm_min_ok hL (d + 1) q1759.1 (q1757.1 * q1762.1) _ _ h1765) rfl ?_
      cases h
      exact q_ireturn dX7_movedAhead_65 rfl hQ
    · rw [if_neg (show ¬ ((q1749.2 39 (Int.toNat a1)) < a2) from g)] at h
      refine q_iconst dX7_movedAhead_18 rfl rfl ?_
      cases h
      exact q_ireturn dX7_movedAhead_19 rfl hQ
set_option maxRecDepth 20000 in
theorem C_left_ok {X : qX} (hL : ∀ c, c < 93 → c ∈ qLs X) (d : Nat) (a1 : Int) (a2 : Int) (S : qSto) (o : (Int × qSto)) (h : C_left a1 a2 S = some o) (Q : Option qV → qSto → Prop) (hQ : Q (some (qi o.1)) o.2) : qC X (d + 3) yX11_left cX11_left 3 (some .int) [qr 0, qi a1, qi a2] S Q := by
  refine q_entry (lv := [(0, qr 0), (1, qi a1), (2, qi a2)]) pn_X11 (Nat.le_of_ble_eq_true rfl) rfl ?_
  unfold C_left at h
  refine q_aload_n dX11_left_0 rfl rfl ?_
  refine q_iload_n dX11_left_1 rfl rfl ?_
  obtain ⟨q1741, h1742, h⟩ := Option.bind_eq_some_iff.mp h
  refine q_callVi (as := [qi a1]) (c := 0) dX11_left_2 ml_X11_216 rfl rfl (hL 0 (by decide)) sh_0 rfl rfl (Nat.le_of_ble_eq_true rfl) (C_isShip_ok hL (d + 2) a1 _ _ h1742) rfl ?_
  obtain ⟨c1743, h⟩ := qk_some h
  refine q_if_eq (tgt := 15) dX11_left_5 (by decide) rfl (qRb_R c1743)  (fun g => ?_) (fun g => ?_)
  · rw [if_pos (show q1741.1 = 0 from g)] at h
    refine q_iconst dX11_left_15 rfl rfl ?_
    cases h
    exact q_ireturn dX11_left_16 rfl hQ
  · rw [if_neg (show ¬ (q1741.1 = 0) from g)] at h
    refine q_iload_n dX11_left_8 rfl rfl ?_
    obtain ⟨q1744, h1745, h⟩ := Option.bind_eq_some_iff.mp h
    refine q_callSi (as := [qi a2]) dX11_left_9 ml_X11_194 rfl rfl (Nat.le_of_ble_eq_true rfl) (C_isSlot_ok hL (d + 2) a2 _ _ h1745) rfl ?_
    obtain ⟨c1746, h⟩ := qk_some h
    refine q_if_ne (tgt := 17) dX11_left_12 (by decide) rfl (qRb_R c1746)  (fun g => ?_) (fun g => ?_)
    · rw [if_neg (show ¬ (q1744.1 = 0) from g)] at h
      refine q_aload_n dX11_left_17 rfl rfl ?_
      refine q_getA dX11_left_18 fl_X11_16 (hL 0 (by decide)) sh_0 (by decide) rfl rfl ?_
      refine q_iload_n dX11_left_21 rfl rfl ?_
      refine q_iconst dX11_left_22 rfl rfl ?_
      obtain ⟨q1747, h1748, h⟩ := Option.bind_eq_some_iff.mp h
      refine q_callVi (as := [qi a1, qi 3]) (c := 2) dX11_left_23 ml_X11_219 rfl rfl (hL 2 (by decide)) sh_2 rfl rfl (Nat.le_of_ble_eq_true rfl) (Told_contractOf_ok hL (d + 2) a1 3 _ _ h1748) rfl ?_
      refine q_aload_n dX11_left_26 rfl rfl ?_
      refine q_getA dX11_left_27 fl_X11_49 (hL 0 (by decide)) sh_0 (by decide) rfl rfl ?_
      refine q_iload_n dX11_left_30 rfl rfl ?_
      refine q_iload_n dX11_left_31 rfl rfl ?_
      obtain ⟨q1766, h1767, h⟩ := Option.bind_eq_some_iff.mp h
      refine q_callVi (as := [qi a1, qi a2]) (c := 6) dX11_left_32 ml_X11_385 rfl rfl (hL 6 (by decide)) sh_6 rfl rfl (Nat.le_of_ble_eq_true rfl) (Stays_movedAhead_ok hL d a1 a2 _ _ h1767) rfl ?_
      refine q_isub dX11_left_35 rfl ?_
      cases h
      exact q_ireturn dX11_left_36 rfl hQ
    · rw [if_pos (show q1744.1 = 0 from g)] at h
      refine q_iconst dX11_left_15 rfl rfl ?_
      cases h
      exact q_ireturn dX11_left_16 rfl hQ
set_option maxRecDepth 20000 in
theorem C_movedIn_L10_ok {X : qX} (hL : ∀ c, c < 93 → c ∈ qLs X) (d : Nat) {Q : Option qV → qSto → Prop} : ∀ (n : Nat) (x2 : Int) (x3 : Int) (x4 : Int) (S : qSto) (o : (Int × qSto)), C_movedIn_L10 n x2 x3 x4 S = some o → (qW X (d + 3) yX11_movedIn cX11_movedIn 5 (some .int) 55 [(3, qi o.1)] [] o.2 Q) → qW X (d + 3) yX11_movedIn cX11_movedIn 5 (some .int) 10 [(0, qr 0), (2, qi x2), (3, qi x3), (4, qi x4)] [] S Q := by
  intro n
  induction n with
  | zero =>
    intro x2 x3 x4 S o h
    simp [C_movedIn_L10] at h
  | succ n ih =>
    intro x2 x3 x4 S o h hE
    rw [C_movedIn_L10] at h
    refine q_iload dX11_movedIn_10 rfl rfl ?_
    refine q_aload_n dX11_movedIn_12 rfl rfl ?_
    refine q_getA dX11_movedIn_13 fl_X11_16 (hL 0 (by decide)) sh_0 (by decide) rfl rfl ?_
    refine q_getI dX11_movedIn_16 fl_X11_158 (hL 2 (by decide)) sh_2 (by decide) rfl rfl ?_
    obtain ⟨c1772, h⟩ := qk_some h
    obtain ⟨c1773, h⟩ := qk_some h
    refine q_icmp_ge (tgt := 55) dX11_movedIn_19 (by decide) rfl (qRb_R c1772) (qRb_R c1773) (fun g => ?_) (fun g => ?_)
    · rw [if_pos (show (S 2 12) ≤ x4 from g)] at h
      cases h
      exact q_pick [2] rfl (hE)
    · rw [if_neg (show ¬ ((S 2 12) ≤ x4) from g)] at h
      refine q_iload_n dX11_movedIn_22 rfl rfl ?_
      refine q_aload_n dX11_movedIn_23 rfl rfl ?_
      refine q_getA dX11_movedIn_24 fl_X11_49 (hL 0 (by decide)) sh_0 (by decide) rfl rfl ?_
      refine q_iload dX11_movedIn_27 rfl rfl ?_
      refine q_iload_n dX11_movedIn_29 rfl rfl ?_
      refine q_bipush dX11_movedIn_30 (by decide) rfl ?_
      refine q_iadd dX11_movedIn_32 rfl ?_
      obtain ⟨q1774, h1775, h⟩ := Option.bind_eq_some_iff.mp h
      refine q_callVi (as := [qi x4, qi (x2 + 16)]) (c := 6) dX11_movedIn_33 ml_X11_385 rfl rfl (hL 6 (by decide)) sh_6 rfl rfl (Nat.le_of_ble_eq_true rfl) (Stays_movedAhead_ok hL d x4 (x2 + 16) _ _ h1775) rfl ?_
      refine q_aload_n dX11_movedIn_36 rfl rfl ?_
      refine q_getA dX11_movedIn_37 fl_X11_49 (hL 0 (by decide)) sh_0 (by decide) rfl rfl ?_
      refine q_iload dX11_movedIn_40 rfl rfl ?_
      refine q_iload_n dX11_movedIn_42 rfl rfl ?_
      obtain ⟨q1776, h1777, h⟩ := Option.bind_eq_some_iff.mp h
      refine q_callVi (as := [qi x4, qi x2]) (c := 6) dX11_movedIn_43 ml_X11_385 rfl rfl (hL 6 (by decide)) sh_6 rfl rfl (Nat.le_of_ble_eq_true rfl) (Stays_movedAhead_ok hL d x4 x2 _ _ h1777) rfl ?_
      refine q_isub dX11_movedIn_46 rfl ?_
      refine q_iadd dX11_movedIn_47 rfl ?_
      refine q_istore_n (lv' := [(3, qi (x3 + (q1774.1 - q1776.1))), (0, qr 0), (2, qi x2), (4, qi x4)]) dX11_movedIn_48 (by decide) rfl rfl ?_
      refine q_iinc (lv' := [(4, qi (x4 + 1)), (3, qi (x3 + (q1774.1 - q1776.1))), (0, qr 0), (2, qi x2)]) dX11_movedIn_49 (by decide) rfl rfl rfl ?_
      refine q_goto (pc' := 10) dX11_movedIn_52 (by decide) ?_
      exact q_pick [2, 3, 1, 0] rfl (ih x2 (x3 + (q1774.1 - q1776.1)) (x4 + 1) _ _ h hE)
set_option maxRecDepth 20000 in
theorem C_movedIn_ok {X : qX} (hL : ∀ c, c < 93 → c ∈ qLs X) (d : Nat) (a1 : Int) (S : qSto) (o : (Int × qSto)) (h : C_movedIn a1 S = some o) (Q : Option qV → qSto → Prop) (hQ : Q (some (qi o.1)) o.2) : qC X (d + 3) yX11_movedIn cX11_movedIn 5 (some .int) [qr 0, qi a1] S Q := by
  refine q_entry (lv := [(0, qr 0), (1, qi a1)]) pn_X11 (Nat.le_of_ble_eq_true rfl) rfl ?_
  unfold C_movedIn at h
  refine q_iload_n dX11_movedIn_0 rfl rfl ?_
  refine q_bipush dX11_movedIn_1 (by decide) rfl ?_
  refine q_imul dX11_movedIn_3 rfl ?_
  refine q_istore_n (lv' := [(2, qi (a1 * 16)), (0, qr 0), (1, qi a1)]) dX11_movedIn_4 (by decide) rfl rfl ?_
  refine q_iconst dX11_movedIn_5 rfl rfl ?_
  refine q_istore_n (lv' := [(3, qi 0), (2, qi (a1 * 16)), (0, qr 0), (1, qi a1)]) dX11_movedIn_6 (by decide) rfl rfl ?_
  refine q_iconst dX11_movedIn_7 rfl rfl ?_
  refine q_istore (lv' := [(4, qi 0), (3, qi 0), (2, qi (a1 * 16)), (0, qr 0), (1, qi a1)]) dX11_movedIn_8 (by decide) rfl rfl ?_
  obtain ⟨q1778, h1779, h⟩ := Option.bind_eq_some_iff.mp h
  refine q_pick [3, 2, 1, 0] rfl (C_movedIn_L10_ok hL d qF (a1 * 16) 0 0 _ _ h1779 ?_)
  refine q_iload_n dX11_movedIn_55 rfl rfl ?_
  cases h
  exact q_ireturn dX11_movedIn_56 rfl hQ
set_option maxRecDepth 20000 in
theorem Stays_busiestIn_L5_ok {X : qX} (hL : ∀ c, c < 93 → c ∈ qLs X) (d : Nat) {Q : Option qV → qSto → Prop} : ∀ (n : Nat) (x2 : Int) (x3 : Int) (x4 : Int) (S : qSto) (o : (Int × qSto)), Stays_busiestIn_L5 n x2 x3 x4 S = some o → (qW X (d + 1) yX7_busiestIn cX7_busiestIn 5 (some .int) 29 [(3, qi o.1)] [] o.2 Q) → qW X (d + 1) yX7_busiestIn cX7_busiestIn 5 (some .int) 5 [(0, qr 6), (2, qi x2), (3, qi x3), (4, qi x4)] [] S Q := by
  intro n
  induction n with
  | zero =>
    intro x2 x3 x4 S o h
    simp [Stays_busiestIn_L5] at h
  | succ n ih =>
    intro x2 x3 x4 S o h hE
    rw [Stays_busiestIn_L5] at h
    refine q_iload dX7_busiestIn_5 rfl rfl ?_
    refine q_iload_n dX7_busiestIn_7 rfl rfl ?_
    obtain ⟨c1782, h⟩ := qk_some h
    obtain ⟨c1783, h⟩ := qk_some h
    refine q_icmp_ge (tgt := 29) dX7_busiestIn_8 (by decide) rfl (qRb_R c1782) (qRb_R c1783) (fun g => ?_) (fun g => ?_)
    · rw [if_pos (show x2 ≤ x4 from g)] at h
      cases h
      exact q_pick [2] rfl (hE)
    · rw [if_neg (show ¬ (x2 ≤ x4) from g)] at h
      refine q_iload_n dX7_busiestIn_11 rfl rfl ?_
      refine q_aload_n dX7_busiestIn_12 rfl rfl ?_
      refine q_getA dX7_busiestIn_13 fl_X7_30 (hL 6 (by decide)) sh_6 (by decide) rfl rfl ?_
      refine q_iload dX7_busiestIn_16 rfl rfl ?_
      obtain ⟨c1784, h⟩ := qk_some h
      refine q_iaload dX7_busiestIn_18 (hL 43 (by decide)) sh_43 (qIx_0 c1784) (qIx_1 c1784) rfl ?_
      obtain ⟨q1785, h1786, h⟩ := Option.bind_eq_some_iff.mp h
      refine q_callSi (as := [qi x3, qi (S 43 (Int.toNat x4))]) dX7_busiestIn_19 ml_X7_108 rfl rfl (Nat.le_of_ble_eq_true rfl) (Jm_max_ok hL d x3 (S 43 (Int.toNat x4)) _ _ h1786) rfl ?_
      refine q_istore_n (lv' := [(3, qi q1785.1), (0, qr 6), (2, qi x2), (4, qi x4)]) dX7_busiestIn_22 (by decide) rfl rfl ?_
      refine q_iinc (lv' := [(4, qi (x4 + 1)), (3, qi q1785.1), (0, qr 6), (2, qi x2)]) dX7_busiestIn_23 (by decide) rfl rfl rfl ?_
      refine q_goto (pc' := 5) dX7_busiestIn_26 (by decide) ?_
      exact q_pick [2, 3, 1, 0] rfl (ih x2 q1785.1 (x4 + 1) _ _ h hE)
set_option maxRecDepth 20000 in
theorem Stays_busiestIn_ok {X : qX} (hL : ∀ c, c < 93 → c ∈ qLs X) (d : Nat) (a1 : Int) (a2 : Int) (S : qSto) (o : (Int × qSto)) (h : Stays_busiestIn a1 a2 S = some o) (Q : Option qV → qSto → Prop) (hQ : Q (some (qi o.1)) o.2) : qC X (d + 1) yX7_busiestIn cX7_busiestIn 5 (some .int) [qr 6, qi a1, qi a2] S Q := by
  refine q_entry (lv := [(0, qr 6), (1, qi a1), (2, qi a2)]) pn_X7 (Nat.le_of_ble_eq_true rfl) rfl ?_
  unfold Stays_busiestIn at h
  refine q_iconst dX7_busiestIn_0 rfl rfl ?_
  refine q_istore_n (lv' := [(3, qi 0), (0, qr 6), (1, qi a1), (2, qi a2)]) dX7_busiestIn_1 (by decide) rfl rfl ?_
  refine q_iload_n dX7_busiestIn_2 rfl rfl ?_
  refine q_istore (lv' := [(4, qi a1), (3, qi 0), (0, qr 6), (1, qi a1), (2, qi a2)]) dX7_busiestIn_3 (by decide) rfl rfl ?_
  obtain ⟨q1787, h1788, h⟩ := Option.bind_eq_some_iff.mp h
  refine q_pick [2, 4, 1, 0] rfl (Stays_busiestIn_L5_ok hL d qF a2 0 a1 _ _ h1788 ?_)
  refine q_iload_n dX7_busiestIn_29 rfl rfl ?_
  cases h
  exact q_ireturn dX7_busiestIn_30 rfl hQ
set_option maxRecDepth 20000 in
theorem C_shift_ok {X : qX} (hL : ∀ c, c < 93 → c ∈ qLs X) (d : Nat) (a1 : Int) (a2 : Int) (a3 : Int) (S : qSto) (o : (Int × qSto)) (h : C_shift a1 a2 a3 S = some o) (Q : Option qV → qSto → Prop) (hQ : Q (some (qi o.1)) o.2) : qC X (d + 4) yX11_shift cX11_shift 7 (some .int) [qr 0, qi a1, qi a2, qi a3] S Q := by
  refine q_entry (lv := [(0, qr 0), (1, qi a1), (2, qi a2), (3, qi a3)]) pn_X11 (Nat.le_of_ble_eq_true rfl) rfl ?_
  unfold C_shift at h
  refine q_iload_n dX11_shift_0 rfl rfl ?_
  refine q_iload_n dX11_shift_1 rfl rfl ?_
  obtain ⟨q1768, h1769, h⟩ := Option.bind_eq_some_iff.mp h
  refine q_callSi (as := [qi a1, qi a2]) dX11_shift_2 ml_X11_200 rfl rfl (Nat.le_of_ble_eq_true rfl) (C_isShift_ok hL (d + 3) a1 a2 _ _ h1769) rfl ?_
  obtain ⟨c1770, h⟩ := qk_some h
  refine q_if_ne (tgt := 10) dX11_shift_5 (by decide) rfl (qRb_R c1770)  (fun g => ?_) (fun g => ?_)
  · rw [if_neg (show ¬ (q1768.1 = 0) from g)] at h
    refine q_iload_n dX11_shift_10 rfl rfl ?_
    refine q_iconst dX11_shift_11 rfl rfl ?_
    refine q_imul dX11_shift_12 rfl ?_
    refine q_iload_n dX11_shift_13 rfl rfl ?_
    refine q_iadd dX11_shift_14 rfl ?_
    refine q_istore (lv' := [(4, qi ((a1 * 3) + a2)), (0, qr 0), (1, qi a1), (2, qi a2), (3, qi a3)]) dX11_shift_15 (by decide) rfl rfl ?_
    refine q_iload dX11_shift_17 rfl rfl ?_
    refine q_bipush dX11_shift_19 (by decide) rfl ?_
    refine q_imul dX11_shift_21 rfl ?_
    refine q_istore (lv' := [(5, qi (((a1 * 3) + a2) * 16)), (4, qi ((a1 * 3) + a2)), (0, qr 0), (1, qi a1), (2, qi a2), (3, qi a3)]) dX11_shift_22 (by decide) rfl rfl ?_
    refine q_iload dX11_shift_24 rfl rfl ?_
    refine q_bipush dX11_shift_26 (by decide) rfl ?_
    refine q_iadd dX11_shift_28 rfl ?_
    refine q_istore (lv' := [(6, qi ((((a1 * 3) + a2) * 16) + 16)), (5, qi (((a1 * 3) + a2) * 16)), (4, qi ((a1 * 3) + a2)), (0, qr 0), (1, qi a1), (2, qi a2), (3, qi a3)]) dX11_shift_29 (by decide) rfl rfl ?_
    refine q_iload_n dX11_shift_31 rfl rfl ?_
    obtain ⟨c1771, h⟩ := qk_some h
    by_cases e4159 : a3 = 0
    · rw [if_pos e4159] at h
      refine q_tsw (tgt := 120) dX11_shift_32 (qRb_R c1771) (by decide) (fun g => absurd g (by rw [e4159]; decide)) (fun _ _ => ⟨32, 64, by rw [e4159]; rfl, by decide, ?_⟩)
      refine q_aload_n dX11_shift_64 rfl rfl ?_
      refine q_iload dX11_shift_65 rfl rfl ?_
      obtain ⟨q1780, h1781, h⟩ := Option.bind_eq_some_iff.mp h
      refine q_callVi (as := [qi ((a1 * 3) + a2)]) (c := 0) dX11_shift_67 ml_X11_388 rfl rfl (hL 0 (by decide)) sh_0 rfl rfl (Nat.le_of_ble_eq_true rfl) (C_movedIn_ok hL d ((a1 * 3) + a2) _ _ h1781) rfl ?_
      cases h
      exact q_ireturn dX11_shift_70 rfl hQ
    · rw [if_neg e4159] at h
      by_cases e4160 : a3 = 1
      · rw [if_pos e4160] at h
        refine q_tsw (tgt := 120) dX11_shift_32 (qRb_R c1771) (by decide) (fun g => absurd g (by rw [e4160]; decide)) (fun _ _ => ⟨39, 71, by rw [e4160]; rfl, by decide, ?_⟩)
        refine q_aload_n dX11_shift_71 rfl rfl ?_
        refine q_getA dX11_shift_72 fl_X11_49 (hL 0 (by decide)) sh_0 (by decide) rfl rfl ?_
        refine q_iload dX11_shift_75 rfl rfl ?_
        refine q_iload dX11_shift_77 rfl rfl ?_
        obtain ⟨q1789, h1790, h⟩ := Option.bind_eq_some_iff.mp h
        refine q_callVi (as := [qi (((a1 * 3) + a2) * 16), qi ((((a1 * 3) + a2) * 16) + 16)]) (c := 6) dX11_shift_79 ml_X11_391 rfl rfl (hL 6 (by decide)) sh_6 rfl rfl (Nat.le_of_ble_eq_true rfl) (Stays_busiestIn_ok hL (d + 2) (((a1 * 3) + a2) * 16) ((((a1 * 3) + a2) * 16) + 16) _ _ h1790) rfl ?_
        cases h
        exact q_ireturn dX11_shift_82 rfl hQ
      · rw [if_neg e4160] at h
        by_cases e4161 : a3 = 2
        · rw [if_pos e4161] at h
          refine q_tsw (tgt := 120) dX11_shift_32 (qRb_R c1771) (by decide) (fun g => absurd g (by rw [e4161]; decide)) (fun _ _ => ⟨51, 83, by rw [e4161]; rfl, by decide, ?_⟩)
          refine q_aload_n dX11_shift_83 rfl rfl ?_
          refine q_getA dX11_shift_84 fl_X11_49 (hL 0 (by decide)) sh_0 (by decide) rfl rfl ?_
          refine q_iload dX11_shift_87 rfl rfl ?_
          refine q_iload dX11_shift_89 rfl rfl ?_
          obtain ⟨q1791, h1792, h⟩ := Option.bind_eq_some_iff.mp h
          refine q_callVi (as := [qi (((a1 * 3) + a2) * 16), qi ((((a1 * 3) + a2) * 16) + 16)]) (c := 6) dX11_shift_91 ml_X11_174 rfl rfl (hL 6 (by decide)) sh_6 rfl rfl (Nat.le_of_ble_eq_true rfl) (Stays_busyIn_ok hL (d + 3) (((a1 * 3) + a2) * 16) ((((a1 * 3) + a2) * 16) + 16) _ _ h1792) rfl ?_
          cases h
          exact q_ireturn dX11_shift_94 rfl hQ
        · rw [if_neg e4161] at h
          by_cases e4162 : a3 = 3
          · rw [if_pos e4162] at h
            refine q_tsw (tgt := 120) dX11_shift_32 (qRb_R c1771) (by decide) (fun g => absurd g (by rw [e4162]; decide)) (fun _ _ => ⟨63, 95, by rw [e4162]; rfl, by decide, ?_⟩)
            refine q_bipush dX11_shift_95 (by decide) rfl ?_
            refine q_aload_n dX11_shift_97 rfl rfl ?_
            refine q_getA dX11_shift_98 fl_X11_16 (hL 0 (by decide)) sh_0 (by decide) rfl rfl ?_
            refine q_iload dX11_shift_101 rfl rfl ?_
            obtain ⟨q1793, h1794, h⟩ := Option.bind_eq_some_iff.mp h
            refine q_callVi (as := [qi ((a1 * 3) + a2)]) (c := 2) dX11_shift_103 ml_X11_204 rfl rfl (hL 2 (by decide)) sh_2 rfl rfl (Nat.le_of_ble_eq_true rfl) (Told_gangsIn_ok hL (d + 3) ((a1 * 3) + a2) _ _ h1794) rfl ?_
            refine q_imul dX11_shift_106 rfl ?_
            refine q_aload_n dX11_shift_107 rfl rfl ?_
            refine q_getA dX11_shift_108 fl_X11_49 (hL 0 (by decide)) sh_0 (by decide) rfl rfl ?_
            refine q_iload dX11_shift_111 rfl rfl ?_
            refine q_iload dX11_shift_113 rfl rfl ?_
            obtain ⟨q1795, h1796, h⟩ := Option.bind_eq_some_iff.mp h
            refine q_callVi (as := [qi (((a1 * 3) + a2) * 16), qi ((((a1 * 3) + a2) * 16) + 16)]) (c := 6) dX11_shift_115 ml_X11_174 rfl rfl (hL 6 (by decide)) sh_6 rfl rfl (Nat.le_of_ble_eq_true rfl) (Stays_busyIn_ok hL (d + 3) (((a1 * 3) + a2) * 16) ((((a1 * 3) + a2) * 16) + 16) _ _ h1796) rfl ?_
            refine q_isub dX11_shift_118 rfl ?_
            cases h
            exact q_ireturn dX11_shift_119 rfl hQ
          · rw [if_neg e4162] at h
            refine q_tsw (tgt := 120) dX11_shift_32 (qRb_R c1771) (by decide) (fun _ => ?_) (fun g1 g2 => absurd g1 (by omega))
            refine q_iconst dX11_shift_120 rfl rfl ?_
            cases h
            exact q_ireturn dX11_shift_121 rfl hQ
  · rw [if_pos (show q1768.1 = 0 from g)] at h
    refine q_iconst dX11_shift_8 rfl rfl ?_
    cases h
    exact q_ireturn dX11_shift_9 rfl hQ
set_option maxRecDepth 20000 in
theorem C_busiest_L18_ok {X : qX} (hL : ∀ c, c < 93 → c ∈ qLs X) (d : Nat) {Q : Option qV → qSto → Prop} : ∀ (n : Nat) (x1 : Int) (x2 : Int) (x3 : Int) (x4 : Int) (S : qSto) (o : (Int × Int × qSto)), C_busiest_L18 n x2 x3 x4 S = some o → (qW X (d + 4) yX11_busiest cX11_busiest 6 (some .int) 51 [(1, qi x1), (2, qi o.1), (3, qi o.2.1)] [] o.2.2 Q) → qW X (d + 4) yX11_busiest cX11_busiest 6 (some .int) 18 [(0, qr 0), (1, qi x1), (2, qi x2), (3, qi x3), (4, qi x4)] [] S Q := by
  intro n
  induction n with
  | zero =>
    intro x1 x2 x3 x4 S o h
    simp [C_busiest_L18] at h
  | succ n ih =>
    intro x1 x2 x3 x4 S o h hE
    rw [C_busiest_L18] at h
    refine q_iload dX11_busiest_18 rfl rfl ?_
    refine q_bipush dX11_busiest_20 (by decide) rfl ?_
    obtain ⟨c1799, h⟩ := qk_some h
    refine q_icmp_ge (tgt := 51) dX11_busiest_22 (by decide) rfl (qRb_R c1799) ⟨by decide, by decide⟩ (fun g => ?_) (fun g => ?_)
    · rw [if_pos (show 21 ≤ x4 from g)] at h
      cases h
      exact q_pick [1, 2, 3] rfl (hE)
    · rw [if_neg (show ¬ (21 ≤ x4) from g)] at h
      refine q_aload_n dX11_busiest_25 rfl rfl ?_
      refine q_iload dX11_busiest_26 rfl rfl ?_
      obtain ⟨q1800, h1801, h⟩ := Option.bind_eq_some_iff.mp h
      refine q_callVi (as := [qi x4]) (c := 0) dX11_busiest_28 ml_X11_388 rfl rfl (hL 0 (by decide)) sh_0 rfl rfl (Nat.le_of_ble_eq_true rfl) (C_movedIn_ok hL d x4 _ _ h1801) rfl ?_
      refine q_istore (lv' := [(5, qi q1800.1), (0, qr 0), (1, qi x1), (2, qi x2), (3, qi x3), (4, qi x4)]) dX11_busiest_31 (by decide) rfl rfl ?_
      refine q_iload dX11_busiest_33 rfl rfl ?_
      refine q_iload_n dX11_busiest_35 rfl rfl ?_
      refine q_jn (G := fun (t1804 : (Int × Int)) => qW X (d + 4) yX11_busiest cX11_busiest 6 (some .int) 45 [(0, qr 0), (1, qi x1), (2, qi t1804.1), (3, qi t1804.2), (4, qi x4)] [] q1800.2 Q) h (fun t1804 h => ?_) (fun t1804 h hk4163 => ?_)
      · try dsimp only at h
        refine q_iinc (lv' := [(4, qi (x4 + 1)), (0, qr 0), (1, qi x1), (2, qi t1804.1), (3, qi t1804.2)]) dX11_busiest_45 (by decide) rfl rfl rfl ?_
        refine q_goto (pc' := 18) dX11_busiest_48 (by decide) ?_
        exact q_pick [1, 2, 3, 4, 0] rfl (ih x1 t1804.1 t1804.2 (x4 + 1) _ _ h hE)
      · skip
        obtain ⟨c1802, h⟩ := qk_some h
        obtain ⟨c1803, h⟩ := qk_some h
        refine q_icmp_le (tgt := 45) dX11_busiest_36 (by decide) rfl (qRb_R c1802) (qRb_R c1803) (fun g => ?_) (fun g => ?_)
        · rw [if_pos (show q1800.1 ≤ x3 from g)] at h
          cases h
          exact q_pick [1, 2, 3, 4, 5] rfl hk4163
        · rw [if_neg (show ¬ (q1800.1 ≤ x3) from g)] at h
          refine q_iload dX11_busiest_39 rfl rfl ?_
          refine q_istore_n (lv' := [(2, qi x4), (5, qi q1800.1), (0, qr 0), (1, qi x1), (3, qi x3), (4, qi x4)]) dX11_busiest_41 (by decide) rfl rfl ?_
          refine q_iload dX11_busiest_42 rfl rfl ?_
          refine q_istore_n (lv' := [(3, qi q1800.1), (2, qi x4), (5, qi q1800.1), (0, qr 0), (1, qi x1), (4, qi x4)]) dX11_busiest_44 (by decide) rfl rfl ?_
          cases h
          exact q_pick [3, 4, 1, 0, 5] rfl hk4163
set_option maxRecDepth 20000 in
theorem C_busiest_ok {X : qX} (hL : ∀ c, c < 93 → c ∈ qLs X) (d : Nat) (a1 : Int) (S : qSto) (o : (Int × qSto)) (h : C_busiest a1 S = some o) (Q : Option qV → qSto → Prop) (hQ : Q (some (qi o.1)) o.2) : qC X (d + 4) yX11_busiest cX11_busiest 6 (some .int) [qr 0, qi a1] S Q := by
  refine q_entry (lv := [(0, qr 0), (1, qi a1)]) pn_X11 (Nat.le_of_ble_eq_true rfl) rfl ?_
  unfold C_busiest at h
  refine q_iload_n dX11_busiest_0 rfl rfl ?_
  obtain ⟨c1797, h⟩ := qk_some h
  refine q_if_lt (tgt := 9) dX11_busiest_1 (by decide) rfl (qRb_R c1797)  (fun g => ?_) (fun g => ?_)
  · rw [if_pos (show a1 < 0 from g)] at h
    refine q_iconst dX11_busiest_9 rfl rfl ?_
    cases h
    exact q_ireturn dX11_busiest_10 rfl hQ
  · rw [if_neg (show ¬ (a1 < 0) from g)] at h
    refine q_iload_n dX11_busiest_4 rfl rfl ?_
    refine q_iconst dX11_busiest_5 rfl rfl ?_
    obtain ⟨c1798, h⟩ := qk_some h
    refine q_icmp_le (tgt := 11) dX11_busiest_6 (by decide) rfl (qRb_R c1798) ⟨by decide, by decide⟩ (fun g => ?_) (fun g => ?_)
    · rw [if_pos (show a1 ≤ 1 from g)] at h
      refine q_iconst dX11_busiest_11 rfl rfl ?_
      refine q_istore_n (lv' := [(2, qi 0), (0, qr 0), (1, qi a1)]) dX11_busiest_12 (by decide) rfl rfl ?_
      refine q_iconst dX11_busiest_13 rfl rfl ?_
      refine q_istore_n (lv' := [(3, qi 0), (2, qi 0), (0, qr 0), (1, qi a1)]) dX11_busiest_14 (by decide) rfl rfl ?_
      refine q_iconst dX11_busiest_15 rfl rfl ?_
      refine q_istore (lv' := [(4, qi 0), (3, qi 0), (2, qi 0), (0, qr 0), (1, qi a1)]) dX11_busiest_16 (by decide) rfl rfl ?_
      obtain ⟨q1805, h1806, h⟩ := Option.bind_eq_some_iff.mp h
      refine q_pick [3, 4, 2, 1, 0] rfl (C_busiest_L18_ok hL d qF a1 0 0 0 _ _ h1806 ?_)
      refine q_iload_n dX11_busiest_51 rfl rfl ?_
      obtain ⟨c1807, h⟩ := qk_some h
      refine q_if_ne (tgt := 59) dX11_busiest_52 (by decide) rfl (qRb_R c1807)  (fun g => ?_) (fun g => ?_)
      · rw [if_neg (show ¬ (a1 = 0) from g)] at h
        refine q_iload_n dX11_busiest_59 rfl rfl ?_
        cases h
        exact q_ireturn dX11_busiest_60 rfl hQ
      · rw [if_pos (show a1 = 0 from g)] at h
        refine q_iload_n dX11_busiest_55 rfl rfl ?_
        refine q_goto (pc' := 60) dX11_busiest_56 (by decide) ?_
        cases h
        exact q_ireturn dX11_busiest_60 rfl hQ
    · rw [if_neg (show ¬ (a1 ≤ 1) from g)] at h
      refine q_iconst dX11_busiest_9 rfl rfl ?_
      cases h
      exact q_ireturn dX11_busiest_10 rfl hQ
set_option maxRecDepth 20000 in
theorem C_without_L21_ok {X : qX} (hL : ∀ c, c < 93 → c ∈ qLs X) (d : Nat) {Q : Option qV → qSto → Prop} : ∀ (n : Nat) (x1 : Int) (x2 : Int) (x3 : Int) (S : qSto) (o : (Int × qSto)), C_without_L21 n x1 x2 x3 S = some o → (qW X (d + 2) yX11_without cX11_without 4 (some .int) 61 [(2, qi o.1)] [] o.2 Q) → qW X (d + 2) yX11_without cX11_without 4 (some .int) 21 [(0, qr 0), (1, qi x1), (2, qi x2), (3, qi x3)] [] S Q := by
  intro n
  induction n with
  | zero =>
    intro x1 x2 x3 S o h
    simp [C_without_L21] at h
  | succ n ih =>
    intro x1 x2 x3 S o h hE
    rw [C_without_L21] at h
    refine q_iload_n dX11_without_21 rfl rfl ?_
    refine q_sipush dX11_without_22 (by decide) rfl ?_
    obtain ⟨c1813, h⟩ := qk_some h
    refine q_icmp_ge (tgt := 61) dX11_without_25 (by decide) rfl (qRb_R c1813) ⟨by decide, by decide⟩ (fun g => ?_) (fun g => ?_)
    · rw [if_pos (show 336 ≤ x3 from g)] at h
      cases h
      exact q_pick [2] rfl (hE)
    · rw [if_neg (show ¬ (336 ≤ x3) from g)] at h
      refine q_aload_n dX11_without_28 rfl rfl ?_
      refine q_getA dX11_without_29 fl_X11_49 (hL 0 (by decide)) sh_0 (by decide) rfl rfl ?_
      refine q_getA dX11_without_32 fl_X11_382 (hL 6 (by decide)) sh_6 (by decide) rfl rfl ?_
      refine q_iload_n dX11_without_35 rfl rfl ?_
      obtain ⟨c1814, h⟩ := qk_some h
      refine q_iaload dX11_without_36 (hL 43 (by decide)) sh_43 (qIx_0 c1814) (qIx_1 c1814) rfl ?_
      refine q_jn (G := fun (t1819 : (Int × qSto)) => qW X (d + 2) yX11_without cX11_without 4 (some .int) 55 [(0, qr 0), (1, qi x1), (2, qi t1819.1), (3, qi x3)] [] t1819.2 Q) h (fun t1819 h => ?_) (fun t1819 h hk4164 => ?_)
      · try dsimp only at h
        refine q_iinc (lv' := [(3, qi (x3 + 1)), (0, qr 0), (1, qi x1), (2, qi t1819.1)]) dX11_without_55 (by decide) rfl rfl rfl ?_
        refine q_goto (pc' := 21) dX11_without_58 (by decide) ?_
        exact q_pick [1, 2, 3, 0] rfl (ih x1 t1819.1 (x3 + 1) _ _ h hE)
      · skip
        obtain ⟨c1815, h⟩ := qk_some h
        refine q_if_le (tgt := 55) dX11_without_37 (by decide) rfl (qRb_R c1815)  (fun g => ?_) (fun g => ?_)
        · rw [if_pos (show (S 43 (Int.toNat x3)) ≤ 0 from g)] at h
          cases h
          exact q_pick [0, 1, 2, 3] rfl hk4164
        · rw [if_neg (show ¬ ((S 43 (Int.toNat x3)) ≤ 0) from g)] at h
          refine q_aload_n dX11_without_40 rfl rfl ?_
          refine q_getA dX11_without_41 fl_X11_58 (hL 0 (by decide)) sh_0 (by decide) rfl rfl ?_
          refine q_iload_n dX11_without_44 rfl rfl ?_
          refine q_iload_n dX11_without_45 rfl rfl ?_
          obtain ⟨q1816, h1817, h⟩ := Option.bind_eq_some_iff.mp h
          refine q_callVi (as := [qi x3, qi x1]) (c := 7) dX11_without_46 ml_X11_376 rfl rfl (hL 7 (by decide)) sh_7 rfl rfl (Nat.le_of_ble_eq_true rfl) (Dealer_deal_ok hL d x3 x1 _ _ h1817) rfl ?_
          obtain ⟨c1818, h⟩ := qk_some h
          refine q_if_ne (tgt := 55) dX11_without_49 (by decide) rfl (qRb_R c1818)  (fun g => ?_) (fun g => ?_)
          · rw [if_neg (show ¬ (q1816.1 = 0) from g)] at h
            cases h
            exact q_pick [0, 1, 2, 3] rfl hk4164
          · rw [if_pos (show q1816.1 = 0 from g)] at h
            refine q_iinc (lv' := [(2, qi (x2 + 1)), (0, qr 0), (1, qi x1), (3, qi x3)]) dX11_without_52 (by decide) rfl rfl rfl ?_
            cases h
            exact q_pick [1, 2, 0, 3] rfl hk4164
set_option maxRecDepth 20000 in
theorem C_without_ok {X : qX} (hL : ∀ c, c < 93 → c ∈ qLs X) (d : Nat) (a1 : Int) (S : qSto) (o : (Int × qSto)) (h : C_without a1 S = some o) (Q : Option qV → qSto → Prop) (hQ : Q (some (qi o.1)) o.2) : qC X (d + 2) yX11_without cX11_without 4 (some .int) [qr 0, qi a1] S Q := by
  refine q_entry (lv := [(0, qr 0), (1, qi a1)]) pn_X11 (Nat.le_of_ble_eq_true rfl) rfl ?_
  unfold C_without at h
  refine q_aload_n dX11_without_0 rfl rfl ?_
  refine q_iload_n dX11_without_1 rfl rfl ?_
  obtain ⟨q1808, h1809, h⟩ := Option.bind_eq_some_iff.mp h
  refine q_callVi (as := [qi a1]) (c := 0) dX11_without_2 ml_X11_207 rfl rfl (hL 0 (by decide)) sh_0 rfl rfl (Nat.le_of_ble_eq_true rfl) (C_isCrane_ok hL (d + 1) a1 _ _ h1809) rfl ?_
  obtain ⟨c1810, h⟩ := qk_some h
  refine q_if_ne (tgt := 10) dX11_without_5 (by decide) rfl (qRb_R c1810)  (fun g => ?_) (fun g => ?_)
  · rw [if_neg (show ¬ (q1808.1 = 0) from g)] at h
    refine q_aload_n dX11_without_10 rfl rfl ?_
    refine q_getA dX11_without_11 fl_X11_49 (hL 0 (by decide)) sh_0 (by decide) rfl rfl ?_
    obtain ⟨q1811, h1812, h⟩ := Option.bind_eq_some_iff.mp h
    refine q_callVv (as := []) (c := 6) dX11_without_14 ml_X11_367 rfl rfl (hL 6 (by decide)) sh_6 rfl rfl (Nat.le_of_ble_eq_true rfl) (Stays_lineUp_ok hL d _ _ h1812) rfl ?_
    refine q_iconst dX11_without_17 rfl rfl ?_
    refine q_istore_n (lv' := [(2, qi 0), (0, qr 0), (1, qi a1)]) dX11_without_18 (by decide) rfl rfl ?_
    refine q_iconst dX11_without_19 rfl rfl ?_
    refine q_istore_n (lv' := [(3, qi 0), (2, qi 0), (0, qr 0), (1, qi a1)]) dX11_without_20 (by decide) rfl rfl ?_
    obtain ⟨q1820, h1821, h⟩ := Option.bind_eq_some_iff.mp h
    refine q_pick [2, 3, 1, 0] rfl (C_without_L21_ok hL d qF a1 0 0 _ _ h1821 ?_)
    refine q_iload_n dX11_without_61 rfl rfl ?_
    cases h
    exact q_ireturn dX11_without_62 rfl hQ
  · rw [if_pos (show q1808.1 = 0 from g)] at h
    refine q_iconst dX11_without_8 rfl rfl ?_
    cases h
    exact q_ireturn dX11_without_9 rfl hQ
set_option maxRecDepth 20000 in
theorem Stays_slotsIn_ok {X : qX} (hL : ∀ c, c < 93 → c ∈ qLs X) (d : Nat) (a1 : Int) (a2 : Int) (a3 : Int) (S : qSto) (o : (Int × qSto)) (h : Stays_slotsIn a1 a2 a3 S = some o) (Q : Option qV → qSto → Prop) (hQ : Q (some (qi o.1)) o.2) : qC X (d + 1) yX7_slotsIn cX7_slotsIn 4 (some .int) [qr 6, qi a1, qi a2, qi a3] S Q := by
  refine q_entry (lv := [(0, qr 6), (1, qi a1), (2, qi a2), (3, qi a3)]) pn_X7 (Nat.le_of_ble_eq_true rfl) rfl ?_
  unfold Stays_slotsIn at h
  refine q_aload_n dX7_slotsIn_0 rfl rfl ?_
  refine q_iload_n dX7_slotsIn_1 rfl rfl ?_
  obtain ⟨q1828, h1829, h⟩ := Option.bind_eq_some_iff.mp h
  refine q_callVi (as := [qi a1]) (c := 6) dX7_slotsIn_2 ml_X7_50 rfl rfl (hL 6 (by decide)) sh_6 rfl rfl (Nat.le_of_ble_eq_true rfl) (Stays_has_ok hL d a1 _ _ h1829) rfl ?_
  obtain ⟨c1830, h⟩ := qk_some h
  refine q_if_ne (tgt := 10) dX7_slotsIn_5 (by decide) rfl (qRb_R c1830)  (fun g => ?_) (fun g => ?_)
  · rw [if_neg (show ¬ (q1828.1 = 0) from g)] at h
    refine q_iconst dX7_slotsIn_10 rfl rfl ?_
    refine q_iload_n dX7_slotsIn_11 rfl rfl ?_
    refine q_aload_n dX7_slotsIn_12 rfl rfl ?_
    refine q_getA dX7_slotsIn_13 fl_X7_27 (hL 6 (by decide)) sh_6 (by decide) rfl rfl ?_
    refine q_iload_n dX7_slotsIn_16 rfl rfl ?_
    obtain ⟨c1831, h⟩ := qk_some h
    refine q_iaload dX7_slotsIn_17 (hL 42 (by decide)) sh_42 (qIx_0 c1831) (qIx_1 c1831) rfl ?_
    obtain ⟨q1832, h1833, h⟩ := Option.bind_eq_some_iff.mp h
    refine q_callSi (as := [qi a3, qi (q1828.2 42 (Int.toNat a1))]) dX7_slotsIn_18 ml_X7_74 rfl rfl (Nat.le_of_ble_eq_true rfl) (Jm_min_ok hL d a3 (q1828.2 42 (Int.toNat a1)) _ _ h1833) rfl ?_
    refine q_iload_n dX7_slotsIn_21 rfl rfl ?_
    refine q_aload_n dX7_slotsIn_22 rfl rfl ?_
    refine q_getA dX7_slotsIn_23 fl_X7_18 (hL 6 (by decide)) sh_6 (by decide) rfl rfl ?_
    refine q_iload_n dX7_slotsIn_26 rfl rfl ?_
    obtain ⟨c1834, h⟩ := qk_some h
    refine q_iaload dX7_slotsIn_27 (hL 39 (by decide)) sh_39 (qIx_0 c1834) (qIx_1 c1834) rfl ?_
    obtain ⟨q1835, h1836, h⟩ := Option.bind_eq_some_iff.mp h
    refine q_callSi (as := [qi a2, qi (q1832.2 39 (Int.toNat a1))]) dX7_slotsIn_28 ml_X7_108 rfl rfl (Nat.le_of_ble_eq_true rfl) (Jm_max_ok hL d a2 (q1832.2 39 (Int.toNat a1)) _ _ h1836) rfl ?_
    refine q_isub dX7_slotsIn_31 rfl ?_
    obtain ⟨q1837, h1838, h⟩ := Option.bind_eq_some_iff.mp h
    refine q_callSi (as := [qi 0, qi (q1832.1 - q1835.1)]) dX7_slotsIn_32 ml_X7_108 rfl rfl (Nat.le_of_ble_eq_true rfl) (Jm_max_ok hL d 0 (q1832.1 - q1835.1) _ _ h1838) rfl ?_
    cases h
    exact q_ireturn dX7_slotsIn_35 rfl hQ
  · rw [if_pos (show q1828.1 = 0 from g)] at h
    refine q_iconst dX7_slotsIn_8 rfl rfl ?_
    cases h
    exact q_ireturn dX7_slotsIn_9 rfl hQ
set_option maxRecDepth 20000 in
theorem C_used_L16_ok {X : qX} (hL : ∀ c, c < 93 → c ∈ qLs X) (d : Nat) {Q : Option qV → qSto → Prop} : ∀ (n : Nat) (x1 : Int) (x2 : Int) (x3 : Int) (S : qSto) (o : (Int × qSto)), C_used_L16 n x1 x2 x3 S = some o → (qW X (d + 2) yX11_used cX11_used 4 (some .int) 64 [(0, qr 0), (2, qi o.1)] [] o.2 Q) → qW X (d + 2) yX11_used cX11_used 4 (some .int) 16 [(0, qr 0), (1, qi x1), (2, qi x2), (3, qi x3)] [] S Q := by
  intro n
  induction n with
  | zero =>
    intro x1 x2 x3 S o h
    simp [C_used_L16] at h
  | succ n ih =>
    intro x1 x2 x3 S o h hE
    rw [C_used_L16] at h
    refine q_iload_n dX11_used_16 rfl rfl ?_
    refine q_aload_n dX11_used_17 rfl rfl ?_
    refine q_getA dX11_used_18 fl_X11_16 (hL 0 (by decide)) sh_0 (by decide) rfl rfl ?_
    refine q_getI dX11_used_21 fl_X11_158 (hL 2 (by decide)) sh_2 (by decide) rfl rfl ?_
    obtain ⟨c1824, h⟩ := qk_some h
    obtain ⟨c1825, h⟩ := qk_some h
    refine q_icmp_ge (tgt := 64) dX11_used_24 (by decide) rfl (qRb_R c1824) (qRb_R c1825) (fun g => ?_) (fun g => ?_)
    · rw [if_pos (show (S 2 12) ≤ x3 from g)] at h
      cases h
      exact q_pick [0, 2] rfl (hE)
    · rw [if_neg (show ¬ ((S 2 12) ≤ x3) from g)] at h
      refine q_iload_n dX11_used_27 rfl rfl ?_
      refine q_aload_n dX11_used_28 rfl rfl ?_
      refine q_getA dX11_used_29 fl_X11_16 (hL 0 (by decide)) sh_0 (by decide) rfl rfl ?_
      refine q_iload_n dX11_used_32 rfl rfl ?_
      refine q_iconst dX11_used_33 rfl rfl ?_
      obtain ⟨q1826, h1827, h⟩ := Option.bind_eq_some_iff.mp h
      refine q_callVi (as := [qi x3, qi 0]) (c := 2) dX11_used_34 ml_X11_219 rfl rfl (hL 2 (by decide)) sh_2 rfl rfl (Nat.le_of_ble_eq_true rfl) (Told_contractOf_ok hL (d + 1) x3 0 _ _ h1827) rfl ?_
      refine q_aload_n dX11_used_37 rfl rfl ?_
      refine q_getA dX11_used_38 fl_X11_49 (hL 0 (by decide)) sh_0 (by decide) rfl rfl ?_
      refine q_iload_n dX11_used_41 rfl rfl ?_
      refine q_iload_n dX11_used_42 rfl rfl ?_
      refine q_bipush dX11_used_43 (by decide) rfl ?_
      refine q_imul dX11_used_45 rfl ?_
      refine q_iload_n dX11_used_46 rfl rfl ?_
      refine q_iconst dX11_used_47 rfl rfl ?_
      refine q_iadd dX11_used_48 rfl ?_
      refine q_bipush dX11_used_49 (by decide) rfl ?_
      refine q_imul dX11_used_51 rfl ?_
      obtain ⟨q1839, h1840, h⟩ := Option.bind_eq_some_iff.mp h
      refine q_callVi (as := [qi x3, qi (x1 * 48), qi ((x1 + 1) * 48)]) (c := 6) dX11_used_52 ml_X11_394 rfl rfl (hL 6 (by decide)) sh_6 rfl rfl (Nat.le_of_ble_eq_true rfl) (Stays_slotsIn_ok hL d x3 (x1 * 48) ((x1 + 1) * 48) _ _ h1840) rfl ?_
      refine q_imul dX11_used_55 rfl ?_
      refine q_iadd dX11_used_56 rfl ?_
      refine q_istore_n (lv' := [(2, qi (x2 + (q1826.1 * q1839.1))), (0, qr 0), (1, qi x1), (3, qi x3)]) dX11_used_57 (by decide) rfl rfl ?_
      refine q_iinc (lv' := [(3, qi (x3 + 1)), (2, qi (x2 + (q1826.1 * q1839.1))), (0, qr 0), (1, qi x1)]) dX11_used_58 (by decide) rfl rfl rfl ?_
      refine q_goto (pc' := 16) dX11_used_61 (by decide) ?_
      exact q_pick [2, 3, 1, 0] rfl (ih x1 (x2 + (q1826.1 * q1839.1)) (x3 + 1) _ _ h hE)
set_option maxRecDepth 20000 in
theorem C_used_ok {X : qX} (hL : ∀ c, c < 93 → c ∈ qLs X) (d : Nat) (a1 : Int) (S : qSto) (o : (Int × qSto)) (h : C_used a1 S = some o) (Q : Option qV → qSto → Prop) (hQ : Q (some (qi o.1)) o.2) : qC X (d + 2) yX11_used cX11_used 4 (some .int) [qr 0, qi a1] S Q := by
  refine q_entry (lv := [(0, qr 0), (1, qi a1)]) pn_X11 (Nat.le_of_ble_eq_true rfl) rfl ?_
  unfold C_used at h
  refine q_iload_n dX11_used_0 rfl rfl ?_
  obtain ⟨c1822, h⟩ := qk_some h
  refine q_if_lt (tgt := 10) dX11_used_1 (by decide) rfl (qRb_R c1822)  (fun g => ?_) (fun g => ?_)
  · rw [if_pos (show a1 < 0 from g)] at h
    refine q_iconst dX11_used_10 rfl rfl ?_
    cases h
    exact q_ireturn dX11_used_11 rfl hQ
  · rw [if_neg (show ¬ (a1 < 0) from g)] at h
    refine q_iload_n dX11_used_4 rfl rfl ?_
    refine q_bipush dX11_used_5 (by decide) rfl ?_
    obtain ⟨c1823, h⟩ := qk_some h
    refine q_icmp_lt (tgt := 12) dX11_used_7 (by decide) rfl (qRb_R c1823) ⟨by decide, by decide⟩ (fun g => ?_) (fun g => ?_)
    · rw [if_pos (show a1 < 7 from g)] at h
      refine q_iconst dX11_used_12 rfl rfl ?_
      refine q_istore_n (lv' := [(2, qi 0), (0, qr 0), (1, qi a1)]) dX11_used_13 (by decide) rfl rfl ?_
      refine q_iconst dX11_used_14 rfl rfl ?_
      refine q_istore_n (lv' := [(3, qi 0), (2, qi 0), (0, qr 0), (1, qi a1)]) dX11_used_15 (by decide) rfl rfl ?_
      obtain ⟨q1841, h1842, h⟩ := Option.bind_eq_some_iff.mp h
      refine q_pick [2, 3, 1, 0] rfl (C_used_L16_ok hL d qF a1 0 0 _ _ h1842 ?_)
      refine q_iload_n dX11_used_64 rfl rfl ?_
      refine q_bipush dX11_used_65 (by decide) rfl ?_
      refine q_imul dX11_used_67 rfl ?_
      refine q_iconst dX11_used_68 rfl rfl ?_
      refine q_aload_n dX11_used_69 rfl rfl ?_
      refine q_getA dX11_used_70 fl_X11_16 (hL 0 (by decide)) sh_0 (by decide) rfl rfl ?_
      refine q_getA dX11_used_73 fl_X11_146 (hL 2 (by decide)) sh_2 (by decide) rfl rfl ?_
      refine q_iconst dX11_used_76 rfl rfl ?_
      refine q_iaload dX11_used_77 (hL 15 (by decide)) sh_15 (by decide) (by decide) rfl ?_
      obtain ⟨q1843, h1844, h⟩ := Option.bind_eq_some_iff.mp h
      refine q_callSi (as := [qi 1, qi (q1841.2 15 0)]) dX11_used_78 ml_X11_397 rfl rfl (Nat.le_of_ble_eq_true rfl) (Jm_max_ok hL (d + 1) 1 (q1841.2 15 0) _ _ h1844) rfl ?_
      refine q_bipush dX11_used_81 (by decide) rfl ?_
      refine q_imul dX11_used_83 rfl ?_
      obtain ⟨c1845, h⟩ := qk_some h
      obtain ⟨c1846, h⟩ := qk_some h
      obtain ⟨c1847, h⟩ := qk_some h
      refine q_idiv dX11_used_84 (qRb_R c1845) (qRb_R c1846) (qNz_ne c1847) rfl ?_
      cases h
      exact q_ireturn dX11_used_85 rfl hQ
    · rw [if_neg (show ¬ (a1 < 7) from g)] at h
      refine q_iconst dX11_used_10 rfl rfl ?_
      cases h
      exact q_ireturn dX11_used_11 rfl hQ
set_option maxRecDepth 20000 in
theorem C_rankShare_ok {X : qX} (hL : ∀ c, c < 93 → c ∈ qLs X) (d : Nat) (a1 : Int) (a2 : Int) (S : qSto) (o : (Int × qSto)) (h : C_rankShare a1 a2 S = some o) (Q : Option qV → qSto → Prop) (hQ : Q (some (qi o.1)) o.2) : qC X (d + 3) yX11_rankShare cX11_rankShare 3 (some .int) [qr 0, qi a1, qi a2] S Q := by
  refine q_entry (lv := [(0, qr 0), (1, qi a1), (2, qi a2)]) pn_X11 (Nat.le_of_ble_eq_true rfl) rfl ?_
  unfold C_rankShare at h
  refine q_iload_n dX11_rankShare_0 rfl rfl ?_
  obtain ⟨c1859, h⟩ := qk_some h
  by_cases e4165 : a2 = 2
  · rw [if_pos e4165] at h
    refine q_lsw (tgt := 28) (off := 27) dX11_rankShare_1 (by decide) (qRb_R c1859) (by rw [e4165]; rfl) (by decide) ?_
    refine q_aload_n dX11_rankShare_28 rfl rfl ?_
    refine q_getA dX11_rankShare_29 fl_X11_49 (hL 0 (by decide)) sh_0 (by decide) rfl rfl ?_
    refine q_iload_n dX11_rankShare_32 rfl rfl ?_
    obtain ⟨q1860, h1861, h⟩ := Option.bind_eq_some_iff.mp h
    refine q_callVi (as := [qi a1]) (c := 6) dX11_rankShare_33 ml_X11_239 rfl rfl (hL 6 (by decide)) sh_6 rfl rfl (Nat.le_of_ble_eq_true rfl) (Stays_lateOf_ok hL (d + 1) a1 _ _ h1861) rfl ?_
    cases h
    exact q_ireturn dX11_rankShare_36 rfl hQ
  · rw [if_neg e4165] at h
    by_cases e4166 : a2 = 4
    · rw [if_pos e4166] at h
      refine q_lsw (tgt := 37) (off := 36) dX11_rankShare_1 (by decide) (qRb_R c1859) (by rw [e4166]; rfl) (by decide) ?_
      refine q_aload_n dX11_rankShare_37 rfl rfl ?_
      refine q_getA dX11_rankShare_38 fl_X11_49 (hL 0 (by decide)) sh_0 (by decide) rfl rfl ?_
      refine q_iload_n dX11_rankShare_41 rfl rfl ?_
      obtain ⟨q1862, h1863, h⟩ := Option.bind_eq_some_iff.mp h
      refine q_callVi (as := [qi a1]) (c := 6) dX11_rankShare_42 ml_X11_182 rfl rfl (hL 6 (by decide)) sh_6 rfl rfl (Nat.le_of_ble_eq_true rfl) (Stays_costOf_ok hL d a1 _ _ h1863) rfl ?_
      cases h
      exact q_ireturn dX11_rankShare_45 rfl hQ
    · rw [if_neg e4166] at h
      refine q_lsw (tgt := 46) (off := 45) dX11_rankShare_1 (by decide) (qRb_R c1859) (by simp [Op.lookupswitch.offset, show ¬ (2 = a2) from fun z => e4165 z.symm, show ¬ (4 = a2) from fun z => e4166 z.symm]) (by decide) ?_
      refine q_iconst dX11_rankShare_46 rfl rfl ?_
      cases h
      exact q_ireturn dX11_rankShare_47 rfl hQ
