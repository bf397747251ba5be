set_option maxRecDepth 20000 in
theorem C_rank_L28_ok {X : qX} (hL : ∀ c, c < 93 → c ∈ qLs X) (d : Nat) {Q : Option qV → qSto → Prop} : ∀ (n : Nat) (x1 : Int) (x2 : Int) (x3 : Int) (x4 : Int) (x5 : Int) (S : qSto) (o : (Int × Int × qSto)), C_rank_L28 n x1 x2 x3 x4 x5 S = some o → (qW X (d + 4) yX11_rank cX11_rank 6 (some .int) 103 [(2, qi x2), (3, qi o.1), (4, qi o.2.1)] [] o.2.2 Q) → qW X (d + 4) yX11_rank cX11_rank 6 (some .int) 28 [(0, qr 0), (1, qi x1), (2, qi x2), (3, qi x3), (4, qi x4), (5, qi x5)] [] S Q := by
  intro n
  induction n with
  | zero =>
    intro x1 x2 x3 x4 x5 S o h
    simp [C_rank_L28] at h
  | succ n ih =>
    intro x1 x2 x3 x4 x5 S o h hE
    rw [C_rank_L28] at h
    refine q_iload dX11_rank_28 rfl rfl ?_
    refine q_aload_n dX11_rank_30 rfl rfl ?_
    refine q_getA dX11_rank_31 fl_X11_16 (hL 0 (by decide)) sh_0 (by decide) rfl rfl ?_
    refine q_getI dX11_rank_34 fl_X11_158 (hL 2 (by decide)) sh_2 (by decide) rfl rfl ?_
    obtain ⟨c1852, h⟩ := qk_some h
    obtain ⟨c1853, h⟩ := qk_some h
    refine q_icmp_ge (tgt := 103) dX11_rank_37 (by decide) rfl (qRb_R c1852) (qRb_R c1853) (fun g => ?_) (fun g => ?_)
    · rw [if_pos (show (S 2 12) ≤ x5 from g)] at h
      cases h
      exact q_pick [2, 3, 4] rfl (hE)
    · rw [if_neg (show ¬ ((S 2 12) ≤ x5) from g)] at h
      refine q_aload_n dX11_rank_40 rfl rfl ?_
      refine q_getA dX11_rank_41 fl_X11_16 (hL 0 (by decide)) sh_0 (by decide) rfl rfl ?_
      refine q_iload dX11_rank_44 rfl rfl ?_
      refine q_bipush dX11_rank_46 (by decide) rfl ?_
      obtain ⟨q1854, h1855, h⟩ := Option.bind_eq_some_iff.mp h
      refine q_callVi (as := [qi x5, qi 6]) (c := 2) dX11_rank_48 ml_X11_219 rfl rfl (hL 2 (by decide)) sh_2 rfl rfl (Nat.le_of_ble_eq_true rfl) (Told_contractOf_ok hL (d + 3) x5 6 _ _ h1855) rfl ?_
      refine q_iload_n dX11_rank_51 rfl rfl ?_
      refine q_jn (G := fun (t1879 : (Int × Int × qSto)) => qW X (d + 4) yX11_rank cX11_rank 6 (some .int) 97 [(0, qr 0), (1, qi x1), (2, qi x2), (3, qi t1879.1), (4, qi t1879.2.1), (5, qi x5)] [] t1879.2.2 Q) h (fun t1879 h => ?_) (fun t1879 h hk4167 => ?_)
      · try dsimp only at h
        refine q_iinc (lv' := [(5, qi (x5 + 1)), (0, qr 0), (1, qi x1), (2, qi x2), (3, qi t1879.1), (4, qi t1879.2.1)]) dX11_rank_97 (by decide) rfl rfl rfl ?_
        refine q_goto (pc' := 28) dX11_rank_100 (by decide) ?_
        exact q_pick [1, 2, 3, 4, 5, 0] rfl (ih x1 x2 t1879.1 t1879.2.1 (x5 + 1) _ _ h hE)
      · skip
        obtain ⟨c1856, h⟩ := qk_some h
        obtain ⟨c1857, h⟩ := qk_some h
        refine q_icmp_ne (tgt := 97) dX11_rank_52 (by decide) rfl (qRb_R c1856) (qRb_R c1857) (fun g => ?_) (fun g => ?_)
        · rw [if_neg (show ¬ (q1854.1 = x1) from g)] at h
          cases h
          exact q_pick [0, 1, 2, 3, 4, 5] rfl hk4167
        · rw [if_pos (show q1854.1 = x1 from g)] at h
          refine q_iload_n dX11_rank_55 rfl rfl ?_
          obtain ⟨c1858, h⟩ := qk_some h
          refine q_if_eq (tgt := 71) dX11_rank_56 (by decide) rfl (qRb_R c1858)  (fun g => ?_) (fun g => ?_)
          · rw [if_pos (show x2 = 0 from g)] at h
            refine q_iload_n dX11_rank_71 rfl rfl ?_
            refine q_aload_n dX11_rank_72 rfl rfl ?_
            refine q_iload dX11_rank_73 rfl rfl ?_
            refine q_iload_n dX11_rank_75 rfl rfl ?_
            obtain ⟨q1864, h1865, h⟩ := Option.bind_eq_some_iff.mp h
            refine q_callVi (as := [qi x5, qi x2]) (c := 0) dX11_rank_76 ml_X11_399 rfl rfl (hL 0 (by decide)) sh_0 rfl rfl (Nat.le_of_ble_eq_true rfl) (C_rankShare_ok hL d x5 x2 _ _ h1865) rfl ?_
            refine q_iadd dX11_rank_79 rfl ?_
            refine q_istore_n (lv' := [(3, qi (x3 + q1864.1)), (0, qr 0), (1, qi x1), (2, qi x2), (4, qi x4), (5, qi x5)]) dX11_rank_80 (by decide) rfl rfl ?_
            refine q_iload dX11_rank_81 rfl rfl ?_
            refine q_aload_n dX11_rank_83 rfl rfl ?_
            refine q_getA dX11_rank_84 fl_X11_49 (hL 0 (by decide)) sh_0 (by decide) rfl rfl ?_
            refine q_iload dX11_rank_87 rfl rfl ?_
            obtain ⟨q1866, h1867, h⟩ := Option.bind_eq_some_iff.mp h
            refine q_callVi (as := [qi x5]) (c := 6) dX11_rank_89 ml_X11_239 rfl rfl (hL 6 (by decide)) sh_6 rfl rfl (Nat.le_of_ble_eq_true rfl) (Stays_lateOf_ok hL (d + 2) x5 _ _ h1867) rfl ?_
            obtain ⟨q1868, h1869, h⟩ := Option.bind_eq_some_iff.mp h
            refine q_callSi (as := [qi x4, qi q1866.1]) dX11_rank_92 ml_X11_397 rfl rfl (Nat.le_of_ble_eq_true rfl) (Jm_max_ok hL (d + 3) x4 q1866.1 _ _ h1869) rfl ?_
            refine q_istore (lv' := [(4, qi q1868.1), (3, qi (x3 + q1864.1)), (0, qr 0), (1, qi x1), (2, qi x2), (5, qi x5)]) dX11_rank_95 (by decide) rfl rfl ?_
            cases h
            exact q_pick [2, 3, 4, 1, 0, 5] rfl hk4167
          · rw [if_neg (show ¬ (x2 = 0) from g)] at h
            refine q_aload_n dX11_rank_59 rfl rfl ?_
            refine q_getA dX11_rank_60 fl_X11_49 (hL 0 (by decide)) sh_0 (by decide) rfl rfl ?_
            refine q_iload dX11_rank_63 rfl rfl ?_
            obtain ⟨q1870, h1871, h⟩ := Option.bind_eq_some_iff.mp h
            refine q_callVi (as := [qi x5]) (c := 6) dX11_rank_65 ml_X11_178 rfl rfl (hL 6 (by decide)) sh_6 rfl rfl (Nat.le_of_ble_eq_true rfl) (Stays_has_ok hL (d + 3) x5 _ _ h1871) rfl ?_
            obtain ⟨c1872, h⟩ := qk_some h
            refine q_if_eq (tgt := 97) dX11_rank_68 (by decide) rfl (qRb_R c1872)  (fun g => ?_) (fun g => ?_)
            · rw [if_pos (show q1870.1 = 0 from g)] at h
              cases h
              exact q_pick [0, 1, 2, 3, 4, 5] rfl hk4167
            · rw [if_neg (show ¬ (q1870.1 = 0) from g)] at h
              refine q_iload_n dX11_rank_71 rfl rfl ?_
              refine q_aload_n dX11_rank_72 rfl rfl ?_
              refine q_iload dX11_rank_73 rfl rfl ?_
              refine q_iload_n dX11_rank_75 rfl rfl ?_
              obtain ⟨q1873, h1874, h⟩ := Option.bind_eq_some_iff.mp h
              refine q_callVi (as := [qi x5, qi x2]) (c := 0) dX11_rank_76 ml_X11_399 rfl rfl (hL 0 (by decide)) sh_0 rfl rfl (Nat.le_of_ble_eq_true rfl) (C_rankShare_ok hL d x5 x2 _ _ h1874) rfl ?_
              refine q_iadd dX11_rank_79 rfl ?_
              refine q_istore_n (lv' := [(3, qi (x3 + q1873.1)), (0, qr 0), (1, qi x1), (2, qi x2), (4, qi x4), (5, qi x5)]) dX11_rank_80 (by decide) rfl rfl ?_
              refine q_iload dX11_rank_81 rfl rfl ?_
              refine q_aload_n dX11_rank_83 rfl rfl ?_
              refine q_getA dX11_rank_84 fl_X11_49 (hL 0 (by decide)) sh_0 (by decide) rfl rfl ?_
              refine q_iload dX11_rank_87 rfl rfl ?_
              obtain ⟨q1875, h1876, h⟩ := Option.bind_eq_some_iff.mp h
              refine q_callVi (as := [qi x5]) (c := 6) dX11_rank_89 ml_X11_239 rfl rfl (hL 6 (by decide)) sh_6 rfl rfl (Nat.le_of_ble_eq_true rfl) (Stays_lateOf_ok hL (d + 2) x5 _ _ h1876) rfl ?_
              obtain ⟨q1877, h1878, h⟩ := Option.bind_eq_some_iff.mp h
              refine q_callSi (as := [qi x4, qi q1875.1]) dX11_rank_92 ml_X11_397 rfl rfl (Nat.le_of_ble_eq_true rfl) (Jm_max_ok hL (d + 3) x4 q1875.1 _ _ h1878) rfl ?_
              refine q_istore (lv' := [(4, qi q1877.1), (3, qi (x3 + q1873.1)), (0, qr 0), (1, qi x1), (2, qi x2), (5, qi x5)]) dX11_rank_95 (by decide) rfl rfl ?_
              cases h
              exact q_pick [2, 3, 4, 1, 0, 5] rfl hk4167
set_option maxRecDepth 20000 in
theorem C_rank_ok {X : qX} (hL : ∀ c, c < 93 → c ∈ qLs X) (d : Nat) (a1 : Int) (a2 : Int) (S : qSto) (o : (Int × qSto)) (h : C_rank a1 a2 S = some o) (Q : Option qV → qSto → Prop) (hQ : Q (some (qi o.1)) o.2) : qC X (d + 4) yX11_rank cX11_rank 6 (some .int) [qr 0, qi a1, qi a2] S Q := by
  refine q_entry (lv := [(0, qr 0), (1, qi a1), (2, qi a2)]) pn_X11 (Nat.le_of_ble_eq_true rfl) rfl ?_
  unfold C_rank at h
  refine q_iload_n dX11_rank_0 rfl rfl ?_
  obtain ⟨c1848, h⟩ := qk_some h
  refine q_if_lt (tgt := 18) dX11_rank_1 (by decide) rfl (qRb_R c1848)  (fun g => ?_) (fun g => ?_)
  · rw [if_pos (show a1 < 0 from g)] at h
    refine q_iconst dX11_rank_18 rfl rfl ?_
    cases h
    exact q_ireturn dX11_rank_19 rfl hQ
  · rw [if_neg (show ¬ (a1 < 0) from g)] at h
    refine q_iload_n dX11_rank_4 rfl rfl ?_
    refine q_iconst dX11_rank_5 rfl rfl ?_
    obtain ⟨c1849, h⟩ := qk_some h
    refine q_icmp_ge (tgt := 18) dX11_rank_6 (by decide) rfl (qRb_R c1849) ⟨by decide, by decide⟩ (fun g => ?_) (fun g => ?_)
    · rw [if_pos (show 4 ≤ a1 from g)] at h
      refine q_iconst dX11_rank_18 rfl rfl ?_
      cases h
      exact q_ireturn dX11_rank_19 rfl hQ
    · rw [if_neg (show ¬ (4 ≤ a1) from g)] at h
      refine q_iload_n dX11_rank_9 rfl rfl ?_
      obtain ⟨c1850, h⟩ := qk_some h
      refine q_if_lt (tgt := 18) dX11_rank_10 (by decide) rfl (qRb_R c1850)  (fun g => ?_) (fun g => ?_)
      · rw [if_pos (show a2 < 0 from g)] at h
        refine q_iconst dX11_rank_18 rfl rfl ?_
        cases h
        exact q_ireturn dX11_rank_19 rfl hQ
      · rw [if_neg (show ¬ (a2 < 0) from g)] at h
        refine q_iload_n dX11_rank_13 rfl rfl ?_
        refine q_iconst dX11_rank_14 rfl rfl ?_
        obtain ⟨c1851, h⟩ := qk_some h
        refine q_icmp_le (tgt := 20) dX11_rank_15 (by decide) rfl (qRb_R c1851) ⟨by decide, by decide⟩ (fun g => ?_) (fun g => ?_)
        · rw [if_pos (show a2 ≤ 4 from g)] at h
          refine q_iconst dX11_rank_20 rfl rfl ?_
          refine q_istore_n (lv' := [(3, qi 0), (0, qr 0), (1, qi a1), (2, qi a2)]) dX11_rank_21 (by decide) rfl rfl ?_
          refine q_iconst dX11_rank_22 rfl rfl ?_
          refine q_istore (lv' := [(4, qi 0), (3, qi 0), (0, qr 0), (1, qi a1), (2, qi a2)]) dX11_rank_23 (by decide) rfl rfl ?_
          refine q_iconst dX11_rank_25 rfl rfl ?_
          refine q_istore (lv' := [(5, qi 0), (4, qi 0), (3, qi 0), (0, qr 0), (1, qi a1), (2, qi a2)]) dX11_rank_26 (by decide) rfl rfl ?_
          obtain ⟨q1880, h1881, h⟩ := Option.bind_eq_some_iff.mp h
          refine q_pick [3, 4, 5, 2, 1, 0] rfl (C_rank_L28_ok hL d qF a1 a2 0 0 0 _ _ h1881 ?_)
          refine q_iload_n dX11_rank_103 rfl rfl ?_
          refine q_iconst dX11_rank_104 rfl rfl ?_
          obtain ⟨c1882, h⟩ := qk_some h
          refine q_icmp_ne (tgt := 113) dX11_rank_105 (by decide) rfl (qRb_R c1882) ⟨by decide, by decide⟩ (fun g => ?_) (fun g => ?_)
          · rw [if_neg (show ¬ (a2 = 3) from g)] at h
            refine q_iload_n dX11_rank_113 rfl rfl ?_
            cases h
            exact q_ireturn dX11_rank_114 rfl hQ
          · rw [if_pos (show a2 = 3 from g)] at h
            refine q_iload dX11_rank_108 rfl rfl ?_
            refine q_goto (pc' := 114) dX11_rank_110 (by decide) ?_
            cases h
            exact q_ireturn dX11_rank_114 rfl hQ
        · rw [if_neg (show ¬ (a2 ≤ 4) from g)] at h
          refine q_iconst dX11_rank_18 rfl rfl ?_
          cases h
          exact q_ireturn dX11_rank_19 rfl hQ
set_option maxRecDepth 20000 in
theorem C_leaversAhead_L4_ok {X : qX} (hL : ∀ c, c < 93 → c ∈ qLs X) (d : Nat) {Q : Option qV → qSto → Prop} : ∀ (n : Nat) (x1 : Int) (x2 : Int) (x3 : Int) (S : qSto) (o : (Int × qSto)), C_leaversAhead_L4 n x1 x2 x3 S = some o → (qW X (d + 1) yX11_leaversAhead cX11_leaversAhead 5 (some .int) 94 [(2, qi o.1)] [] o.2 Q) → qW X (d + 1) yX11_leaversAhead cX11_leaversAhead 5 (some .int) 4 [(0, qr 0), (1, qi x1), (2, qi x2), (3, qi x3)] [] S Q := by
  intro n
  induction n with
  | zero =>
    intro x1 x2 x3 S o h
    simp [C_leaversAhead_L4] at h
  | succ n ih =>
    intro x1 x2 x3 S o h hE
    rw [C_leaversAhead_L4] at h
    refine q_iload_n dX11_leaversAhead_4 rfl rfl ?_
    refine q_aload_n dX11_leaversAhead_5 rfl rfl ?_
    refine q_getA dX11_leaversAhead_6 fl_X11_16 (hL 0 (by decide)) sh_0 (by decide) rfl rfl ?_
    refine q_getI dX11_leaversAhead_9 fl_X11_158 (hL 2 (by decide)) sh_2 (by decide) rfl rfl ?_
    obtain ⟨c1889, h⟩ := qk_some h
    obtain ⟨c1890, h⟩ := qk_some h
    refine q_icmp_ge (tgt := 94) dX11_leaversAhead_12 (by decide) rfl (qRb_R c1889) (qRb_R c1890) (fun g => ?_) (fun g => ?_)
    · rw [if_pos (show (S 2 12) ≤ x3 from g)] at h
      cases h
      exact q_pick [2] rfl (hE)
    · rw [if_neg (show ¬ ((S 2 12) ≤ x3) from g)] at h
      refine q_aload_n dX11_leaversAhead_15 rfl rfl ?_
      refine q_getA dX11_leaversAhead_16 fl_X11_49 (hL 0 (by decide)) sh_0 (by decide) rfl rfl ?_
      refine q_getA dX11_leaversAhead_19 fl_X11_236 (hL 6 (by decide)) sh_6 (by decide) rfl rfl ?_
      refine q_iload_n dX11_leaversAhead_22 rfl rfl ?_
      obtain ⟨c1891, h⟩ := qk_some h
      refine q_iaload dX11_leaversAhead_23 (hL 42 (by decide)) sh_42 (qIx_0 c1891) (qIx_1 c1891) rfl ?_
      refine q_aload_n dX11_leaversAhead_24 rfl rfl ?_
      refine q_getA dX11_leaversAhead_25 fl_X11_49 (hL 0 (by decide)) sh_0 (by decide) rfl rfl ?_
      refine q_getA dX11_leaversAhead_28 fl_X11_236 (hL 6 (by decide)) sh_6 (by decide) rfl rfl ?_
      refine q_iload_n dX11_leaversAhead_31 rfl rfl ?_
      obtain ⟨c1892, h⟩ := qk_some h
      refine q_iaload dX11_leaversAhead_32 (hL 42 (by decide)) sh_42 (qIx_0 c1892) (qIx_1 c1892) rfl ?_
      refine q_jn (G := fun (t1901 : Int) => qW X (d + 1) yX11_leaversAhead cX11_leaversAhead 5 (some .int) 67 [(0, qr 0), (1, qi x1), (2, qi x2), (3, qi x3)] [qi t1901] S Q) h (fun t1901 h => ?_) (fun t1901 h hk4168 => ?_)
      · try dsimp only at h
        refine q_istore (lv' := [(4, qi t1901), (0, qr 0), (1, qi x1), (2, qi x2), (3, qi x3)]) dX11_leaversAhead_67 (by decide) rfl rfl ?_
        refine q_aload_n dX11_leaversAhead_69 rfl rfl ?_
        refine q_getA dX11_leaversAhead_70 fl_X11_49 (hL 0 (by decide)) sh_0 (by decide) rfl rfl ?_
        refine q_iload_n dX11_leaversAhead_73 rfl rfl ?_
        obtain ⟨q1902, h1903, h⟩ := Option.bind_eq_some_iff.mp h
        refine q_callVi (as := [qi x3]) (c := 6) dX11_leaversAhead_74 ml_X11_178 rfl rfl (hL 6 (by decide)) sh_6 rfl rfl (Nat.le_of_ble_eq_true rfl) (Stays_has_ok hL d x3 _ _ h1903) rfl ?_
        refine q_jn (G := fun (t1906 : Int) => qW X (d + 1) yX11_leaversAhead cX11_leaversAhead 5 (some .int) 88 [(0, qr 0), (1, qi x1), (2, qi t1906), (3, qi x3)] [] q1902.2 Q) h (fun t1906 h => ?_) (fun t1906 h hk4169 => ?_)
        · try dsimp only at h
          refine q_iinc (lv' := [(3, qi (x3 + 1)), (0, qr 0), (1, qi x1), (2, qi t1906)]) dX11_leaversAhead_88 (by decide) rfl rfl rfl ?_
          refine q_goto (pc' := 4) dX11_leaversAhead_91 (by decide) ?_
          exact q_pick [1, 2, 3, 0] rfl (ih x1 t1906 (x3 + 1) _ _ h hE)
        · skip
          obtain ⟨c1904, h⟩ := qk_some h
          refine q_if_eq (tgt := 88) dX11_leaversAhead_77 (by decide) rfl (qRb_R c1904)  (fun g => ?_) (fun g => ?_)
          · rw [if_pos (show q1902.1 = 0 from g)] at h
            cases h
            exact q_pick [1, 2, 3, 4] rfl hk4169
          · rw [if_neg (show ¬ (q1902.1 = 0) from g)] at h
            refine q_iload dX11_leaversAhead_80 rfl rfl ?_
            obtain ⟨c1905, h⟩ := qk_some h
            refine q_if_eq (tgt := 88) dX11_leaversAhead_82 (by decide) rfl (qRb_R c1905)  (fun g => ?_) (fun g => ?_)
            · rw [if_pos (show t1901 = 0 from g)] at h
              cases h
              exact q_pick [1, 2, 3, 4] rfl hk4169
            · rw [if_neg (show ¬ (t1901 = 0) from g)] at h
              refine q_iinc (lv' := [(2, qi (x2 + 1)), (4, qi t1901), (0, qr 0), (1, qi x1), (3, qi x3)]) dX11_leaversAhead_85 (by decide) rfl rfl rfl ?_
              cases h
              exact q_pick [2, 3, 0, 4] rfl hk4169
      · skip
        obtain ⟨c1893, h⟩ := qk_some h
        obtain ⟨c1894, h⟩ := qk_some h
        refine q_icmp_lt (tgt := 62) dX11_leaversAhead_33 (by decide) rfl (qRb_R c1893) (qRb_R c1894) (fun g => ?_) (fun g => ?_)
        · rw [if_pos (show (S 42 (Int.toNat x3)) < (S 42 (Int.toNat x1)) from g)] at h
          refine q_iconst dX11_leaversAhead_62 rfl rfl ?_
          refine q_goto (pc' := 67) dX11_leaversAhead_63 (by decide) ?_
          cases h
          exact q_pick [0, 1, 2, 3] rfl hk4168
        · rw [if_neg (show ¬ ((S 42 (Int.toNat x3)) < (S 42 (Int.toNat x1))) from g)] at h
          refine q_aload_n dX11_leaversAhead_36 rfl rfl ?_
          refine q_getA dX11_leaversAhead_37 fl_X11_49 (hL 0 (by decide)) sh_0 (by decide) rfl rfl ?_
          refine q_getA dX11_leaversAhead_40 fl_X11_236 (hL 6 (by decide)) sh_6 (by decide) rfl rfl ?_
          refine q_iload_n dX11_leaversAhead_43 rfl rfl ?_
          obtain ⟨c1895, h⟩ := qk_some h
          refine q_iaload dX11_leaversAhead_44 (hL 42 (by decide)) sh_42 (qIx_0 c1895) (qIx_1 c1895) rfl ?_
          refine q_aload_n dX11_leaversAhead_45 rfl rfl ?_
          refine q_getA dX11_leaversAhead_46 fl_X11_49 (hL 0 (by decide)) sh_0 (by decide) rfl rfl ?_
          refine q_getA dX11_leaversAhead_49 fl_X11_236 (hL 6 (by decide)) sh_6 (by decide) rfl rfl ?_
          refine q_iload_n dX11_leaversAhead_52 rfl rfl ?_
          obtain ⟨c1896, h⟩ := qk_some h
          refine q_iaload dX11_leaversAhead_53 (hL 42 (by decide)) sh_42 (qIx_0 c1896) (qIx_1 c1896) rfl ?_
          obtain ⟨c1897, h⟩ := qk_some h
          obtain ⟨c1898, h⟩ := qk_some h
          refine q_icmp_ne (tgt := 66) dX11_leaversAhead_54 (by decide) rfl (qRb_R c1897) (qRb_R c1898) (fun g => ?_) (fun g => ?_)
          · rw [if_neg (show ¬ ((S 42 (Int.toNat x3)) = (S 42 (Int.toNat x1))) from g)] at h
            refine q_iconst dX11_leaversAhead_66 rfl rfl ?_
            cases h
            exact q_pick [0, 1, 2, 3] rfl hk4168
          · rw [if_pos (show (S 42 (Int.toNat x3)) = (S 42 (Int.toNat x1)) from g)] at h
            refine q_iload_n dX11_leaversAhead_57 rfl rfl ?_
            refine q_iload_n dX11_leaversAhead_58 rfl rfl ?_
            obtain ⟨c1899, h⟩ := qk_some h
            obtain ⟨c1900, h⟩ := qk_some h
            refine q_icmp_ge (tgt := 66) dX11_leaversAhead_59 (by decide) rfl (qRb_R c1899) (qRb_R c1900) (fun g => ?_) (fun g => ?_)
            · rw [if_pos (show x1 ≤ x3 from g)] at h
              refine q_iconst dX11_leaversAhead_66 rfl rfl ?_
              cases h
              exact q_pick [0, 1, 2, 3] rfl hk4168
            · rw [if_neg (show ¬ (x1 ≤ x3) from g)] at h
              refine q_iconst dX11_leaversAhead_62 rfl rfl ?_
              refine q_goto (pc' := 67) dX11_leaversAhead_63 (by decide) ?_
              cases h
              exact q_pick [0, 1, 2, 3] rfl hk4168
set_option maxRecDepth 20000 in
theorem C_leaversAhead_ok {X : qX} (hL : ∀ c, c < 93 → c ∈ qLs X) (d : Nat) (a1 : Int) (S : qSto) (o : (Int × qSto)) (h : C_leaversAhead a1 S = some o) (Q : Option qV → qSto → Prop) (hQ : Q (some (qi o.1)) o.2) : qC X (d + 1) yX11_leaversAhead cX11_leaversAhead 5 (some .int) [qr 0, qi a1] S Q := by
  refine q_entry (lv := [(0, qr 0), (1, qi a1)]) pn_X11 (Nat.le_of_ble_eq_true rfl) rfl ?_
  unfold C_leaversAhead at h
  refine q_iconst dX11_leaversAhead_0 rfl rfl ?_
  refine q_istore_n (lv' := [(2, qi 0), (0, qr 0), (1, qi a1)]) dX11_leaversAhead_1 (by decide) rfl rfl ?_
  refine q_iconst dX11_leaversAhead_2 rfl rfl ?_
  refine q_istore_n (lv' := [(3, qi 0), (2, qi 0), (0, qr 0), (1, qi a1)]) dX11_leaversAhead_3 (by decide) rfl rfl ?_
  obtain ⟨q1907, h1908, h⟩ := Option.bind_eq_some_iff.mp h
  refine q_pick [2, 3, 1, 0] rfl (C_leaversAhead_L4_ok hL d qF a1 0 0 _ _ h1908 ?_)
  refine q_iload_n dX11_leaversAhead_94 rfl rfl ?_
  cases h
  exact q_ireturn dX11_leaversAhead_95 rfl hQ
set_option maxRecDepth 20000 in
theorem C_leaver_L8_ok {X : qX} (hL : ∀ c, c < 93 → c ∈ qLs X) (d : Nat) {Q : Option qV → qSto → Prop} : ∀ (n : Nat) (x1 : Int) (x2 : Int) (S : qSto) (o : (qSto ⊕ (Int × qSto))), C_leaver_L8 n x1 x2 S = some o → (∀ t, o = Sum.inl t → qW X (d + 2) yX11_leaver cX11_leaver 3 (some .int) 47 [] [] t Q) → (∀ w, o = Sum.inr w → Q (some (qi w.1)) w.2) → qW X (d + 2) yX11_leaver cX11_leaver 3 (some .int) 8 [(0, qr 0), (1, qi x1), (2, qi x2)] [] S Q := by
  intro n
  induction n with
  | zero =>
    intro x1 x2 S o h
    simp [C_leaver_L8] at h
  | succ n ih =>
    intro x1 x2 S o h hE hR
    rw [C_leaver_L8] at h
    refine q_iload_n dX11_leaver_8 rfl rfl ?_
    refine q_aload_n dX11_leaver_9 rfl rfl ?_
    refine q_getA dX11_leaver_10 fl_X11_16 (hL 0 (by decide)) sh_0 (by decide) rfl rfl ?_
    refine q_getI dX11_leaver_13 fl_X11_158 (hL 2 (by decide)) sh_2 (by decide) rfl rfl ?_
    obtain ⟨c1884, h⟩ := qk_some h
    obtain ⟨c1885, h⟩ := qk_some h
    refine q_icmp_ge (tgt := 47) dX11_leaver_16 (by decide) rfl (qRb_R c1884) (qRb_R c1885) (fun g => ?_) (fun g => ?_)
    · rw [if_pos (show (S 2 12) ≤ x2 from g)] at h
      cases h
      exact q_pick [] rfl (hE _ rfl)
    · rw [if_neg (show ¬ ((S 2 12) ≤ x2) from g)] at h
      refine q_aload_n dX11_leaver_19 rfl rfl ?_
      refine q_getA dX11_leaver_20 fl_X11_49 (hL 0 (by decide)) sh_0 (by decide) rfl rfl ?_
      refine q_iload_n dX11_leaver_23 rfl rfl ?_
      obtain ⟨q1886, h1887, h⟩ := Option.bind_eq_some_iff.mp h
      refine q_callVi (as := [qi x2]) (c := 6) dX11_leaver_24 ml_X11_178 rfl rfl (hL 6 (by decide)) sh_6 rfl rfl (Nat.le_of_ble_eq_true rfl) (Stays_has_ok hL (d + 1) x2 _ _ h1887) rfl ?_
      obtain ⟨c1888, h⟩ := qk_some h
      refine q_if_eq (tgt := 41) dX11_leaver_27 (by decide) rfl (qRb_R c1888)  (fun g => ?_) (fun g => ?_)
      · rw [if_pos (show q1886.1 = 0 from g)] at h
        refine q_iinc (lv' := [(2, qi (x2 + 1)), (0, qr 0), (1, qi x1)]) dX11_leaver_41 (by decide) rfl rfl rfl ?_
        refine q_goto (pc' := 8) dX11_leaver_44 (by decide) ?_
        exact q_pick [1, 2, 0] rfl (ih x1 (x2 + 1) _ _ h hE hR)
      · rw [if_neg (show ¬ (q1886.1 = 0) from g)] at h
        refine q_aload_n dX11_leaver_30 rfl rfl ?_
        refine q_iload_n dX11_leaver_31 rfl rfl ?_
        obtain ⟨q1909, h1910, h⟩ := Option.bind_eq_some_iff.mp h
        refine q_callVi (as := [qi x2]) (c := 0) dX11_leaver_32 ml_X11_402 rfl rfl (hL 0 (by decide)) sh_0 rfl rfl (Nat.le_of_ble_eq_true rfl) (C_leaversAhead_ok hL d x2 _ _ h1910) rfl ?_
        refine q_iload_n dX11_leaver_35 rfl rfl ?_
        obtain ⟨c1911, h⟩ := qk_some h
        obtain ⟨c1912, h⟩ := qk_some h
        refine q_icmp_ne (tgt := 41) dX11_leaver_36 (by decide) rfl (qRb_R c1911) (qRb_R c1912) (fun g => ?_) (fun g => ?_)
        · rw [if_neg (show ¬ (q1909.1 = x1) from g)] at h
          refine q_iinc (lv' := [(2, qi (x2 + 1)), (0, qr 0), (1, qi x1)]) dX11_leaver_41 (by decide) rfl rfl rfl ?_
          refine q_goto (pc' := 8) dX11_leaver_44 (by decide) ?_
          exact q_pick [1, 2, 0] rfl (ih x1 (x2 + 1) _ _ h hE hR)
        · rw [if_pos (show q1909.1 = x1 from g)] at h
          refine q_iload_n dX11_leaver_39 rfl rfl ?_
          cases h
          exact q_ireturn dX11_leaver_40 rfl (hR _ rfl)
set_option maxRecDepth 20000 in
theorem C_leaver_ok {X : qX} (hL : ∀ c, c < 93 → c ∈ qLs X) (d : Nat) (a1 : Int) (S : qSto) (o : (Int × qSto)) (h : C_leaver a1 S = some o) (Q : Option qV → qSto → Prop) (hQ : Q (some (qi o.1)) o.2) : qC X (d + 2) yX11_leaver cX11_leaver 3 (some .int) [qr 0, qi a1] S Q := by
  refine q_entry (lv := [(0, qr 0), (1, qi a1)]) pn_X11 (Nat.le_of_ble_eq_true rfl) rfl ?_
  unfold C_leaver at h
  refine q_iload_n dX11_leaver_0 rfl rfl ?_
  obtain ⟨c1883, h⟩ := qk_some h
  refine q_if_ge (tgt := 6) dX11_leaver_1 (by decide) rfl (qRb_R c1883)  (fun g => ?_) (fun g => ?_)
  · rw [if_pos (show 0 ≤ a1 from g)] at h
    refine q_iconst dX11_leaver_6 rfl rfl ?_
    refine q_istore_n (lv' := [(2, qi 0), (0, qr 0), (1, qi a1)]) dX11_leaver_7 (by decide) rfl rfl ?_
    obtain ⟨q1913, h1914, h⟩ := Option.bind_eq_some_iff.mp h
    refine q_pick [1, 2, 0] rfl (C_leaver_L8_ok hL d qF a1 0 _ _ h1914 (fun t1915 e4170 => ?_) (fun w e4170 => ?_))
    · subst e4170
      simp only [Sum.elim_inl] at h
      refine q_bipush dX11_leaver_47 (by decide) rfl ?_
      cases h
      exact q_ireturn dX11_leaver_49 rfl hQ
    · subst e4170
      simp only [Sum.elim_inr] at h
      cases h
      exact hQ
  · rw [if_neg (show ¬ (0 ≤ a1) from g)] at h
    refine q_iconst dX11_leaver_4 rfl rfl ?_
    cases h
    exact q_ireturn dX11_leaver_5 rfl hQ
set_option maxRecDepth 20000 in
theorem C_meet_ok {X : qX} (hL : ∀ c, c < 93 → c ∈ qLs X) (d : Nat) (a1 : Int) (a2 : Int) (S : qSto) (o : (Int × qSto)) (h : C_meet a1 a2 S = some o) (Q : Option qV → qSto → Prop) (hQ : Q (some (qi o.1)) o.2) : qC X (d + 2) yX11_meet cX11_meet 3 (some .int) [qr 0, qi a1, qi a2] S Q := by
  refine q_entry (lv := [(0, qr 0), (1, qi a1), (2, qi a2)]) pn_X11 (Nat.le_of_ble_eq_true rfl) rfl ?_
  unfold C_meet at h
  refine q_aload_n dX11_meet_0 rfl rfl ?_
  refine q_iload_n dX11_meet_1 rfl rfl ?_
  obtain ⟨q1916, h1917, h⟩ := Option.bind_eq_some_iff.mp h
  refine q_callVi (as := [qi a1]) (c := 0) dX11_meet_2 ml_X11_216 rfl rfl (hL 0 (by decide)) sh_0 rfl rfl (Nat.le_of_ble_eq_true rfl) (C_isShip_ok hL (d + 1) a1 _ _ h1917) rfl ?_
  obtain ⟨c1918, h⟩ := qk_some h
  refine q_if_eq (tgt := 21) dX11_meet_5 (by decide) rfl (qRb_R c1918)  (fun g => ?_) (fun g => ?_)
  · rw [if_pos (show q1916.1 = 0 from g)] at h
    refine q_iconst dX11_meet_21 rfl rfl ?_
    cases h
    exact q_ireturn dX11_meet_22 rfl hQ
  · rw [if_neg (show ¬ (q1916.1 = 0) from g)] at h
    refine q_aload_n dX11_meet_8 rfl rfl ?_
    refine q_iload_n dX11_meet_9 rfl rfl ?_
    obtain ⟨q1919, h1920, h⟩ := Option.bind_eq_some_iff.mp h
    refine q_callVi (as := [qi a2]) (c := 0) dX11_meet_10 ml_X11_216 rfl rfl (hL 0 (by decide)) sh_0 rfl rfl (Nat.le_of_ble_eq_true rfl) (C_isShip_ok hL (d + 1) a2 _ _ h1920) rfl ?_
    obtain ⟨c1921, h⟩ := qk_some h
    refine q_if_eq (tgt := 21) dX11_meet_13 (by decide) rfl (qRb_R c1921)  (fun g => ?_) (fun g => ?_)
    · rw [if_pos (show q1919.1 = 0 from g)] at h
      refine q_iconst dX11_meet_21 rfl rfl ?_
      cases h
      exact q_ireturn dX11_meet_22 rfl hQ
    · rw [if_neg (show ¬ (q1919.1 = 0) from g)] at h
      refine q_iload_n dX11_meet_16 rfl rfl ?_
      refine q_iload_n dX11_meet_17 rfl rfl ?_
      obtain ⟨c1922, h⟩ := qk_some h
      obtain ⟨c1923, h⟩ := qk_some h
      refine q_icmp_ne (tgt := 23) dX11_meet_18 (by decide) rfl (qRb_R c1922) (qRb_R c1923) (fun g => ?_) (fun g => ?_)
      · rw [if_neg (show ¬ (a1 = a2) from g)] at h
        refine q_aload_n dX11_meet_23 rfl rfl ?_
        refine q_getA dX11_meet_24 fl_X11_49 (hL 0 (by decide)) sh_0 (by decide) rfl rfl ?_
        refine q_iload_n dX11_meet_27 rfl rfl ?_
        obtain ⟨q1924, h1925, h⟩ := Option.bind_eq_some_iff.mp h
        refine q_callVi (as := [qi a1]) (c := 6) dX11_meet_28 ml_X11_178 rfl rfl (hL 6 (by decide)) sh_6 rfl rfl (Nat.le_of_ble_eq_true rfl) (Stays_has_ok hL (d + 1) a1 _ _ h1925) rfl ?_
        obtain ⟨c1926, h⟩ := qk_some h
        refine q_if_eq (tgt := 63) dX11_meet_31 (by decide) rfl (qRb_R c1926)  (fun g => ?_) (fun g => ?_)
        · rw [if_pos (show q1924.1 = 0 from g)] at h
          refine q_iconst dX11_meet_63 rfl rfl ?_
          cases h
          exact q_ireturn dX11_meet_64 rfl hQ
        · rw [if_neg (show ¬ (q1924.1 = 0) from g)] at h
          refine q_aload_n dX11_meet_34 rfl rfl ?_
          refine q_getA dX11_meet_35 fl_X11_49 (hL 0 (by decide)) sh_0 (by decide) rfl rfl ?_
          refine q_iload_n dX11_meet_38 rfl rfl ?_
          refine q_aload_n dX11_meet_39 rfl rfl ?_
          refine q_getA dX11_meet_40 fl_X11_49 (hL 0 (by decide)) sh_0 (by decide) rfl rfl ?_
          refine q_getA dX11_meet_43 fl_X11_228 (hL 6 (by decide)) sh_6 (by decide) rfl rfl ?_
          refine q_iload_n dX11_meet_46 rfl rfl ?_
          obtain ⟨c1927, h⟩ := qk_some h
          refine q_iaload dX11_meet_47 (hL 39 (by decide)) sh_39 (qIx_0 c1927) (qIx_1 c1927) rfl ?_
          refine q_aload_n dX11_meet_48 rfl rfl ?_
          refine q_getA dX11_meet_49 fl_X11_49 (hL 0 (by decide)) sh_0 (by decide) rfl rfl ?_
          refine q_getA dX11_meet_52 fl_X11_236 (hL 6 (by decide)) sh_6 (by decide) rfl rfl ?_
          refine q_iload_n dX11_meet_55 rfl rfl ?_
          obtain ⟨c1928, h⟩ := qk_some h
          refine q_iaload dX11_meet_56 (hL 42 (by decide)) sh_42 (qIx_0 c1928) (qIx_1 c1928) rfl ?_
          obtain ⟨q1929, h1930, h⟩ := Option.bind_eq_some_iff.mp h
          refine q_callVi (as := [qi a2, qi (q1924.2 39 (Int.toNat a1)), qi (q1924.2 42 (Int.toNat a1))]) (c := 6) dX11_meet_57 ml_X11_394 rfl rfl (hL 6 (by decide)) sh_6 rfl rfl (Nat.le_of_ble_eq_true rfl) (Stays_slotsIn_ok hL d a2 (q1924.2 39 (Int.toNat a1)) (q1924.2 42 (Int.toNat a1)) _ _ h1930) rfl ?_
          refine q_goto (pc' := 64) dX11_meet_60 (by decide) ?_
          cases h
          exact q_ireturn dX11_meet_64 rfl hQ
      · rw [if_pos (show a1 = a2 from g)] at h
        refine q_iconst dX11_meet_21 rfl rfl ?_
        cases h
        exact q_ireturn dX11_meet_22 rfl hQ
set_option maxRecDepth 20000 in
theorem Written_add_ok {X : qX} (hL : ∀ c, c < 93 → c ∈ qLs X) (d : Nat) (a1 : Int) (S : qSto) (o : qSto) (h : Written_add a1 S = some o) (Q : Option qV → qSto → Prop) (hQ : Q none o) : qC X d yX10_add cX10_add 2 none [qr 13, qi a1] S Q := by
  refine q_entry (lv := [(0, qr 13), (1, qi a1)]) pn_X10 (Nat.le_of_ble_eq_true rfl) rfl ?_
  unfold Written_add at h
  refine q_aload_n dX10_add_0 rfl rfl ?_
  refine q_getI dX10_add_1 fl_X10_15 (hL 13 (by decide)) sh_13 (by decide) rfl rfl ?_
  refine q_sipush dX10_add_4 (by decide) rfl ?_
  obtain ⟨c1942, h⟩ := qk_some h
  refine q_icmp_ge (tgt := 31) dX10_add_7 (by decide) rfl (qRb_R c1942) ⟨by decide, by decide⟩ (fun g => ?_) (fun g => ?_)
  · rw [if_pos (show 266 ≤ (S 13 1) from g)] at h
    cases h
    exact q_return dX10_add_31 rfl hQ
  · rw [if_neg (show ¬ (266 ≤ (S 13 1)) from g)] at h
    refine q_aload_n dX10_add_10 rfl rfl ?_
    refine q_getA dX10_add_11 fl_X10_9 (hL 13 (by decide)) sh_13 (by decide) rfl rfl ?_
    refine q_aload_n dX10_add_14 rfl rfl ?_
    refine q_getI dX10_add_15 fl_X10_15 (hL 13 (by decide)) sh_13 (by decide) rfl rfl ?_
    refine q_iload_n dX10_add_18 rfl rfl ?_
    refine q_i2b dX10_add_19 rfl ?_
    obtain ⟨c1943, h⟩ := qk_some h
    obtain ⟨c1944, h⟩ := qk_some h
    refine q_bastore dX10_add_20 (hL 69 (by decide)) sh_69 (qIx_0 c1943) (qIx_1 c1943) (qBb_B c1944) rfl ?_
    refine q_aload_n dX10_add_21 rfl rfl ?_
    refine q_dupA dX10_add_22 rfl ?_
    refine q_getI dX10_add_23 fl_X10_15 (hL 13 (by decide)) sh_13 (by decide) rfl rfl ?_
    refine q_iconst dX10_add_26 rfl rfl ?_
    refine q_iadd dX10_add_27 rfl ?_
    refine q_putI dX10_add_28 fl_X10_15 (hL 13 (by decide)) sh_13 (by decide) pf_10_1 pt_10_1 rfl rfl ?_
    cases h
    exact q_return dX10_add_31 rfl hQ
set_option maxRecDepth 20000 in
theorem Written_addNumber_ok {X : qX} (hL : ∀ c, c < 93 → c ∈ qLs X) (d : Nat) (a1 : Int) (S : qSto) (o : qSto) (h : Written_addNumber a1 S = some o) (Q : Option qV → qSto → Prop) (hQ : Q none o) : qC X (d + 1) yX10_addNumber cX10_addNumber 2 none [qr 13, qi a1] S Q := by
  refine q_entry (lv := [(0, qr 13), (1, qi a1)]) pn_X10 (Nat.le_of_ble_eq_true rfl) rfl ?_
  unfold Written_addNumber at h
  refine q_aload_n dX10_addNumber_0 rfl rfl ?_
  refine q_bipush dX10_addNumber_1 (by decide) rfl ?_
  obtain ⟨q1950, h1951, h⟩ := Option.bind_eq_some_iff.mp h
  refine q_callVv (as := [qi 32]) (c := 13) dX10_addNumber_3 ml_X10_19 rfl rfl (hL 13 (by decide)) sh_13 rfl rfl (Nat.le_of_ble_eq_true rfl) (Written_add_ok hL d 32 _ _ h1951) rfl ?_
  refine q_iload_n dX10_addNumber_6 rfl rfl ?_
  refine q_bipush dX10_addNumber_7 (by decide) rfl ?_
  refine q_jn (G := fun (t1956 : qSto) => qW X (d + 1) yX10_addNumber cX10_addNumber 2 none 23 [(0, qr 13), (1, qi a1)] [] t1956 Q) h (fun t1956 h => ?_) (fun t1956 h hk4171 => ?_)
  · try dsimp only at h
    refine q_iload_n dX10_addNumber_23 rfl rfl ?_
    refine q_bipush dX10_addNumber_24 (by decide) rfl ?_
    refine q_jn (G := fun (t1962 : qSto) => qW X (d + 1) yX10_addNumber cX10_addNumber 2 none 43 [(0, qr 13), (1, qi a1)] [] t1962 Q) h (fun t1962 h => ?_) (fun t1962 h hk4172 => ?_)
    · try dsimp only at h
      refine q_aload_n dX10_addNumber_43 rfl rfl ?_
      refine q_bipush dX10_addNumber_44 (by decide) rfl ?_
      refine q_iload_n dX10_addNumber_46 rfl rfl ?_
      refine q_bipush dX10_addNumber_47 (by decide) rfl ?_
      obtain ⟨c1963, h⟩ := qk_some h
      refine q_irem dX10_addNumber_49 (qRb_R c1963) ⟨by decide, by decide⟩ (by decide) rfl ?_
      refine q_iadd dX10_addNumber_50 rfl ?_
      obtain ⟨q1964, h1965, h⟩ := Option.bind_eq_some_iff.mp h
      refine q_callVv (as := [qi (48 + (Int.tmod a1 10))]) (c := 13) dX10_addNumber_51 ml_X10_19 rfl rfl (hL 13 (by decide)) sh_13 rfl rfl (Nat.le_of_ble_eq_true rfl) (Written_add_ok hL d (48 + (Int.tmod a1 10)) _ _ h1965) rfl ?_
      cases h
      exact q_return dX10_addNumber_54 rfl hQ
    · skip
      obtain ⟨c1957, h⟩ := qk_some h
      refine q_icmp_lt (tgt := 43) dX10_addNumber_26 (by decide) rfl (qRb_R c1957) ⟨by decide, by decide⟩ (fun g => ?_) (fun g => ?_)
      · rw [if_pos (show a1 < 10 from g)] at h
        cases h
        exact q_pick [0, 1] rfl hk4172
      · rw [if_neg (show ¬ (a1 < 10) from g)] at h
        refine q_aload_n dX10_addNumber_29 rfl rfl ?_
        refine q_bipush dX10_addNumber_30 (by decide) rfl ?_
        refine q_iload_n dX10_addNumber_32 rfl rfl ?_
        refine q_bipush dX10_addNumber_33 (by decide) rfl ?_
        obtain ⟨c1958, h⟩ := qk_some h
        refine q_idiv dX10_addNumber_35 (qRb_R c1958) ⟨by decide, by decide⟩ (by decide) rfl ?_
        refine q_bipush dX10_addNumber_36 (by decide) rfl ?_
        obtain ⟨c1959, h⟩ := qk_some h
        refine q_irem dX10_addNumber_38 (qRb_R c1959) ⟨by decide, by decide⟩ (by decide) rfl ?_
        refine q_iadd dX10_addNumber_39 rfl ?_
        obtain ⟨q1960, h1961, h⟩ := Option.bind_eq_some_iff.mp h
        refine q_callVv (as := [qi (48 + (Int.tmod (Int.tdiv a1 10) 10))]) (c := 13) dX10_addNumber_40 ml_X10_19 rfl rfl (hL 13 (by decide)) sh_13 rfl rfl (Nat.le_of_ble_eq_true rfl) (Written_add_ok hL d (48 + (Int.tmod (Int.tdiv a1 10) 10)) _ _ h1961) rfl ?_
        cases h
        exact q_pick [0, 1] rfl hk4172
  · skip
    obtain ⟨c1952, h⟩ := qk_some h
    refine q_icmp_lt (tgt := 23) dX10_addNumber_9 (by decide) rfl (qRb_R c1952) ⟨by decide, by decide⟩ (fun g => ?_) (fun g => ?_)
    · rw [if_pos (show a1 < 100 from g)] at h
      cases h
      exact q_pick [0, 1] rfl hk4171
    · rw [if_neg (show ¬ (a1 < 100) from g)] at h
      refine q_aload_n dX10_addNumber_12 rfl rfl ?_
      refine q_bipush dX10_addNumber_13 (by decide) rfl ?_
      refine q_iload_n dX10_addNumber_15 rfl rfl ?_
      refine q_bipush dX10_addNumber_16 (by decide) rfl ?_
      obtain ⟨c1953, h⟩ := qk_some h
      refine q_idiv dX10_addNumber_18 (qRb_R c1953) ⟨by decide, by decide⟩ (by decide) rfl ?_
      refine q_iadd dX10_addNumber_19 rfl ?_
      obtain ⟨q1954, h1955, h⟩ := Option.bind_eq_some_iff.mp h
      refine q_callVv (as := [qi (48 + (Int.tdiv a1 100))]) (c := 13) dX10_addNumber_20 ml_X10_19 rfl rfl (hL 13 (by decide)) sh_13 rfl rfl (Nat.le_of_ble_eq_true rfl) (Written_add_ok hL d (48 + (Int.tdiv a1 100)) _ _ h1955) rfl ?_
      cases h
      exact q_pick [0, 1] rfl hk4171
set_option maxRecDepth 20000 in
theorem C_write_L34_ok {X : qX} (hL : ∀ c, c < 93 → c ∈ qLs X) (d : Nat) {Q : Option qV → qSto → Prop} : ∀ (n : Nat) (x1 : Int) (x2 : Int) (S : qSto) (o : qSto), C_write_L34 n x1 x2 S = some o → (qW X (d + 2) yX11_write cX11_write 3 (some .int) 74 [(0, qr 0), (1, qi x1)] [] o Q) → qW X (d + 2) yX11_write cX11_write 3 (some .int) 34 [(0, qr 0), (1, qi x1), (2, qi x2)] [] S Q := by
  intro n
  induction n with
  | zero =>
    intro x1 x2 S o h
    simp [C_write_L34] at h
  | succ n ih =>
    intro x1 x2 S o h hE
    rw [C_write_L34] at h
    refine q_iload_n dX11_write_34 rfl rfl ?_
    refine q_bipush dX11_write_35 (by decide) rfl ?_
    obtain ⟨c1936, h⟩ := qk_some h
    refine q_icmp_ge (tgt := 74) dX11_write_37 (by decide) rfl (qRb_R c1936) ⟨by decide, by decide⟩ (fun g => ?_) (fun g => ?_)
    · rw [if_pos (show 8 ≤ x2 from g)] at h
      cases h
      exact q_pick [0, 1] rfl (hE)
    · rw [if_neg (show ¬ (8 ≤ x2) from g)] at h
      refine q_aload_n dX11_write_40 rfl rfl ?_
      refine q_getA dX11_write_41 fl_X11_16 (hL 0 (by decide)) sh_0 (by decide) rfl rfl ?_
      refine q_iload_n dX11_write_44 rfl rfl ?_
      refine q_iload_n dX11_write_45 rfl rfl ?_
      obtain ⟨q1937, h1938, h⟩ := Option.bind_eq_some_iff.mp h
      refine q_callVi (as := [qi x1, qi x2]) (c := 2) dX11_write_46 ml_X11_242 rfl rfl (hL 2 (by decide)) sh_2 rfl rfl (Nat.le_of_ble_eq_true rfl) (Told_nameByte_ok hL (d + 1) x1 x2 _ _ h1938) rfl ?_
      obtain ⟨c1939, h⟩ := qk_some h
      refine q_if_eq (tgt := 74) dX11_write_49 (by decide) rfl (qRb_R c1939)  (fun g => ?_) (fun g => ?_)
      · rw [if_pos (show q1937.1 = 0 from g)] at h
        cases h
        exact q_pick [0, 1] rfl (hE)
      · rw [if_neg (show ¬ (q1937.1 = 0) from g)] at h
        refine q_aload_n dX11_write_52 rfl rfl ?_
        refine q_getA dX11_write_53 fl_X11_106 (hL 0 (by decide)) sh_0 (by decide) rfl rfl ?_
        refine q_aload_n dX11_write_56 rfl rfl ?_
        refine q_getA dX11_write_57 fl_X11_16 (hL 0 (by decide)) sh_0 (by decide) rfl rfl ?_
        refine q_iload_n dX11_write_60 rfl rfl ?_
        refine q_iload_n dX11_write_61 rfl rfl ?_
        obtain ⟨q1940, h1941, h⟩ := Option.bind_eq_some_iff.mp h
        refine q_callVi (as := [qi x1, qi x2]) (c := 2) dX11_write_62 ml_X11_242 rfl rfl (hL 2 (by decide)) sh_2 rfl rfl (Nat.le_of_ble_eq_true rfl) (Told_nameByte_ok hL (d + 1) x1 x2 _ _ h1941) rfl ?_
        obtain ⟨q1945, h1946, h⟩ := Option.bind_eq_some_iff.mp h
        refine q_callVv (as := [qi q1940.1]) (c := 13) dX11_write_65 ml_X11_408 rfl rfl (hL 13 (by decide)) sh_13 rfl rfl (Nat.le_of_ble_eq_true rfl) (Written_add_ok hL (d + 1) q1940.1 _ _ h1946) rfl ?_
        refine q_iinc (lv' := [(2, qi (x2 + 1)), (0, qr 0), (1, qi x1)]) dX11_write_68 (by decide) rfl rfl rfl ?_
        refine q_goto (pc' := 34) dX11_write_71 (by decide) ?_
        exact q_pick [1, 2, 0] rfl (ih x1 (x2 + 1) _ _ h hE)
set_option maxRecDepth 20000 in
theorem C_write_L10_ok {X : qX} (hL : ∀ c, c < 93 → c ∈ qLs X) (d : Nat) {Q : Option qV → qSto → Prop} : ∀ (n : Nat) (x1 : Int) (S : qSto) (o : qSto), C_write_L10 n x1 S = some o → (qW X (d + 2) yX11_write cX11_write 3 (some .int) 137 [(0, qr 0)] [] o Q) → qW X (d + 2) yX11_write cX11_write 3 (some .int) 10 [(0, qr 0), (1, qi x1)] [] S Q := by
  intro n
  induction n with
  | zero =>
    intro x1 S o h
    simp [C_write_L10] at h
  | succ n ih =>
    intro x1 S o h hE
    rw [C_write_L10] at h
    refine q_iload_n dX11_write_10 rfl rfl ?_
    refine q_aload_n dX11_write_11 rfl rfl ?_
    refine q_getA dX11_write_12 fl_X11_16 (hL 0 (by decide)) sh_0 (by decide) rfl rfl ?_
    refine q_getI dX11_write_15 fl_X11_158 (hL 2 (by decide)) sh_2 (by decide) rfl rfl ?_
    obtain ⟨c1931, h⟩ := qk_some h
    obtain ⟨c1932, h⟩ := qk_some h
    refine q_icmp_ge (tgt := 137) dX11_write_18 (by decide) rfl (qRb_R c1931) (qRb_R c1932) (fun g => ?_) (fun g => ?_)
    · rw [if_pos (show (S 2 12) ≤ x1 from g)] at h
      cases h
      exact q_pick [0] rfl (hE)
    · rw [if_neg (show ¬ ((S 2 12) ≤ x1) from g)] at h
      refine q_aload_n dX11_write_21 rfl rfl ?_
      refine q_getA dX11_write_22 fl_X11_49 (hL 0 (by decide)) sh_0 (by decide) rfl rfl ?_
      refine q_iload_n dX11_write_25 rfl rfl ?_
      obtain ⟨q1933, h1934, h⟩ := Option.bind_eq_some_iff.mp h
      refine q_callVi (as := [qi x1]) (c := 6) dX11_write_26 ml_X11_178 rfl rfl (hL 6 (by decide)) sh_6 rfl rfl (Nat.le_of_ble_eq_true rfl) (Stays_has_ok hL (d + 1) x1 _ _ h1934) rfl ?_
      refine q_jn (G := fun (t1976 : qSto) => qW X (d + 2) yX11_write cX11_write 3 (some .int) 131 [(0, qr 0), (1, qi x1)] [] t1976 Q) h (fun t1976 h => ?_) (fun t1976 h hk4173 => ?_)
      · try dsimp only at h
        refine q_iinc (lv' := [(1, qi (x1 + 1)), (0, qr 0)]) dX11_write_131 (by decide) rfl rfl rfl ?_
        refine q_goto (pc' := 10) dX11_write_134 (by decide) ?_
        exact q_pick [1, 0] rfl (ih (x1 + 1) _ _ h hE)
      · skip
        obtain ⟨c1935, h⟩ := qk_some h
        refine q_if_eq (tgt := 131) dX11_write_29 (by decide) rfl (qRb_R c1935)  (fun g => ?_) (fun g => ?_)
        · rw [if_pos (show q1933.1 = 0 from g)] at h
          cases h
          exact q_pick [0, 1] rfl hk4173
        · rw [if_neg (show ¬ (q1933.1 = 0) from g)] at h
          refine q_iconst dX11_write_32 rfl rfl ?_
          refine q_istore_n (lv' := [(2, qi 0), (0, qr 0), (1, qi x1)]) dX11_write_33 (by decide) rfl rfl ?_
          obtain ⟨q1947, h1948, h⟩ := Option.bind_eq_some_iff.mp h
          refine q_pick [1, 2, 0] rfl (C_write_L34_ok hL d qF x1 0 _ _ h1948 ?_)
          refine q_aload_n dX11_write_74 rfl rfl ?_
          refine q_getA dX11_write_75 fl_X11_106 (hL 0 (by decide)) sh_0 (by decide) rfl rfl ?_
          refine q_aload_n dX11_write_78 rfl rfl ?_
          refine q_getA dX11_write_79 fl_X11_49 (hL 0 (by decide)) sh_0 (by decide) rfl rfl ?_
          refine q_getA dX11_write_82 fl_X11_225 (hL 6 (by decide)) sh_6 (by decide) rfl rfl ?_
          refine q_iload_n dX11_write_85 rfl rfl ?_
          obtain ⟨c1949, h⟩ := qk_some h
          refine q_iaload dX11_write_86 (hL 37 (by decide)) sh_37 (qIx_0 c1949) (qIx_1 c1949) rfl ?_
          obtain ⟨q1966, h1967, h⟩ := Option.bind_eq_some_iff.mp h
          refine q_callVv (as := [qi (q1947 37 (Int.toNat x1))]) (c := 13) dX11_write_87 ml_X11_411 rfl rfl (hL 13 (by decide)) sh_13 rfl rfl (Nat.le_of_ble_eq_true rfl) (Written_addNumber_ok hL d (q1947 37 (Int.toNat x1)) _ _ h1967) rfl ?_
          refine q_aload_n dX11_write_90 rfl rfl ?_
          refine q_getA dX11_write_91 fl_X11_106 (hL 0 (by decide)) sh_0 (by decide) rfl rfl ?_
          refine q_aload_n dX11_write_94 rfl rfl ?_
          refine q_getA dX11_write_95 fl_X11_49 (hL 0 (by decide)) sh_0 (by decide) rfl rfl ?_
          refine q_getA dX11_write_98 fl_X11_228 (hL 6 (by decide)) sh_6 (by decide) rfl rfl ?_
          refine q_iload_n dX11_write_101 rfl rfl ?_
          obtain ⟨c1968, h⟩ := qk_some h
          refine q_iaload dX11_write_102 (hL 39 (by decide)) sh_39 (qIx_0 c1968) (qIx_1 c1968) rfl ?_
          obtain ⟨q1969, h1970, h⟩ := Option.bind_eq_some_iff.mp h
          refine q_callVv (as := [qi (q1966 39 (Int.toNat x1))]) (c := 13) dX11_write_103 ml_X11_411 rfl rfl (hL 13 (by decide)) sh_13 rfl rfl (Nat.le_of_ble_eq_true rfl) (Written_addNumber_ok hL d (q1966 39 (Int.toNat x1)) _ _ h1970) rfl ?_
          refine q_aload_n dX11_write_106 rfl rfl ?_
          refine q_getA dX11_write_107 fl_X11_106 (hL 0 (by decide)) sh_0 (by decide) rfl rfl ?_
          refine q_aload_n dX11_write_110 rfl rfl ?_
          refine q_getA dX11_write_111 fl_X11_49 (hL 0 (by decide)) sh_0 (by decide) rfl rfl ?_
          refine q_getA dX11_write_114 fl_X11_231 (hL 6 (by decide)) sh_6 (by decide) rfl rfl ?_
          refine q_iload_n dX11_write_117 rfl rfl ?_
          obtain ⟨c1971, h⟩ := qk_some h
          refine q_iaload dX11_write_118 (hL 40 (by decide)) sh_40 (qIx_0 c1971) (qIx_1 c1971) rfl ?_
          obtain ⟨q1972, h1973, h⟩ := Option.bind_eq_some_iff.mp h
          refine q_callVv (as := [qi (q1969 40 (Int.toNat x1))]) (c := 13) dX11_write_119 ml_X11_411 rfl rfl (hL 13 (by decide)) sh_13 rfl rfl (Nat.le_of_ble_eq_true rfl) (Written_addNumber_ok hL d (q1969 40 (Int.toNat x1)) _ _ h1973) rfl ?_
          refine q_aload_n dX11_write_122 rfl rfl ?_
          refine q_getA dX11_write_123 fl_X11_106 (hL 0 (by decide)) sh_0 (by decide) rfl rfl ?_
          refine q_bipush dX11_write_126 (by decide) rfl ?_
          obtain ⟨q1974, h1975, h⟩ := Option.bind_eq_some_iff.mp h
          refine q_callVv (as := [qi 59]) (c := 13) dX11_write_128 ml_X11_408 rfl rfl (hL 13 (by decide)) sh_13 rfl rfl (Nat.le_of_ble_eq_true rfl) (Written_add_ok hL (d + 1) 59 _ _ h1975) rfl ?_
          cases h
          exact q_pick [0, 1] rfl hk4173
set_option maxRecDepth 20000 in
theorem C_write_ok {X : qX} (hL : ∀ c, c < 93 → c ∈ qLs X) (d : Nat) (S : qSto) (o : (Int × qSto)) (h : C_write S = some o) (Q : Option qV → qSto → Prop) (hQ : Q (some (qi o.1)) o.2) : qC X (d + 2) yX11_write cX11_write 3 (some .int) [qr 0] S Q := by
  refine q_entry (lv := [(0, qr 0)]) pn_X11 (Nat.le_of_ble_eq_true rfl) rfl ?_
  unfold C_write at h
  refine q_aload_n dX11_write_0 rfl rfl ?_
  refine q_getA dX11_write_1 fl_X11_106 (hL 0 (by decide)) sh_0 (by decide) rfl rfl ?_
  refine q_iconst dX11_write_4 rfl rfl ?_
  refine q_putI dX11_write_5 fl_X11_405 (hL 13 (by decide)) sh_13 (by decide) pf_10_1 pt_10_1 rfl rfl ?_
  refine q_iconst dX11_write_8 rfl rfl ?_
  refine q_istore_n (lv' := [(1, qi 0), (0, qr 0)]) dX11_write_9 (by decide) rfl rfl ?_
  obtain ⟨q1977, h1978, h⟩ := Option.bind_eq_some_iff.mp h
  refine q_pick [1, 0] rfl (C_write_L10_ok hL d qF 0 _ _ h1978 ?_)
  refine q_aload_n dX11_write_137 rfl rfl ?_
  refine q_getA dX11_write_138 fl_X11_106 (hL 0 (by decide)) sh_0 (by decide) rfl rfl ?_
  refine q_getI dX11_write_141 fl_X11_405 (hL 13 (by decide)) sh_13 (by decide) rfl rfl ?_
  cases h
  exact q_ireturn dX11_write_144 rfl hQ
set_option maxRecDepth 20000 in
theorem C_octet_ok {X : qX} (hL : ∀ c, c < 93 → c ∈ qLs X) (d : Nat) (a1 : Int) (S : qSto) (o : (Int × qSto)) (h : C_octet a1 S = some o) (Q : Option qV → qSto → Prop) (hQ : Q (some (qi o.1)) o.2) : qC X d yX11_octet cX11_octet 2 (some .int) [qr 0, qi a1] S Q := by
  refine q_entry (lv := [(0, qr 0), (1, qi a1)]) pn_X11 (Nat.le_of_ble_eq_true rfl) rfl ?_
  unfold C_octet at h
  refine q_iload_n dX11_octet_0 rfl rfl ?_
  obtain ⟨c1979, h⟩ := qk_some h
  refine q_if_lt (tgt := 27) dX11_octet_1 (by decide) rfl (qRb_R c1979)  (fun g => ?_) (fun g => ?_)
  · rw [if_pos (show a1 < 0 from g)] at h
    refine q_iconst dX11_octet_27 rfl rfl ?_
    cases h
    exact q_ireturn dX11_octet_28 rfl hQ
  · rw [if_neg (show ¬ (a1 < 0) from g)] at h
    refine q_iload_n dX11_octet_4 rfl rfl ?_
    refine q_aload_n dX11_octet_5 rfl rfl ?_
    refine q_getA dX11_octet_6 fl_X11_106 (hL 0 (by decide)) sh_0 (by decide) rfl rfl ?_
    refine q_getI dX11_octet_9 fl_X11_405 (hL 13 (by decide)) sh_13 (by decide) rfl rfl ?_
    obtain ⟨c1980, h⟩ := qk_some h
    obtain ⟨c1981, h⟩ := qk_some h
    refine q_icmp_ge (tgt := 27) dX11_octet_12 (by decide) rfl (qRb_R c1980) (qRb_R c1981) (fun g => ?_) (fun g => ?_)
    · rw [if_pos (show (S 13 1) ≤ a1 from g)] at h
      refine q_iconst dX11_octet_27 rfl rfl ?_
      cases h
      exact q_ireturn dX11_octet_28 rfl hQ
    · rw [if_neg (show ¬ ((S 13 1) ≤ a1) from g)] at h
      refine q_aload_n dX11_octet_15 rfl rfl ?_
      refine q_getA dX11_octet_16 fl_X11_106 (hL 0 (by decide)) sh_0 (by decide) rfl rfl ?_
      refine q_getA dX11_octet_19 fl_X11_414 (hL 13 (by decide)) sh_13 (by decide) rfl rfl ?_
      refine q_iload_n dX11_octet_22 rfl rfl ?_
      obtain ⟨c1982, h⟩ := qk_some h
      refine q_baload dX11_octet_23 (hL 69 (by decide)) sh_69 (qIx_0 c1982) (qIx_1 c1982) rfl ?_
      refine q_goto (pc' := 28) dX11_octet_24 (by decide) ?_
      cases h
      exact q_ireturn dX11_octet_28 rfl hQ
set_option maxRecDepth 20000 in
theorem History_isMade_ok {X : qX} (hL : ∀ c, c < 93 → c ∈ qLs X) (d : Nat) (a1 : Int) (S : qSto) (o : (Int × qSto)) (h : History_isMade a1 S = some o) (Q : Option qV → qSto → Prop) (hQ : Q (some (qi o.1)) o.2) : qC X d yX2_isMade cX2_isMade 2 (some .boolean) [qr 12, qi a1] S Q := by
  refine q_entry (lv := [(0, qr 12), (1, qi a1)]) pn_X2 (Nat.le_of_ble_eq_true rfl) rfl ?_
  unfold History_isMade at h
  refine q_iload_n dX2_isMade_0 rfl rfl ?_
  obtain ⟨c1983, h⟩ := qk_some h
  refine q_if_lt (tgt := 24) dX2_isMade_1 (by decide) rfl (qRb_R c1983)  (fun g => ?_) (fun g => ?_)
  · rw [if_pos (show a1 < 0 from g)] at h
    refine q_iconst dX2_isMade_24 rfl rfl ?_
    cases h
    exact q_zreturn dX2_isMade_25 rfl (by decide) hQ
  · rw [if_neg (show ¬ (a1 < 0) from g)] at h
    refine q_iload_n dX2_isMade_4 rfl rfl ?_
    refine q_iconst dX2_isMade_5 rfl rfl ?_
    obtain ⟨c1984, h⟩ := qk_some h
    refine q_icmp_ge (tgt := 24) dX2_isMade_6 (by decide) rfl (qRb_R c1984) ⟨by decide, by decide⟩ (fun g => ?_) (fun g => ?_)
    · rw [if_pos (show 4 ≤ a1 from g)] at h
      refine q_iconst dX2_isMade_24 rfl rfl ?_
      cases h
      exact q_zreturn dX2_isMade_25 rfl (by decide) hQ
    · rw [if_neg (show ¬ (4 ≤ a1) from g)] at h
      refine q_aload_n dX2_isMade_9 rfl rfl ?_
      refine q_getI dX2_isMade_10 fl_X2_23 (hL 12 (by decide)) sh_12 (by decide) rfl rfl ?_
      refine q_iload_n dX2_isMade_13 rfl rfl ?_
      refine q_ishr dX2_isMade_14 rfl ?_
      refine q_iconst dX2_isMade_15 rfl rfl ?_
      refine q_iand dX2_isMade_16 rfl ?_
      obtain ⟨c1985, h⟩ := qk_some h
      refine q_if_eq (tgt := 24) dX2_isMade_17 (by decide) rfl (qRb_R c1985)  (fun g => ?_) (fun g => ?_)
      · rw [if_pos (show (qb_iand (qb_ishr (S 12 4) a1) 1) = 0 from g)] at h
        refine q_iconst dX2_isMade_24 rfl rfl ?_
        cases h
        exact q_zreturn dX2_isMade_25 rfl (by decide) hQ
      · rw [if_neg (show ¬ ((qb_iand (qb_ishr (S 12 4) a1) 1) = 0) from g)] at h
        refine q_iconst dX2_isMade_20 rfl rfl ?_
        refine q_goto (pc' := 25) dX2_isMade_21 (by decide) ?_
        cases h
        exact q_zreturn dX2_isMade_25 rfl (by decide) hQ
set_option maxRecDepth 20000 in
theorem Stays_isAsSaved_x_ok {X : qX} (hL : ∀ c, c < 93 → c ∈ qLs X) (d : Nat) (a1 : Int) (a2 : Nat) (S : qSto) (o : (Int × qSto)) (h : Stays_isAsSaved_x a1 a2 S = some o) (Q : Option qV → qSto → Prop) (hQ : Q (some (qi o.1)) o.2) : qC X (d + 1) yX7_isAsSaved cX7_isAsSaved 3 (some .boolean) [qr 6, qi a1, qr a2] S Q := by
  refine q_entry (lv := [(0, qr 6), (1, qi a1), (2, qr a2)]) pn_X7 (Nat.le_of_ble_eq_true rfl) rfl ?_
  unfold Stays_isAsSaved_x at h
  refine q_aload_n dX7_isAsSaved_0 rfl rfl ?_
  refine q_getA dX7_isAsSaved_1 fl_X7_21 (hL 6 (by decide)) sh_6 (by decide) rfl rfl ?_
  refine q_iload_n dX7_isAsSaved_4 rfl rfl ?_
  obtain ⟨c1992, h⟩ := qk_some h
  refine q_iaload dX7_isAsSaved_5 (hL 40 (by decide)) sh_40 (qIx_0 c1992) (qIx_1 c1992) rfl ?_
  refine q_aload_n dX7_isAsSaved_6 rfl rfl ?_
  refine q_iload_n dX7_isAsSaved_7 rfl rfl ?_
  refine q_iconst dX7_isAsSaved_8 rfl rfl ?_
  refine q_imul dX7_isAsSaved_9 rfl ?_
  refine q_iconst dX7_isAsSaved_10 rfl rfl ?_
  refine q_iadd dX7_isAsSaved_11 rfl ?_
  obtain ⟨c1993, h⟩ := qk_some h
  obtain ⟨c1994, h⟩ := qk_some h
  refine q_iaload dX7_isAsSaved_12 (hL _ (qAr_L c1993)) (qAr_S c1993) (qIx_0 c1994) (qIx_1 c1994) rfl ?_
  obtain ⟨c1995, h⟩ := qk_some h
  obtain ⟨c1996, h⟩ := qk_some h
  refine q_icmp_eq (tgt := 18) dX7_isAsSaved_13 (by decide) rfl (qRb_R c1995) (qRb_R c1996) (fun g => ?_) (fun g => ?_)
  · rw [if_pos (show (S 40 (Int.toNat a1)) = (S a2 (Int.toNat ((a1 * 3) + 2))) from g)] at h
    refine q_aload_n dX7_isAsSaved_18 rfl rfl ?_
    refine q_iload_n dX7_isAsSaved_19 rfl rfl ?_
    obtain ⟨q1997, h1998, h⟩ := Option.bind_eq_some_iff.mp h
    refine q_callVi (as := [qi a1]) (c := 6) dX7_isAsSaved_20 ml_X7_50 rfl rfl (hL 6 (by decide)) sh_6 rfl rfl (Nat.le_of_ble_eq_true rfl) (Stays_has_ok hL d a1 _ _ h1998) rfl ?_
    obtain ⟨c1999, h⟩ := qk_some h
    refine q_if_eq (tgt := 56) dX7_isAsSaved_23 (by decide) rfl (qRb_R c1999)  (fun g => ?_) (fun g => ?_)
    · rw [if_pos (show q1997.1 = 0 from g)] at h
      refine q_iconst dX7_isAsSaved_56 rfl rfl ?_
      refine q_goto (pc' := 61) dX7_isAsSaved_57 (by decide) ?_
      cases h
      exact q_zreturn dX7_isAsSaved_61 rfl (by decide) hQ
    · rw [if_neg (show ¬ (q1997.1 = 0) from g)] at h
      refine q_aload_n dX7_isAsSaved_26 rfl rfl ?_
      refine q_getA dX7_isAsSaved_27 fl_X7_9 (hL 6 (by decide)) sh_6 (by decide) rfl rfl ?_
      refine q_iload_n dX7_isAsSaved_30 rfl rfl ?_
      obtain ⟨c2000, h⟩ := qk_some h
      refine q_iaload dX7_isAsSaved_31 (hL 37 (by decide)) sh_37 (qIx_0 c2000) (qIx_1 c2000) rfl ?_
      refine q_aload_n dX7_isAsSaved_32 rfl rfl ?_
      refine q_iload_n dX7_isAsSaved_33 rfl rfl ?_
      refine q_iconst dX7_isAsSaved_34 rfl rfl ?_
      refine q_imul dX7_isAsSaved_35 rfl ?_
      obtain ⟨c2001, h⟩ := qk_some h
      obtain ⟨c2002, h⟩ := qk_some h
      refine q_iaload dX7_isAsSaved_36 (hL _ (qAr_L c2001)) (qAr_S c2001) (qIx_0 c2002) (qIx_1 c2002) rfl ?_
      obtain ⟨c2003, h⟩ := qk_some h
      obtain ⟨c2004, h⟩ := qk_some h
      refine q_icmp_ne (tgt := 60) dX7_isAsSaved_37 (by decide) rfl (qRb_R c2003) (qRb_R c2004) (fun g => ?_) (fun g => ?_)
      · rw [if_neg (show ¬ ((q1997.2 37 (Int.toNat a1)) = (q1997.2 a2 (Int.toNat (a1 * 3)))) from g)] at h
        refine q_iconst dX7_isAsSaved_60 rfl rfl ?_
        cases h
        exact q_zreturn dX7_isAsSaved_61 rfl (by decide) hQ
      · rw [if_pos (show (q1997.2 37 (Int.toNat a1)) = (q1997.2 a2 (Int.toNat (a1 * 3))) from g)] at h
        refine q_aload_n dX7_isAsSaved_40 rfl rfl ?_
        refine q_getA dX7_isAsSaved_41 fl_X7_18 (hL 6 (by decide)) sh_6 (by decide) rfl rfl ?_
        refine q_iload_n dX7_isAsSaved_44 rfl rfl ?_
        obtain ⟨c2005, h⟩ := qk_some h
        refine q_iaload dX7_isAsSaved_45 (hL 39 (by decide)) sh_39 (qIx_0 c2005) (qIx_1 c2005) rfl ?_
        refine q_aload_n dX7_isAsSaved_46 rfl rfl ?_
        refine q_iload_n dX7_isAsSaved_47 rfl rfl ?_
        refine q_iconst dX7_isAsSaved_48 rfl rfl ?_
        refine q_imul dX7_isAsSaved_49 rfl ?_
        refine q_iconst dX7_isAsSaved_50 rfl rfl ?_
        refine q_iadd dX7_isAsSaved_51 rfl ?_
        obtain ⟨c2006, h⟩ := qk_some h
        obtain ⟨c2007, h⟩ := qk_some h
        refine q_iaload dX7_isAsSaved_52 (hL _ (qAr_L c2006)) (qAr_S c2006) (qIx_0 c2007) (qIx_1 c2007) rfl ?_
        obtain ⟨c2008, h⟩ := qk_some h
        obtain ⟨c2009, h⟩ := qk_some h
        refine q_icmp_ne (tgt := 60) dX7_isAsSaved_53 (by decide) rfl (qRb_R c2008) (qRb_R c2009) (fun g => ?_) (fun g => ?_)
        · rw [if_neg (show ¬ ((q1997.2 39 (Int.toNat a1)) = (q1997.2 a2 (Int.toNat ((a1 * 3) + 1)))) from g)] at h
          refine q_iconst dX7_isAsSaved_60 rfl rfl ?_
          cases h
          exact q_zreturn dX7_isAsSaved_61 rfl (by decide) hQ
        · rw [if_pos (show (q1997.2 39 (Int.toNat a1)) = (q1997.2 a2 (Int.toNat ((a1 * 3) + 1))) from g)] at h
          refine q_iconst dX7_isAsSaved_56 rfl rfl ?_
          refine q_goto (pc' := 61) dX7_isAsSaved_57 (by decide) ?_
          cases h
          exact q_zreturn dX7_isAsSaved_61 rfl (by decide) hQ
  · rw [if_neg (show ¬ ((S 40 (Int.toNat a1)) = (S a2 (Int.toNat ((a1 * 3) + 2)))) from g)] at h
    refine q_iconst dX7_isAsSaved_16 rfl rfl ?_
    cases h
    exact q_zreturn dX7_isAsSaved_17 rfl (by decide) hQ
set_option maxRecDepth 20000 in
theorem C_differs_L17_ok {X : qX} (hL : ∀ c, c < 93 → c ∈ qLs X) (d : Nat) {Q : Option qV → qSto → Prop} : ∀ (n : Nat) (x1 : Int) (x2 : Int) (x3 : Int) (S : qSto) (o : (Int × qSto)), C_differs_L17 n x1 x2 x3 S = some o → (qW X (d + 2) yX11_differs cX11_differs 4 (some .int) 60 [(2, qi o.1)] [] o.2 Q) → qW X (d + 2) yX11_differs cX11_differs 4 (some .int) 17 [(0, qr 0), (1, qi x1), (2, qi x2), (3, qi x3)] [] S Q := by
  intro n
  induction n with
  | zero =>
    intro x1 x2 x3 S o h
    simp [C_differs_L17] at h
  | succ n ih =>
    intro x1 x2 x3 S o h hE
    rw [C_differs_L17] at h
    refine q_iload_n dX11_differs_17 rfl rfl ?_
    refine q_aload_n dX11_differs_18 rfl rfl ?_
    refine q_getA dX11_differs_19 fl_X11_16 (hL 0 (by decide)) sh_0 (by decide) rfl rfl ?_
    refine q_getI dX11_differs_22 fl_X11_158 (hL 2 (by decide)) sh_2 (by decide) rfl rfl ?_
    obtain ⟨c1989, h⟩ := qk_some h
    obtain ⟨c1990, h⟩ := qk_some h
    refine q_icmp_ge (tgt := 60) dX11_differs_25 (by decide) rfl (qRb_R c1989) (qRb_R c1990) (fun g => ?_) (fun g => ?_)
    · rw [if_pos (show (S 2 12) ≤ x3 from g)] at h
      cases h
      exact q_pick [2] rfl (hE)
    · rw [if_neg (show ¬ ((S 2 12) ≤ x3) from g)] at h
      refine q_aload_n dX11_differs_28 rfl rfl ?_
      refine q_getA dX11_differs_29 fl_X11_49 (hL 0 (by decide)) sh_0 (by decide) rfl rfl ?_
      refine q_iload_n dX11_differs_32 rfl rfl ?_
      refine q_aload_n dX11_differs_33 rfl rfl ?_
      refine q_getA dX11_differs_34 fl_X11_99 (hL 0 (by decide)) sh_0 (by decide) rfl rfl ?_
      refine q_getA dX11_differs_37 fl_X11_420 (hL 12 (by decide)) sh_12 (by decide) rfl rfl ?_
      refine q_iload_n dX11_differs_40 rfl rfl ?_
      obtain ⟨c1991, h⟩ := qk_some h
      refine q_aaload dX11_differs_41 (hL 64 (by decide)) sh_64 (qIx_0 c1991) (qIx_1 c1991) rfl ?_
      obtain ⟨q2010, h2011, h⟩ := Option.bind_eq_some_iff.mp h
      refine q_callVi (as := [qi x3, qr (qrf 64 (Int.toNat x1))]) (c := 6) dX11_differs_42 ml_X11_424 rfl rfl (hL 6 (by decide)) sh_6 rfl rfl (Nat.le_of_ble_eq_true rfl) (Stays_isAsSaved_x_ok hL d x3 (qrf 64 (Int.toNat x1)) _ _ h2011) rfl ?_
      refine q_jn (G := fun (t2013 : Int) => qW X (d + 2) yX11_differs cX11_differs 4 (some .int) 54 [(0, qr 0), (1, qi x1), (2, qi t2013), (3, qi x3)] [] q2010.2 Q) h (fun t2013 h => ?_) (fun t2013 h hk4174 => ?_)
      · try dsimp only at h
        refine q_iinc (lv' := [(3, qi (x3 + 1)), (0, qr 0), (1, qi x1), (2, qi t2013)]) dX11_differs_54 (by decide) rfl rfl rfl ?_
        refine q_goto (pc' := 17) dX11_differs_57 (by decide) ?_
        exact q_pick [1, 2, 3, 0] rfl (ih x1 t2013 (x3 + 1) _ _ h hE)
      · skip
        obtain ⟨c2012, h⟩ := qk_some h
        refine q_if_ne (tgt := 54) dX11_differs_45 (by decide) rfl (qRb_R c2012)  (fun g => ?_) (fun g => ?_)
        · rw [if_neg (show ¬ (q2010.1 = 0) from g)] at h
          cases h
          exact q_pick [0, 1, 2, 3] rfl hk4174
        · rw [if_pos (show q2010.1 = 0 from g)] at h
          refine q_iload_n dX11_differs_48 rfl rfl ?_
          refine q_iconst dX11_differs_49 rfl rfl ?_
          refine q_iload_n dX11_differs_50 rfl rfl ?_
          refine q_ishl dX11_differs_51 rfl ?_
          refine q_ior dX11_differs_52 rfl ?_
          refine q_istore_n (lv' := [(2, qi (qb_ior x2 (qb_ishl 1 x3))), (0, qr 0), (1, qi x1), (3, qi x3)]) dX11_differs_53 (by decide) rfl rfl ?_
          cases h
          exact q_pick [1, 2, 0, 3] rfl hk4174
set_option maxRecDepth 20000 in
theorem C_differs_ok {X : qX} (hL : ∀ c, c < 93 → c ∈ qLs X) (d : Nat) (a1 : Int) (S : qSto) (o : (Int × qSto)) (h : C_differs a1 S = some o) (Q : Option qV → qSto → Prop) (hQ : Q (some (qi o.1)) o.2) : qC X (d + 2) yX11_differs cX11_differs 4 (some .int) [qr 0, qi a1] S Q := by
  refine q_entry (lv := [(0, qr 0), (1, qi a1)]) pn_X11 (Nat.le_of_ble_eq_true rfl) rfl ?_
  unfold C_differs at h
  refine q_aload_n dX11_differs_0 rfl rfl ?_
  refine q_getA dX11_differs_1 fl_X11_99 (hL 0 (by decide)) sh_0 (by decide) rfl rfl ?_
  refine q_iload_n dX11_differs_4 rfl rfl ?_
  obtain ⟨q1986, h1987, h⟩ := Option.bind_eq_some_iff.mp h
  refine q_callVi (as := [qi a1]) (c := 12) dX11_differs_5 ml_X11_417 rfl rfl (hL 12 (by decide)) sh_12 rfl rfl (Nat.le_of_ble_eq_true rfl) (History_isMade_ok hL (d + 1) a1 _ _ h1987) rfl ?_
  obtain ⟨c1988, h⟩ := qk_some h
  refine q_if_ne (tgt := 13) dX11_differs_8 (by decide) rfl (qRb_R c1988)  (fun g => ?_) (fun g => ?_)
  · rw [if_neg (show ¬ (q1986.1 = 0) from g)] at h
    refine q_iconst dX11_differs_13 rfl rfl ?_
    refine q_istore_n (lv' := [(2, qi 0), (0, qr 0), (1, qi a1)]) dX11_differs_14 (by decide) rfl rfl ?_
    refine q_iconst dX11_differs_15 rfl rfl ?_
    refine q_istore_n (lv' := [(3, qi 0), (2, qi 0), (0, qr 0), (1, qi a1)]) dX11_differs_16 (by decide) rfl rfl ?_
    obtain ⟨q2014, h2015, h⟩ := Option.bind_eq_some_iff.mp h
    refine q_pick [2, 3, 1, 0] rfl (C_differs_L17_ok hL d qF a1 0 0 _ _ h2015 ?_)
    refine q_iload_n dX11_differs_60 rfl rfl ?_
    cases h
    exact q_ireturn dX11_differs_61 rfl hQ
  · rw [if_pos (show q1986.1 = 0 from g)] at h
    refine q_iconst dX11_differs_11 rfl rfl ?_
    cases h
    exact q_ireturn dX11_differs_12 rfl hQ
set_option maxRecDepth 20000 in
theorem History_takeLatest_14_ok {X : qX} (hL : ∀ c, c < 93 → c ∈ qLs X) (d : Nat) (S : qSto) (o : (Int × qSto)) (h : History_takeLatest_14 S = some o) (Q : Option qV → qSto → Prop) (hQ : Q (some (qi o.1)) o.2) : qC X d yX2_takeLatest cX2_takeLatest 2 (some .boolean) [qr 12, qr 14] S Q := by
  refine q_entry (lv := [(0, qr 12), (1, qr 14)]) pn_X2 (Nat.le_of_ble_eq_true rfl) rfl ?_
  unfold History_takeLatest_14 at h
  refine q_aload_n dX2_takeLatest_0 rfl rfl ?_
  refine q_getI dX2_takeLatest_1 fl_X2_19 (hL 12 (by decide)) sh_12 (by decide) rfl rfl ?_
  obtain ⟨c2016, h⟩ := qk_some h
  refine q_if_ne (tgt := 9) dX2_takeLatest_4 (by decide) rfl (qRb_R c2016)  (fun g => ?_) (fun g => ?_)
  · rw [if_neg (show ¬ ((S 12 2) = 0) from g)] at h
    refine q_aload_n dX2_takeLatest_9 rfl rfl ?_
    refine q_dupA dX2_takeLatest_10 rfl ?_
    refine q_getI dX2_takeLatest_11 fl_X2_19 (hL 12 (by decide)) sh_12 (by decide) rfl rfl ?_
    refine q_iconst dX2_takeLatest_14 rfl rfl ?_
    refine q_isub dX2_takeLatest_15 rfl ?_
    refine q_putI dX2_takeLatest_16 fl_X2_19 (hL 12 (by decide)) sh_12 (by decide) pf_2_2 pt_2_2 rfl rfl ?_
    refine q_aload_n dX2_takeLatest_19 rfl rfl ?_
    refine q_getA dX2_takeLatest_20 fl_X2_11 (hL 12 (by decide)) sh_12 (by decide) rfl rfl ?_
    refine q_aload_n dX2_takeLatest_23 rfl rfl ?_
    refine q_getI dX2_takeLatest_24 fl_X2_26 (hL 12 (by decide)) sh_12 (by decide) rfl rfl ?_
    refine q_aload_n dX2_takeLatest_27 rfl rfl ?_
    refine q_getI dX2_takeLatest_28 fl_X2_19 (hL 12 (by decide)) sh_12 (by decide) rfl rfl ?_
    refine q_iadd dX2_takeLatest_31 rfl ?_
    refine q_bipush dX2_takeLatest_32 (by decide) rfl ?_
    obtain ⟨c2017, h⟩ := qk_some h
    refine q_irem dX2_takeLatest_34 (qRb_R c2017) ⟨by decide, by decide⟩ (by decide) rfl ?_
    obtain ⟨c2018, h⟩ := qk_some h
    refine q_aaload dX2_takeLatest_35 (hL 51 (by decide)) sh_51 (qIx_0 c2018) (qIx_1 c2018) rfl ?_
    refine q_iconst dX2_takeLatest_36 rfl rfl ?_
    refine q_aload_n dX2_takeLatest_37 rfl rfl ?_
    refine q_iconst dX2_takeLatest_38 rfl rfl ?_
    refine q_bipush dX2_takeLatest_39 (by decide) rfl ?_
    obtain ⟨c2019, h⟩ := qk_some h
    refine q_copy dX2_takeLatest_41 cw_X2_29 (hL _ (qAr_L c2019)) (hL 14 (by decide)) (qAr_S c2019) sh_14 (by decide) (by decide) (by decide) (by decide) (by decide) (Nat.le_of_ble_eq_true rfl) rfl ?_
    refine q_iconst dX2_takeLatest_44 rfl rfl ?_
    cases h
    exact q_zreturn dX2_takeLatest_45 rfl (by decide) hQ
  · rw [if_pos (show (S 12 2) = 0 from g)] at h
    refine q_iconst dX2_takeLatest_7 rfl rfl ?_
    cases h
    exact q_zreturn dX2_takeLatest_8 rfl (by decide) hQ
set_option maxRecDepth 20000 in
theorem C_undo_ok {X : qX} (hL : ∀ c, c < 93 → c ∈ qLs X) (d : Nat) (S : qSto) (o : (Int × qSto)) (h : C_undo S = some o) (Q : Option qV → qSto → Prop) (hQ : Q (some (qi o.1)) o.2) : qC X (d + 5) yX11_undo cX11_undo 1 (some .int) [qr 0] S Q := by
  refine q_entry (lv := [(0, qr 0)]) pn_X11 (Nat.le_of_ble_eq_true rfl) rfl ?_
  unfold C_undo at h
  refine q_aload_n dX11_undo_0 rfl rfl ?_
  refine q_getA dX11_undo_1 fl_X11_99 (hL 0 (by decide)) sh_0 (by decide) rfl rfl ?_
  refine q_aload_n dX11_undo_4 rfl rfl ?_
  refine q_getA dX11_undo_5 fl_X11_110 (hL 0 (by decide)) sh_0 (by decide) rfl rfl ?_
  obtain ⟨q2020, h2021, h⟩ := Option.bind_eq_some_iff.mp h
  refine q_callVi (as := [qr 14]) (c := 12) dX11_undo_8 ml_X11_428 rfl rfl (hL 12 (by decide)) sh_12 rfl rfl (Nat.le_of_ble_eq_true rfl) (History_takeLatest_14_ok hL (d + 4) _ _ h2021) rfl ?_
  obtain ⟨c2022, h⟩ := qk_some h
  refine q_if_ne (tgt := 16) dX11_undo_11 (by decide) rfl (qRb_R c2022)  (fun g => ?_) (fun g => ?_)
  · rw [if_neg (show ¬ (q2020.1 = 0) from g)] at h
    refine q_aload_n dX11_undo_16 rfl rfl ?_
    refine q_getA dX11_undo_17 fl_X11_49 (hL 0 (by decide)) sh_0 (by decide) rfl rfl ?_
    refine q_aload_n dX11_undo_20 rfl rfl ?_
    refine q_getA dX11_undo_21 fl_X11_110 (hL 0 (by decide)) sh_0 (by decide) rfl rfl ?_
    obtain ⟨q2023, h2024, h⟩ := Option.bind_eq_some_iff.mp h
    refine q_callVv (as := [qr 14]) (c := 6) dX11_undo_24 ml_X11_335 rfl rfl (hL 6 (by decide)) sh_6 rfl rfl (Nat.le_of_ble_eq_true rfl) (Stays_load_14_ok hL d _ _ h2024) rfl ?_
    refine q_aload_n dX11_undo_27 rfl rfl ?_
    refine q_getA dX11_undo_28 fl_X11_92 (hL 0 (by decide)) sh_0 (by decide) rfl rfl ?_
    refine q_iconst dX11_undo_31 rfl rfl ?_
    refine q_putZ dX11_undo_32 fl_X11_136 (hL 11 (by decide)) sh_11 (by decide) pf_1_3 pt_1_3 rfl (by decide) rfl ?_
    refine q_aload_n dX11_undo_35 rfl rfl ?_
    refine q_getA dX11_undo_36 fl_X11_99 (hL 0 (by decide)) sh_0 (by decide) rfl rfl ?_
    refine q_getI dX11_undo_39 fl_X11_165 (hL 12 (by decide)) sh_12 (by decide) rfl rfl ?_
    cases h
    exact q_ireturn dX11_undo_42 rfl hQ
  · rw [if_pos (show q2020.1 = 0 from g)] at h
    refine q_iconst dX11_undo_14 rfl rfl ?_
    cases h
    exact q_ireturn dX11_undo_15 rfl hQ
set_option maxRecDepth 20000 in
theorem Stays_save_x_L2_ok {X : qX} (hL : ∀ c, c < 93 → c ∈ qLs X) (d : Nat) {Q : Option qV → qSto → Prop} : ∀ (n : Nat) (x1 : Nat) (x2 : Int) (S : qSto) (o : qSto), Stays_save_x_L2 n x1 x2 S = some o → (qW X d yX7_save cX7_save 3 none 51 [] [] o Q) → qW X d yX7_save cX7_save 3 none 2 [(0, qr 6), (1, qr x1), (2, qi x2)] [] S Q := by
  intro n
  induction n with
  | zero =>
    intro x1 x2 S o h
    simp [Stays_save_x_L2] at h
  | succ n ih =>
    intro x1 x2 S o h hE
    rw [Stays_save_x_L2] at h
    refine q_iload_n dX7_save_2 rfl rfl ?_
    refine q_bipush dX7_save_3 (by decide) rfl ?_
    obtain ⟨c2028, h⟩ := qk_some h
    refine q_icmp_ge (tgt := 51) dX7_save_5 (by decide) rfl (qRb_R c2028) ⟨by decide, by decide⟩ (fun g => ?_) (fun g => ?_)
    · rw [if_pos (show 14 ≤ x2 from g)] at h
      cases h
      exact q_pick [] rfl (hE)
    · rw [if_neg (show ¬ (14 ≤ x2) from g)] at h
      refine q_aload_n dX7_save_8 rfl rfl ?_
      refine q_iload_n dX7_save_9 rfl rfl ?_
      refine q_iconst dX7_save_10 rfl rfl ?_
      refine q_imul dX7_save_11 rfl ?_
      refine q_aload_n dX7_save_12 rfl rfl ?_
      refine q_getA dX7_save_13 fl_X7_9 (hL 6 (by decide)) sh_6 (by decide) rfl rfl ?_
      refine q_iload_n dX7_save_16 rfl rfl ?_
      obtain ⟨c2029, h⟩ := qk_some h
      refine q_iaload dX7_save_17 (hL 37 (by decide)) sh_37 (qIx_0 c2029) (qIx_1 c2029) rfl ?_
      obtain ⟨c2030, h⟩ := qk_some h
      obtain ⟨c2031, h⟩ := qk_some h
      refine q_iastore dX7_save_18 (hL _ (qAr_L c2030)) (qAr_S c2030) (qIx_0 c2031) (qIx_1 c2031) rfl ?_
      refine q_aload_n dX7_save_19 rfl rfl ?_
      refine q_iload_n dX7_save_20 rfl rfl ?_
      refine q_iconst dX7_save_21 rfl rfl ?_
      refine q_imul dX7_save_22 rfl ?_
      refine q_iconst dX7_save_23 rfl rfl ?_
      refine q_iadd dX7_save_24 rfl ?_
      refine q_aload_n dX7_save_25 rfl rfl ?_
      refine q_getA dX7_save_26 fl_X7_18 (hL 6 (by decide)) sh_6 (by decide) rfl rfl ?_
      refine q_iload_n dX7_save_29 rfl rfl ?_
      obtain ⟨c2032, h⟩ := qk_some h
      refine q_iaload dX7_save_30 (hL 39 (by decide)) sh_39 (qIx_0 c2032) (qIx_1 c2032) rfl ?_
      obtain ⟨c2033, h⟩ := qk_some h
      obtain ⟨c2034, h⟩ := qk_some h
      refine q_iastore dX7_save_31 (hL _ (qAr_L c2033)) (qAr_S c2033) (qIx_0 c2034) (qIx_1 c2034) rfl ?_
      refine q_aload_n dX7_save_32 rfl rfl ?_
      refine q_iload_n dX7_save_33 rfl rfl ?_
      refine q_iconst dX7_save_34 rfl rfl ?_
      refine q_imul dX7_save_35 rfl ?_
      refine q_iconst dX7_save_36 rfl rfl ?_
      refine q_iadd dX7_save_37 rfl ?_
      refine q_aload_n dX7_save_38 rfl rfl ?_
      refine q_getA dX7_save_39 fl_X7_21 (hL 6 (by decide)) sh_6 (by decide) rfl rfl ?_
      refine q_iload_n dX7_save_42 rfl rfl ?_
      obtain ⟨c2035, h⟩ := qk_some h
      refine q_iaload dX7_save_43 (hL 40 (by decide)) sh_40 (qIx_0 c2035) (qIx_1 c2035) rfl ?_
      obtain ⟨c2036, h⟩ := qk_some h
      obtain ⟨c2037, h⟩ := qk_some h
      refine q_iastore dX7_save_44 (hL _ (qAr_L c2036)) (qAr_S c2036) (qIx_0 c2037) (qIx_1 c2037) rfl ?_
      refine q_iinc (lv' := [(2, qi (x2 + 1)), (0, qr 6), (1, qr x1)]) dX7_save_45 (by decide) rfl rfl rfl ?_
      refine q_goto (pc' := 2) dX7_save_48 (by decide) ?_
      exact q_pick [1, 2, 0] rfl (ih x1 (x2 + 1) _ _ h hE)
set_option maxRecDepth 20000 in
theorem Stays_save_x_ok {X : qX} (hL : ∀ c, c < 93 → c ∈ qLs X) (d : Nat) (a1 : Nat) (S : qSto) (o : qSto) (h : Stays_save_x a1 S = some o) (Q : Option qV → qSto → Prop) (hQ : Q none o) : qC X d yX7_save cX7_save 3 none [qr 6, qr a1] S Q := by
  refine q_entry (lv := [(0, qr 6), (1, qr a1)]) pn_X7 (Nat.le_of_ble_eq_true rfl) rfl ?_
  unfold Stays_save_x at h
  refine q_iconst dX7_save_0 rfl rfl ?_
  refine q_istore_n (lv' := [(2, qi 0), (0, qr 6), (1, qr a1)]) dX7_save_1 (by decide) rfl rfl ?_
  obtain ⟨q2038, h2039, h⟩ := Option.bind_eq_some_iff.mp h
  refine q_pick [1, 2, 0] rfl (Stays_save_x_L2_ok hL d qF a1 0 _ _ h2039 ?_)
  cases h
  exact q_return dX7_save_51 rfl hQ
set_option maxRecDepth 20000 in
theorem C_mark_ok {X : qX} (hL : ∀ c, c < 93 → c ∈ qLs X) (d : Nat) (a1 : Int) (S : qSto) (o : (Int × qSto)) (h : C_mark a1 S = some o) (Q : Option qV → qSto → Prop) (hQ : Q (some (qi o.1)) o.2) : qC X (d + 2) yX11_mark cX11_mark 2 (some .int) [qr 0, qi a1] S Q := by
  refine q_entry (lv := [(0, qr 0), (1, qi a1)]) pn_X11 (Nat.le_of_ble_eq_true rfl) rfl ?_
  unfold C_mark at h
  refine q_iload_n dX11_mark_0 rfl rfl ?_
  obtain ⟨c2025, h⟩ := qk_some h
  refine q_if_lt (tgt := 9) dX11_mark_1 (by decide) rfl (qRb_R c2025)  (fun g => ?_) (fun g => ?_)
  · rw [if_pos (show a1 < 0 from g)] at h
    refine q_iconst dX11_mark_9 rfl rfl ?_
    cases h
    exact q_ireturn dX11_mark_10 rfl hQ
  · rw [if_neg (show ¬ (a1 < 0) from g)] at h
    refine q_iload_n dX11_mark_4 rfl rfl ?_
    refine q_iconst dX11_mark_5 rfl rfl ?_
    obtain ⟨c2026, h⟩ := qk_some h
    refine q_icmp_lt (tgt := 11) dX11_mark_6 (by decide) rfl (qRb_R c2026) ⟨by decide, by decide⟩ (fun g => ?_) (fun g => ?_)
    · rw [if_pos (show a1 < 4 from g)] at h
      refine q_aload_n dX11_mark_11 rfl rfl ?_
      refine q_getA dX11_mark_12 fl_X11_49 (hL 0 (by decide)) sh_0 (by decide) rfl rfl ?_
      refine q_aload_n dX11_mark_15 rfl rfl ?_
      refine q_getA dX11_mark_16 fl_X11_99 (hL 0 (by decide)) sh_0 (by decide) rfl rfl ?_
      refine q_getA dX11_mark_19 fl_X11_420 (hL 12 (by decide)) sh_12 (by decide) rfl rfl ?_
      refine q_iload_n dX11_mark_22 rfl rfl ?_
      obtain ⟨c2027, h⟩ := qk_some h
      refine q_aaload dX11_mark_23 (hL 64 (by decide)) sh_64 (qIx_0 c2027) (qIx_1 c2027) rfl ?_
      obtain ⟨q2040, h2041, h⟩ := Option.bind_eq_some_iff.mp h
      refine q_callVv (as := [qr (qrf 64 (Int.toNat a1))]) (c := 6) dX11_mark_24 ml_X11_295 rfl rfl (hL 6 (by decide)) sh_6 rfl rfl (Nat.le_of_ble_eq_true rfl) (Stays_save_x_ok hL (d + 1) (qrf 64 (Int.toNat a1)) _ _ h2041) rfl ?_
      refine q_aload_n dX11_mark_27 rfl rfl ?_
      refine q_getA dX11_mark_28 fl_X11_99 (hL 0 (by decide)) sh_0 (by decide) rfl rfl ?_
      refine q_dupA dX11_mark_31 rfl ?_
      refine q_getI dX11_mark_32 fl_X11_432 (hL 12 (by decide)) sh_12 (by decide) rfl rfl ?_
      refine q_iconst dX11_mark_35 rfl rfl ?_
      refine q_iload_n dX11_mark_36 rfl rfl ?_
      refine q_ishl dX11_mark_37 rfl ?_
      refine q_ior dX11_mark_38 rfl ?_
      refine q_putI dX11_mark_39 fl_X11_432 (hL 12 (by decide)) sh_12 (by decide) pf_2_4 pt_2_4 rfl rfl ?_
      refine q_aload_n dX11_mark_42 rfl rfl ?_
      refine q_getA dX11_mark_43 fl_X11_49 (hL 0 (by decide)) sh_0 (by decide) rfl rfl ?_
      obtain ⟨q2042, h2043, h⟩ := Option.bind_eq_some_iff.mp h
      refine q_callVi (as := []) (c := 6) dX11_mark_46 ml_X11_161 rfl rfl (hL 6 (by decide)) sh_6 rfl rfl (Nat.le_of_ble_eq_true rfl) (Stays_howMany_ok hL d _ _ h2043) rfl ?_
      cases h
      exact q_ireturn dX11_mark_49 rfl hQ
    · rw [if_neg (show ¬ (a1 < 4) from g)] at h
      refine q_iconst dX11_mark_9 rfl rfl ?_
      cases h
      exact q_ireturn dX11_mark_10 rfl hQ
set_option maxRecDepth 20000 in
theorem Stays_load_x_L6_ok {X : qX} (hL : ∀ c, c < 93 → c ∈ qLs X) (d : Nat) {Q : Option qV → qSto → Prop} : ∀ (n : Nat) (x1 : Nat) (x2 : Int) (S : qSto) (o : qSto), Stays_load_x_L6 n x1 x2 S = some o → (qW X (d + 4) yX7_load cX7_load 3 none 57 [] [] o Q) → qW X (d + 4) yX7_load cX7_load 3 none 6 [(0, qr 6), (1, qr x1), (2, qi x2)] [] S Q := by
  intro n
  induction n with
  | zero =>
    intro x1 x2 S o h
    simp [Stays_load_x_L6] at h
  | succ n ih =>
    intro x1 x2 S o h hE
    rw [Stays_load_x_L6] at h
    refine q_iload_n dX7_load_6 rfl rfl ?_
    refine q_aload_n dX7_load_7 rfl rfl ?_
    refine q_getA dX7_load_8 fl_X7_36 (hL 6 (by decide)) sh_6 (by decide) rfl rfl ?_
    refine q_getI dX7_load_11 fl_X7_44 (hL 2 (by decide)) sh_2 (by decide) rfl rfl ?_
    obtain ⟨c2050, h⟩ := qk_some h
    obtain ⟨c2051, h⟩ := qk_some h
    refine q_icmp_ge (tgt := 57) dX7_load_14 (by decide) rfl (qRb_R c2050) (qRb_R c2051) (fun g => ?_) (fun g => ?_)
    · rw [if_pos (show (S 2 12) ≤ x2 from g)] at h
      cases h
      exact q_pick [] rfl (hE)
    · rw [if_neg (show ¬ ((S 2 12) ≤ x2) from g)] at h
      refine q_aload_n dX7_load_17 rfl rfl ?_
      refine q_iload_n dX7_load_18 rfl rfl ?_
      refine q_iconst dX7_load_19 rfl rfl ?_
      refine q_imul dX7_load_20 rfl ?_
      refine q_iconst dX7_load_21 rfl rfl ?_
      refine q_iadd dX7_load_22 rfl ?_
      obtain ⟨c2052, h⟩ := qk_some h
      obtain ⟨c2053, h⟩ := qk_some h
      refine q_iaload dX7_load_23 (hL _ (qAr_L c2052)) (qAr_S c2052) (qIx_0 c2053) (qIx_1 c2053) rfl ?_
      refine q_jn (G := fun (t2063 : qSto) => qW X (d + 4) yX7_load cX7_load 3 none 51 [(0, qr 6), (1, qr x1), (2, qi x2)] [] t2063 Q) h (fun t2063 h => ?_) (fun t2063 h hk4175 => ?_)
      · try dsimp only at h
        refine q_iinc (lv' := [(2, qi (x2 + 1)), (0, qr 6), (1, qr x1)]) dX7_load_51 (by decide) rfl rfl rfl ?_
        refine q_goto (pc' := 6) dX7_load_54 (by decide) ?_
        exact q_pick [1, 2, 0] rfl (ih x1 (x2 + 1) _ _ h hE)
      · skip
        obtain ⟨c2054, h⟩ := qk_some h
        refine q_if_le (tgt := 51) dX7_load_24 (by decide) rfl (qRb_R c2054)  (fun g => ?_) (fun g => ?_)
        · rw [if_pos (show (S x1 (Int.toNat ((x2 * 3) + 2))) ≤ 0 from g)] at h
          cases h
          exact q_pick [0, 1, 2] rfl hk4175
        · rw [if_neg (show ¬ ((S x1 (Int.toNat ((x2 * 3) + 2))) ≤ 0) from g)] at h
          refine q_aload_n dX7_load_27 rfl rfl ?_
          refine q_iload_n dX7_load_28 rfl rfl ?_
          refine q_aload_n dX7_load_29 rfl rfl ?_
          refine q_iload_n dX7_load_30 rfl rfl ?_
          refine q_iconst dX7_load_31 rfl rfl ?_
          refine q_imul dX7_load_32 rfl ?_
          obtain ⟨c2055, h⟩ := qk_some h
          obtain ⟨c2056, h⟩ := qk_some h
          refine q_iaload dX7_load_33 (hL _ (qAr_L c2055)) (qAr_S c2055) (qIx_0 c2056) (qIx_1 c2056) rfl ?_
          refine q_aload_n dX7_load_34 rfl rfl ?_
          refine q_iload_n dX7_load_35 rfl rfl ?_
          refine q_iconst dX7_load_36 rfl rfl ?_
          refine q_imul dX7_load_37 rfl ?_
          refine q_iconst dX7_load_38 rfl rfl ?_
          refine q_iadd dX7_load_39 rfl ?_
          obtain ⟨c2057, h⟩ := qk_some h
          obtain ⟨c2058, h⟩ := qk_some h
          refine q_iaload dX7_load_40 (hL _ (qAr_L c2057)) (qAr_S c2057) (qIx_0 c2058) (qIx_1 c2058) rfl ?_
          refine q_aload_n dX7_load_41 rfl rfl ?_
          refine q_iload_n dX7_load_42 rfl rfl ?_
          refine q_iconst dX7_load_43 rfl rfl ?_
          refine q_imul dX7_load_44 rfl ?_
          refine q_iconst dX7_load_45 rfl rfl ?_
          refine q_iadd dX7_load_46 rfl ?_
          obtain ⟨c2059, h⟩ := qk_some h
          obtain ⟨c2060, h⟩ := qk_some h
          refine q_iaload dX7_load_47 (hL _ (qAr_L c2059)) (qAr_S c2059) (qIx_0 c2060) (qIx_1 c2060) rfl ?_
          obtain ⟨q2061, h2062, h⟩ := Option.bind_eq_some_iff.mp h
          refine q_callVv (as := [qi x2, qi (S x1 (Int.toNat (x2 * 3))), qi (S x1 (Int.toNat ((x2 * 3) + 1))), qi (S x1 (Int.toNat ((x2 * 3) + 2)))]) (c := 6) dX7_load_48 ml_X7_92 rfl rfl (hL 6 (by decide)) sh_6 rfl rfl (Nat.le_of_ble_eq_true rfl) (Stays_lay_ok hL d x2 (S x1 (Int.toNat (x2 * 3))) (S x1 (Int.toNat ((x2 * 3) + 1))) (S x1 (Int.toNat ((x2 * 3) + 2))) _ _ h2062) rfl ?_
          cases h
          exact q_pick [0, 1, 2] rfl hk4175
set_option maxRecDepth 20000 in
theorem Stays_load_x_ok {X : qX} (hL : ∀ c, c < 93 → c ∈ qLs X) (d : Nat) (a1 : Nat) (S : qSto) (o : qSto) (h : Stays_load_x a1 S = some o) (Q : Option qV → qSto → Prop) (hQ : Q none o) : qC X (d + 4) yX7_load cX7_load 3 none [qr 6, qr a1] S Q := by
  refine q_entry (lv := [(0, qr 6), (1, qr a1)]) pn_X7 (Nat.le_of_ble_eq_true rfl) rfl ?_
  unfold Stays_load_x at h
  refine q_aload_n dX7_load_0 rfl rfl ?_
  obtain ⟨q2048, h2049, h⟩ := Option.bind_eq_some_iff.mp h
  refine q_callVv (as := []) (c := 6) dX7_load_1 ml_X7_102 rfl rfl (hL 6 (by decide)) sh_6 rfl rfl (Nat.le_of_ble_eq_true rfl) (Stays_clear_ok hL (d + 2) _ _ h2049) rfl ?_
  refine q_iconst dX7_load_4 rfl rfl ?_
  refine q_istore_n (lv' := [(2, qi 0), (0, qr 6), (1, qr a1)]) dX7_load_5 (by decide) rfl rfl ?_
  obtain ⟨q2064, h2065, h⟩ := Option.bind_eq_some_iff.mp h
  refine q_pick [1, 2, 0] rfl (Stays_load_x_L6_ok hL d qF a1 0 _ _ h2065 ?_)
  cases h
  exact q_return dX7_load_57 rfl hQ
set_option maxRecDepth 20000 in
theorem C_back_ok {X : qX} (hL : ∀ c, c < 93 → c ∈ qLs X) (d : Nat) (a1 : Int) (S : qSto) (o : (Int × qSto)) (h : C_back a1 S = some o) (Q : Option qV → qSto → Prop) (hQ : Q (some (qi o.1)) o.2) : qC X (d + 5) yX11_back cX11_back 2 (some .int) [qr 0, qi a1] S Q := by
  refine q_entry (lv := [(0, qr 0), (1, qi a1)]) pn_X11 (Nat.le_of_ble_eq_true rfl) rfl ?_
  unfold C_back at h
  refine q_aload_n dX11_back_0 rfl rfl ?_
  refine q_getA dX11_back_1 fl_X11_99 (hL 0 (by decide)) sh_0 (by decide) rfl rfl ?_
  refine q_iload_n dX11_back_4 rfl rfl ?_
  obtain ⟨q2044, h2045, h⟩ := Option.bind_eq_some_iff.mp h
  refine q_callVi (as := [qi a1]) (c := 12) dX11_back_5 ml_X11_417 rfl rfl (hL 12 (by decide)) sh_12 rfl rfl (Nat.le_of_ble_eq_true rfl) (History_isMade_ok hL (d + 4) a1 _ _ h2045) rfl ?_
  obtain ⟨c2046, h⟩ := qk_some h
  refine q_if_ne (tgt := 13) dX11_back_8 (by decide) rfl (qRb_R c2046)  (fun g => ?_) (fun g => ?_)
  · rw [if_neg (show ¬ (q2044.1 = 0) from g)] at h
    refine q_aload_n dX11_back_13 rfl rfl ?_
    refine q_getA dX11_back_14 fl_X11_49 (hL 0 (by decide)) sh_0 (by decide) rfl rfl ?_
    refine q_aload_n dX11_back_17 rfl rfl ?_
    refine q_getA dX11_back_18 fl_X11_99 (hL 0 (by decide)) sh_0 (by decide) rfl rfl ?_
    refine q_getA dX11_back_21 fl_X11_420 (hL 12 (by decide)) sh_12 (by decide) rfl rfl ?_
    refine q_iload_n dX11_back_24 rfl rfl ?_
    obtain ⟨c2047, h⟩ := qk_some h
    refine q_aaload dX11_back_25 (hL 64 (by decide)) sh_64 (qIx_0 c2047) (qIx_1 c2047) rfl ?_
    obtain ⟨q2066, h2067, h⟩ := Option.bind_eq_some_iff.mp h
    refine q_callVv (as := [qr (qrf 64 (Int.toNat a1))]) (c := 6) dX11_back_26 ml_X11_335 rfl rfl (hL 6 (by decide)) sh_6 rfl rfl (Nat.le_of_ble_eq_true rfl) (Stays_load_x_ok hL d (qrf 64 (Int.toNat a1)) _ _ h2067) rfl ?_
    refine q_aload_n dX11_back_29 rfl rfl ?_
    refine q_getA dX11_back_30 fl_X11_99 (hL 0 (by decide)) sh_0 (by decide) rfl rfl ?_
    refine q_iconst dX11_back_33 rfl rfl ?_
    refine q_putI dX11_back_34 fl_X11_165 (hL 12 (by decide)) sh_12 (by decide) pf_2_2 pt_2_2 rfl rfl ?_
    refine q_aload_n dX11_back_37 rfl rfl ?_
    refine q_getA dX11_back_38 fl_X11_92 (hL 0 (by decide)) sh_0 (by decide) rfl rfl ?_
    refine q_iconst dX11_back_41 rfl rfl ?_
    refine q_putZ dX11_back_42 fl_X11_136 (hL 11 (by decide)) sh_11 (by decide) pf_1_3 pt_1_3 rfl (by decide) rfl ?_
    refine q_aload_n dX11_back_45 rfl rfl ?_
    refine q_getA dX11_back_46 fl_X11_49 (hL 0 (by decide)) sh_0 (by decide) rfl rfl ?_
    obtain ⟨q2068, h2069, h⟩ := Option.bind_eq_some_iff.mp h
    refine q_callVi (as := []) (c := 6) dX11_back_49 ml_X11_161 rfl rfl (hL 6 (by decide)) sh_6 rfl rfl (Nat.le_of_ble_eq_true rfl) (Stays_howMany_ok hL (d + 3) _ _ h2069) rfl ?_
    cases h
    exact q_ireturn dX11_back_52 rfl hQ
  · rw [if_pos (show q2044.1 = 0 from g)] at h
    refine q_iconst dX11_back_11 rfl rfl ?_
    cases h
    exact q_ireturn dX11_back_12 rfl hQ
set_option maxRecDepth 20000 in
theorem M_four_L2_ok {X : qX} (hL : ∀ c, c < 93 → c ∈ qLs X) (d : Nat) {Q : Option qV → qSto → Prop} : ∀ (n : Nat) (x1 : Int) (x2 : Int) (S : qSto) (o : qSto), M_four_L2 n x1 x2 S = some o → (qW X d yX12_four cX12_four 3 none 41 [] [] o Q) → qW X d yX12_four cX12_four 3 none 2 [(0, qr 70), (1, qi x1), (2, qi x2)] [] S Q := by
  intro n
  induction n with
  | zero =>
    intro x1 x2 S o h
    simp [M_four_L2] at h
  | succ n ih =>
    intro x1 x2 S o h hE
    rw [M_four_L2] at h
    refine q_iload_n dX12_four_2 rfl rfl ?_
    obtain ⟨c2071, h⟩ := qk_some h
    refine q_if_lt (tgt := 41) dX12_four_3 (by decide) rfl (qRb_R c2071)  (fun g => ?_) (fun g => ?_)
    · rw [if_pos (show x2 < 0 from g)] at h
      cases h
      exact q_pick [] rfl (hE)
    · rw [if_neg (show ¬ (x2 < 0) from g)] at h
      refine q_aload_n dX12_four_6 rfl rfl ?_
      refine q_getA dX12_four_7 fl_X12_23 (hL 70 (by decide)) sh_70 (by decide) rfl rfl ?_
      refine q_aload_n dX12_four_10 rfl rfl ?_
      refine q_getI dX12_four_11 fl_X12_88 (hL 70 (by decide)) sh_70 (by decide) rfl rfl ?_
      refine q_iload_n dX12_four_14 rfl rfl ?_
      refine q_bipush dX12_four_15 (by decide) rfl ?_
      refine q_iload_n dX12_four_17 rfl rfl ?_
      refine q_imul dX12_four_18 rfl ?_
      refine q_ishr dX12_four_19 rfl ?_
      refine q_sipush dX12_four_20 (by decide) rfl ?_
      refine q_iand dX12_four_23 rfl ?_
      obtain ⟨c2072, h⟩ := qk_some h
      refine q_iastore dX12_four_24 (hL 75 (by decide)) sh_75 (qIx_0 c2072) (qIx_1 c2072) rfl ?_
      refine q_aload_n dX12_four_25 rfl rfl ?_
      refine q_aload_n dX12_four_26 rfl rfl ?_
      refine q_getI dX12_four_27 fl_X12_88 (hL 70 (by decide)) sh_70 (by decide) rfl rfl ?_
      refine q_iconst dX12_four_30 rfl rfl ?_
      refine q_iadd dX12_four_31 rfl ?_
      refine q_putI dX12_four_32 fl_X12_88 (hL 70 (by decide)) sh_70 (by decide) pf_12_5 pt_12_5 rfl rfl ?_
      refine q_iinc (lv' := [(2, qi (x2 + (-1))), (0, qr 70), (1, qi x1)]) dX12_four_35 (by decide) rfl rfl rfl ?_
      refine q_goto (pc' := 2) dX12_four_38 (by decide) ?_
      exact q_pick [1, 2, 0] rfl (ih x1 (x2 + (-1)) _ _ h hE)
set_option maxRecDepth 20000 in
theorem M_four_ok {X : qX} (hL : ∀ c, c < 93 → c ∈ qLs X) (d : Nat) (a1 : Int) (S : qSto) (o : qSto) (h : M_four a1 S = some o) (Q : Option qV → qSto → Prop) (hQ : Q none o) : qC X d yX12_four cX12_four 3 none [qr 70, qi a1] S Q := by
  refine q_entry (lv := [(0, qr 70), (1, qi a1)]) pn_X12 (Nat.le_of_ble_eq_true rfl) rfl ?_
  unfold M_four at h
  refine q_iconst dX12_four_0 rfl rfl ?_
  refine q_istore_n (lv' := [(2, qi 3), (0, qr 70), (1, qi a1)]) dX12_four_1 (by decide) rfl rfl ?_
  obtain ⟨q2073, h2074, h⟩ := Option.bind_eq_some_iff.mp h
  refine q_pick [1, 2, 0] rfl (M_four_L2_ok hL d qF a1 3 _ _ h2074 ?_)
  cases h
  exact q_return dX12_four_41 rfl hQ
set_option maxRecDepth 20000 in
theorem M_feed_ok {X : qX} (hL : ∀ c, c < 93 → c ∈ qLs X) (d : Nat) (a1 : Int) (a2 : Int) (a3 : Int) (a4 : Int) (a5 : Int) (S : qSto) (o : (Int × qSto)) (h : M_feed a1 a2 a3 a4 a5 S = some o) (Q : Option qV → qSto → Prop) (hQ : Q (some (qi o.1)) o.2) : qC X (d + 1) yX12_feed cX12_feed 6 (some .int) [qr 70, qi a1, qi a2, qi a3, qi a4, qi a5] S Q := by
  refine q_entry (lv := [(0, qr 70), (1, qi a1), (2, qi a2), (3, qi a3), (4, qi a4), (5, qi a5)]) pn_X12 (Nat.le_of_ble_eq_true rfl) rfl ?_
  unfold M_feed at h
  refine q_aload_n dX12_feed_0 rfl rfl ?_
  refine q_getI dX12_feed_1 fl_X12_88 (hL 70 (by decide)) sh_70 (by decide) rfl rfl ?_
  refine q_bipush dX12_feed_4 (by decide) rfl ?_
  refine q_iadd dX12_feed_6 rfl ?_
  refine q_sipush dX12_feed_7 (by decide) rfl ?_
  obtain ⟨c2070, h⟩ := qk_some h
  refine q_icmp_le (tgt := 15) dX12_feed_10 (by decide) rfl (qRb_R c2070) ⟨by decide, by decide⟩ (fun g => ?_) (fun g => ?_)
  · rw [if_pos (show ((S 70 5) + 20) ≤ 1200 from g)] at h
    refine q_aload_n dX12_feed_15 rfl rfl ?_
    refine q_iload_n dX12_feed_16 rfl rfl ?_
    obtain ⟨q2075, h2076, h⟩ := Option.bind_eq_some_iff.mp h
    refine q_callVv (as := [qi a1]) (c := 70) dX12_feed_17 ml_X12_91 rfl rfl (hL 70 (by decide)) sh_70 rfl rfl (Nat.le_of_ble_eq_true rfl) (M_four_ok hL d a1 _ _ h2076) rfl ?_
    refine q_aload_n dX12_feed_20 rfl rfl ?_
    refine q_iload_n dX12_feed_21 rfl rfl ?_
    obtain ⟨q2077, h2078, h⟩ := Option.bind_eq_some_iff.mp h
    refine q_callVv (as := [qi a2]) (c := 70) dX12_feed_22 ml_X12_91 rfl rfl (hL 70 (by decide)) sh_70 rfl rfl (Nat.le_of_ble_eq_true rfl) (M_four_ok hL d a2 _ _ h2078) rfl ?_
    refine q_aload_n dX12_feed_25 rfl rfl ?_
    refine q_iload_n dX12_feed_26 rfl rfl ?_
    obtain ⟨q2079, h2080, h⟩ := Option.bind_eq_some_iff.mp h
    refine q_callVv (as := [qi a3]) (c := 70) dX12_feed_27 ml_X12_91 rfl rfl (hL 70 (by decide)) sh_70 rfl rfl (Nat.le_of_ble_eq_true rfl) (M_four_ok hL d a3 _ _ h2080) rfl ?_
    refine q_aload_n dX12_feed_30 rfl rfl ?_
    refine q_iload dX12_feed_31 rfl rfl ?_
    obtain ⟨q2081, h2082, h⟩ := Option.bind_eq_some_iff.mp h
    refine q_callVv (as := [qi a4]) (c := 70) dX12_feed_33 ml_X12_91 rfl rfl (hL 70 (by decide)) sh_70 rfl rfl (Nat.le_of_ble_eq_true rfl) (M_four_ok hL d a4 _ _ h2082) rfl ?_
    refine q_aload_n dX12_feed_36 rfl rfl ?_
    refine q_iload dX12_feed_37 rfl rfl ?_
    obtain ⟨q2083, h2084, h⟩ := Option.bind_eq_some_iff.mp h
    refine q_callVv (as := [qi a5]) (c := 70) dX12_feed_39 ml_X12_91 rfl rfl (hL 70 (by decide)) sh_70 rfl rfl (Nat.le_of_ble_eq_true rfl) (M_four_ok hL d a5 _ _ h2084) rfl ?_
    refine q_aload_n dX12_feed_42 rfl rfl ?_
    refine q_getI dX12_feed_43 fl_X12_88 (hL 70 (by decide)) sh_70 (by decide) rfl rfl ?_
    cases h
    exact q_ireturn dX12_feed_46 rfl hQ
  · rw [if_neg (show ¬ (((S 70 5) + 20) ≤ 1200) from g)] at h
    refine q_iconst dX12_feed_13 rfl rfl ?_
    cases h
    exact q_ireturn dX12_feed_14 rfl hQ
set_option maxRecDepth 20000 in
theorem M_blank_L2_ok {X : qX} (hL : ∀ c, c < 93 → c ∈ qLs X) (d : Nat) {Q : Option qV → qSto → Prop} : ∀ (n : Nat) (x1 : Int) (S : qSto) (o : qSto), M_blank_L2 n x1 S = some o → (qW X d yX12_blank cX12_blank 2 none 22 [(0, qr 70)] [] o Q) → qW X d yX12_blank cX12_blank 2 none 2 [(0, qr 70), (1, qi x1)] [] S Q := by
  intro n
  induction n with
  | zero =>
    intro x1 S o h
    simp [M_blank_L2] at h
  | succ n ih =>
    intro x1 S o h hE
    rw [M_blank_L2] at h
    refine q_iload_n dX12_blank_2 rfl rfl ?_
    refine q_sipush dX12_blank_3 (by decide) rfl ?_
    obtain ⟨c2088, h⟩ := qk_some h
    refine q_icmp_ge (tgt := 22) dX12_blank_6 (by decide) rfl (qRb_R c2088) ⟨by decide, by decide⟩ (fun g => ?_) (fun g => ?_)
    · rw [if_pos (show 250 ≤ x1 from g)] at h
      cases h
      exact q_pick [0] rfl (hE)
    · rw [if_neg (show ¬ (250 ≤ x1) from g)] at h
      refine q_aload_n dX12_blank_9 rfl rfl ?_
      refine q_getA dX12_blank_10 fl_X12_7 (hL 70 (by decide)) sh_70 (by decide) rfl rfl ?_
      refine q_iload_n dX12_blank_13 rfl rfl ?_
      refine q_iconst dX12_blank_14 rfl rfl ?_
      obtain ⟨c2089, h⟩ := qk_some h
      refine q_iastore dX12_blank_15 (hL 71 (by decide)) sh_71 (qIx_0 c2089) (qIx_1 c2089) rfl ?_
      refine q_iinc (lv' := [(1, qi (x1 + 1)), (0, qr 70)]) dX12_blank_16 (by decide) rfl rfl rfl ?_
      refine q_goto (pc' := 2) dX12_blank_19 (by decide) ?_
      exact q_pick [1, 0] rfl (ih (x1 + 1) _ _ h hE)
set_option maxRecDepth 20000 in
theorem M_blank_L24_ok {X : qX} (hL : ∀ c, c < 93 → c ∈ qLs X) (d : Nat) {Q : Option qV → qSto → Prop} : ∀ (n : Nat) (x1 : Int) (S : qSto) (o : qSto), M_blank_L24 n x1 S = some o → (qW X d yX12_blank cX12_blank 2 none 46 [(0, qr 70)] [] o Q) → qW X d yX12_blank cX12_blank 2 none 24 [(0, qr 70), (1, qi x1)] [] S Q := by
  intro n
  induction n with
  | zero =>
    intro x1 S o h
    simp [M_blank_L24] at h
  | succ n ih =>
    intro x1 S o h hE
    rw [M_blank_L24] at h
    refine q_iload_n dX12_blank_24 rfl rfl ?_
    refine q_bipush dX12_blank_25 (by decide) rfl ?_
    obtain ⟨c2092, h⟩ := qk_some h
    refine q_icmp_ge (tgt := 46) dX12_blank_27 (by decide) rfl (qRb_R c2092) ⟨by decide, by decide⟩ (fun g => ?_) (fun g => ?_)
    · rw [if_pos (show 21 ≤ x1 from g)] at h
      cases h
      exact q_pick [0] rfl (hE)
    · rw [if_neg (show ¬ (21 ≤ x1) from g)] at h
      refine q_aload_n dX12_blank_30 rfl rfl ?_
      refine q_getA dX12_blank_31 fl_X12_7 (hL 70 (by decide)) sh_70 (by decide) rfl rfl ?_
      refine q_bipush dX12_blank_34 (by decide) rfl ?_
      refine q_iload_n dX12_blank_36 rfl rfl ?_
      refine q_iadd dX12_blank_37 rfl ?_
      refine q_iconst dX12_blank_38 rfl rfl ?_
      obtain ⟨c2093, h⟩ := qk_some h
      refine q_iastore dX12_blank_39 (hL 71 (by decide)) sh_71 (qIx_0 c2093) (qIx_1 c2093) rfl ?_
      refine q_iinc (lv' := [(1, qi (x1 + 1)), (0, qr 70)]) dX12_blank_40 (by decide) rfl rfl rfl ?_
      refine q_goto (pc' := 24) dX12_blank_43 (by decide) ?_
      exact q_pick [1, 0] rfl (ih (x1 + 1) _ _ h hE)
set_option maxRecDepth 20000 in
theorem M_blank_ok {X : qX} (hL : ∀ c, c < 93 → c ∈ qLs X) (d : Nat) (S : qSto) (o : qSto) (h : M_blank S = some o) (Q : Option qV → qSto → Prop) (hQ : Q none o) : qC X d yX12_blank cX12_blank 2 none [qr 70] S Q := by
  refine q_entry (lv := [(0, qr 70)]) pn_X12 (Nat.le_of_ble_eq_true rfl) rfl ?_
  unfold M_blank at h
  refine q_iconst dX12_blank_0 rfl rfl ?_
  refine q_istore_n (lv' := [(1, qi 0), (0, qr 70)]) dX12_blank_1 (by decide) rfl rfl ?_
  obtain ⟨q2090, h2091, h⟩ := Option.bind_eq_some_iff.mp h
  refine q_pick [1, 0] rfl (M_blank_L2_ok hL d qF 0 _ _ h2091 ?_)
  refine q_iconst dX12_blank_22 rfl rfl ?_
  refine q_istore_n (lv' := [(1, qi 0), (0, qr 70)]) dX12_blank_23 (by decide) rfl rfl ?_
  obtain ⟨q2094, h2095, h⟩ := Option.bind_eq_some_iff.mp h
  refine q_pick [1, 0] rfl (M_blank_L24_ok hL d qF 0 _ _ h2095 ?_)
  refine q_aload_n dX12_blank_46 rfl rfl ?_
  refine q_getA dX12_blank_47 fl_X12_7 (hL 70 (by decide)) sh_70 (by decide) rfl rfl ?_
  refine q_iconst dX12_blank_50 rfl rfl ?_
  refine q_sipush dX12_blank_51 (by decide) rfl ?_
  refine q_iastore dX12_blank_54 (hL 71 (by decide)) sh_71 (by decide) (by decide) rfl ?_
  refine q_aload_n dX12_blank_55 rfl rfl ?_
  refine q_getA dX12_blank_56 fl_X12_7 (hL 70 (by decide)) sh_70 (by decide) rfl rfl ?_
  refine q_iconst dX12_blank_59 rfl rfl ?_
  refine q_bipush dX12_blank_60 (by decide) rfl ?_
  refine q_iastore dX12_blank_62 (hL 71 (by decide)) sh_71 (by decide) (by decide) rfl ?_
  refine q_aload_n dX12_blank_63 rfl rfl ?_
  refine q_getA dX12_blank_64 fl_X12_7 (hL 70 (by decide)) sh_70 (by decide) rfl rfl ?_
  refine q_iconst dX12_blank_67 rfl rfl ?_
  refine q_bipush dX12_blank_68 (by decide) rfl ?_
  refine q_iastore dX12_blank_70 (hL 71 (by decide)) sh_71 (by decide) (by decide) rfl ?_
  refine q_aload_n dX12_blank_71 rfl rfl ?_
  refine q_iconst dX12_blank_72 rfl rfl ?_
  refine q_putI dX12_blank_73 fl_X12_185 (hL 70 (by decide)) sh_70 (by decide) pf_12_14 pt_12_14 rfl rfl ?_
  cases h
  exact q_return dX12_blank_76 rfl hQ
set_option maxRecDepth 20000 in
theorem M_byteAt_ok {X : qX} (hL : ∀ c, c < 93 → c ∈ qLs X) (d : Nat) (a1 : Int) (S : qSto) (o : (Int × qSto)) (h : M_byteAt a1 S = some o) (Q : Option qV → qSto → Prop) (hQ : Q (some (qi o.1)) o.2) : qC X d yX12_byteAt cX12_byteAt 2 (some .int) [qr 70, qi a1] S Q := by
  refine q_entry (lv := [(0, qr 70), (1, qi a1)]) pn_X12 (Nat.le_of_ble_eq_true rfl) rfl ?_
  unfold M_byteAt at h
  refine q_iload_n dX12_byteAt_0 rfl rfl ?_
  obtain ⟨c2098, h⟩ := qk_some h
  refine q_if_lt (tgt := 21) dX12_byteAt_1 (by decide) rfl (qRb_R c2098)  (fun g => ?_) (fun g => ?_)
  · rw [if_pos (show a1 < 0 from g)] at h
    refine q_iconst dX12_byteAt_21 rfl rfl ?_
    cases h
    exact q_ireturn dX12_byteAt_22 rfl hQ
  · rw [if_neg (show ¬ (a1 < 0) from g)] at h
    refine q_iload_n dX12_byteAt_4 rfl rfl ?_
    refine q_aload_n dX12_byteAt_5 rfl rfl ?_
    refine q_getI dX12_byteAt_6 fl_X12_107 (hL 70 (by decide)) sh_70 (by decide) rfl rfl ?_
    obtain ⟨c2099, h⟩ := qk_some h
    obtain ⟨c2100, h⟩ := qk_some h
    refine q_icmp_ge (tgt := 21) dX12_byteAt_9 (by decide) rfl (qRb_R c2099) (qRb_R c2100) (fun g => ?_) (fun g => ?_)
    · rw [if_pos (show (S 70 6) ≤ a1 from g)] at h
      refine q_iconst dX12_byteAt_21 rfl rfl ?_
      cases h
      exact q_ireturn dX12_byteAt_22 rfl hQ
    · rw [if_neg (show ¬ ((S 70 6) ≤ a1) from g)] at h
      refine q_aload_n dX12_byteAt_12 rfl rfl ?_
      refine q_getA dX12_byteAt_13 fl_X12_23 (hL 70 (by decide)) sh_70 (by decide) rfl rfl ?_
      refine q_iload_n dX12_byteAt_16 rfl rfl ?_
      obtain ⟨c2101, h⟩ := qk_some h
      refine q_iaload dX12_byteAt_17 (hL 75 (by decide)) sh_75 (qIx_0 c2101) (qIx_1 c2101) rfl ?_
      refine q_goto (pc' := 22) dX12_byteAt_18 (by decide) ?_
      cases h
      exact q_ireturn dX12_byteAt_22 rfl hQ
set_option maxRecDepth 20000 in
theorem M_in_ok {X : qX} (hL : ∀ c, c < 93 → c ∈ qLs X) (d : Nat) (a0 : Int) (a2 : Int) (a4 : Int) (S : qSto) (o : (Int × qSto)) (h : M_in a0 a2 a4 S = some o) (Q : Option qV → qSto → Prop) (hQ : Q (some (qi o.1)) o.2) : qC X d yX12_in cX12_in 6 (some .boolean) [ql a0, ql a2, ql a4] S Q := by
  refine q_entry (lv := [(0, ql a0), (2, ql a2), (4, ql a4)]) pn_X12 (Nat.le_of_ble_eq_true rfl) rfl ?_
  unfold M_in at h
  refine q_lload_n dX12_in_0 rfl rfl ?_
  refine q_lload_n dX12_in_1 rfl rfl ?_
  obtain ⟨c2114, h⟩ := qk_some h
  obtain ⟨c2115, h⟩ := qk_some h
  refine q_lcmp dX12_in_2 (qRLb_R c2114) (qRLb_R c2115) rfl ?_
  refine q_if_lt (tgt := 17) dX12_in_3 (by decide) rfl (q3_R _ _)  (fun g => ?_) (fun g => ?_)
  · rw [if_pos (show a0 < a2 from (q3_lt _ _).mp g)] at h
    refine q_iconst dX12_in_17 rfl rfl ?_
    cases h
    exact q_zreturn dX12_in_18 rfl (by decide) hQ
  · rw [if_neg (show ¬ (a0 < a2) from fun e => g ((q3_lt _ _).mpr e))] at h
    refine q_lload_n dX12_in_6 rfl rfl ?_
    refine q_lload dX12_in_7 rfl rfl ?_
    obtain ⟨c2116, h⟩ := qk_some h
    obtain ⟨c2117, h⟩ := qk_some h
    refine q_lcmp dX12_in_9 (qRLb_R c2116) (qRLb_R c2117) rfl ?_
    refine q_if_gt (tgt := 17) dX12_in_10 (by decide) rfl (q3_R _ _)  (fun g => ?_) (fun g => ?_)
    · rw [if_pos (show a4 < a0 from (q3_gt _ _).mp g)] at h
      refine q_iconst dX12_in_17 rfl rfl ?_
      cases h
      exact q_zreturn dX12_in_18 rfl (by decide) hQ
    · rw [if_neg (show ¬ (a4 < a0) from fun e => g ((q3_gt _ _).mpr e))] at h
      refine q_iconst dX12_in_13 rfl rfl ?_
      refine q_goto (pc' := 18) dX12_in_14 (by decide) ?_
      cases h
      exact q_zreturn dX12_in_18 rfl (by decide) hQ
set_option maxRecDepth 20000 in
theorem M_isLetter_ok {X : qX} (hL : ∀ c, c < 93 → c ∈ qLs X) (d : Nat) (a0 : Int) (S : qSto) (o : (Int × qSto)) (h : M_isLetter a0 S = some o) (Q : Option qV → qSto → Prop) (hQ : Q (some (qi o.1)) o.2) : qC X (d + 1) yX12_isLetter cX12_isLetter 1 (some .boolean) [qi a0] S Q := by
  refine q_entry (lv := [(0, qi a0)]) pn_X12 (Nat.le_of_ble_eq_true rfl) rfl ?_
  unfold M_isLetter at h
  refine q_iload_n dX12_isLetter_0 rfl rfl ?_
  obtain ⟨c2113, h⟩ := qk_some h
  refine q_i2l dX12_isLetter_1 (qRb_R c2113) rfl ?_
  refine q_ldc2 (v := 97) dX12_isLetter_2 qw_1499 rfl ?_
  refine q_ldc2 (v := 122) dX12_isLetter_5 qw_1500 rfl ?_
  obtain ⟨q2118, h2119, h⟩ := Option.bind_eq_some_iff.mp h
  refine q_callSi (as := [ql a0, ql 97, ql 122]) dX12_isLetter_8 ml_X12_99 rfl rfl (Nat.le_of_ble_eq_true rfl) (M_in_ok hL d a0 97 122 _ _ h2119) rfl ?_
  obtain ⟨c2120, h⟩ := qk_some h
  cases h
  exact q_zreturn dX12_isLetter_11 rfl (qZb_Z c2120) hQ
set_option maxRecDepth 20000 in
theorem M_isDigit_ok {X : qX} (hL : ∀ c, c < 93 → c ∈ qLs X) (d : Nat) (a0 : Int) (S : qSto) (o : (Int × qSto)) (h : M_isDigit a0 S = some o) (Q : Option qV → qSto → Prop) (hQ : Q (some (qi o.1)) o.2) : qC X (d + 1) yX12_isDigit cX12_isDigit 1 (some .boolean) [qi a0] S Q := by
  refine q_entry (lv := [(0, qi a0)]) pn_X12 (Nat.le_of_ble_eq_true rfl) rfl ?_
  unfold M_isDigit at h
  refine q_iload_n dX12_isDigit_0 rfl rfl ?_
  obtain ⟨c2124, h⟩ := qk_some h
  refine q_i2l dX12_isDigit_1 (qRb_R c2124) rfl ?_
  refine q_ldc2 (v := 48) dX12_isDigit_2 qw_1511 rfl ?_
  refine q_ldc2 (v := 57) dX12_isDigit_5 qw_1512 rfl ?_
  obtain ⟨q2125, h2126, h⟩ := Option.bind_eq_some_iff.mp h
  refine q_callSi (as := [ql a0, ql 48, ql 57]) dX12_isDigit_8 ml_X12_99 rfl rfl (Nat.le_of_ble_eq_true rfl) (M_in_ok hL d a0 48 57 _ _ h2126) rfl ?_
  obtain ⟨c2127, h⟩ := qk_some h
  cases h
  exact q_zreturn dX12_isDigit_11 rfl (qZb_Z c2127) hQ
set_option maxRecDepth 20000 in
theorem M_digits_L21_ok {X : qX} (hL : ∀ c, c < 93 → c ∈ qLs X) (d : Nat) {Q : Option qV → qSto → Prop} : ∀ (n : Nat) (x1 : Int) (x2 : Int) (S : qSto) (o : (Int × qSto)), M_digits_L21 n x2 S = some o → (qW X (d + 2) yX12_digits cX12_digits 3 none 80 [(0, qr 70), (1, qi x1), (2, qi o.1)] [] o.2 Q) → qW X (d + 2) yX12_digits cX12_digits 3 none 21 [(0, qr 70), (1, qi x1), (2, qi x2)] [] S Q := by
  intro n
  induction n with
  | zero =>
    intro x1 x2 S o h
    simp [M_digits_L21] at h
  | succ n ih =>
    intro x1 x2 S o h hE
    rw [M_digits_L21] at h
    refine q_aload_n dX12_digits_21 rfl rfl ?_
    refine q_aload_n dX12_digits_22 rfl rfl ?_
    refine q_getI dX12_digits_23 fl_X12_110 (hL 70 (by decide)) sh_70 (by decide) rfl rfl ?_
    obtain ⟨q2136, h2137, h⟩ := Option.bind_eq_some_iff.mp h
    refine q_callVi (as := [qi (S 70 7)]) (c := 70) dX12_digits_26 ml_X12_113 rfl rfl (hL 70 (by decide)) sh_70 rfl rfl (Nat.le_of_ble_eq_true rfl) (M_byteAt_ok hL (d + 1) (S 70 7) _ _ h2137) rfl ?_
    obtain ⟨q2138, h2139, h⟩ := Option.bind_eq_some_iff.mp h
    refine q_callSi (as := [qi q2136.1]) dX12_digits_29 ml_X12_130 rfl rfl (Nat.le_of_ble_eq_true rfl) (M_isDigit_ok hL d q2136.1 _ _ h2139) rfl ?_
    obtain ⟨c2140, h⟩ := qk_some h
    refine q_if_eq (tgt := 80) dX12_digits_32 (by decide) rfl (qRb_R c2140)  (fun g => ?_) (fun g => ?_)
    · rw [if_pos (show q2138.1 = 0 from g)] at h
      cases h
      exact q_pick [0, 1, 2] rfl (hE)
    · rw [if_neg (show ¬ (q2138.1 = 0) from g)] at h
      refine q_iload_n dX12_digits_35 rfl rfl ?_
      refine q_iconst dX12_digits_36 rfl rfl ?_
      refine q_jn (G := fun (t2144 : qSto) => qW X (d + 2) yX12_digits cX12_digits 3 none 63 [(0, qr 70), (1, qi x1), (2, qi x2)] [] t2144 Q) h (fun t2144 h => ?_) (fun t2144 h hk4176 => ?_)
      · try dsimp only at h
        refine q_iload_n dX12_digits_63 rfl rfl ?_
        refine q_iconst dX12_digits_64 rfl rfl ?_
        refine q_iadd dX12_digits_65 rfl ?_
        refine q_istore_n (lv' := [(2, qi (x2 + 1)), (0, qr 70), (1, qi x1)]) dX12_digits_66 (by decide) rfl rfl ?_
        refine q_aload_n dX12_digits_67 rfl rfl ?_
        refine q_aload_n dX12_digits_68 rfl rfl ?_
        refine q_getI dX12_digits_69 fl_X12_110 (hL 70 (by decide)) sh_70 (by decide) rfl rfl ?_
        refine q_iconst dX12_digits_72 rfl rfl ?_
        refine q_iadd dX12_digits_73 rfl ?_
        refine q_putI dX12_digits_74 fl_X12_110 (hL 70 (by decide)) sh_70 (by decide) pf_12_7 pt_12_7 rfl rfl ?_
        refine q_goto (pc' := 21) dX12_digits_77 (by decide) ?_
        exact q_pick [1, 2, 0] rfl (ih x1 (x2 + 1) _ _ h hE)
      · skip
        obtain ⟨c2141, h⟩ := qk_some h
        refine q_icmp_ge (tgt := 63) dX12_digits_37 (by decide) rfl (qRb_R c2141) ⟨by decide, by decide⟩ (fun g => ?_) (fun g => ?_)
        · rw [if_pos (show 4 ≤ x2 from g)] at h
          cases h
          exact q_pick [0, 1, 2] rfl hk4176
        · rw [if_neg (show ¬ (4 ≤ x2) from g)] at h
          refine q_aload_n dX12_digits_40 rfl rfl ?_
          refine q_bipush dX12_digits_41 (by decide) rfl ?_
          refine q_aload_n dX12_digits_43 rfl rfl ?_
          refine q_getI dX12_digits_44 fl_X12_144 (hL 70 (by decide)) sh_70 (by decide) rfl rfl ?_
          refine q_imul dX12_digits_47 rfl ?_
          refine q_aload_n dX12_digits_48 rfl rfl ?_
          refine q_aload_n dX12_digits_49 rfl rfl ?_
          refine q_getI dX12_digits_50 fl_X12_110 (hL 70 (by decide)) sh_70 (by decide) rfl rfl ?_
          obtain ⟨q2142, h2143, h⟩ := Option.bind_eq_some_iff.mp h
          refine q_callVi (as := [qi (q2138.2 70 7)]) (c := 70) dX12_digits_53 ml_X12_113 rfl rfl (hL 70 (by decide)) sh_70 rfl rfl (Nat.le_of_ble_eq_true rfl) (M_byteAt_ok hL (d + 1) (q2138.2 70 7) _ _ h2143) rfl ?_
          refine q_iadd dX12_digits_56 rfl ?_
          refine q_bipush dX12_digits_57 (by decide) rfl ?_
          refine q_isub dX12_digits_59 rfl ?_
          refine q_putI dX12_digits_60 fl_X12_144 (hL 70 (by decide)) sh_70 (by decide) pf_12_10 pt_12_10 rfl rfl ?_
          cases h
          exact q_pick [0, 1, 2] rfl hk4176
set_option maxRecDepth 20000 in
theorem M_digits_ok {X : qX} (hL : ∀ c, c < 93 → c ∈ qLs X) (d : Nat) (S : qSto) (o : qSto) (h : M_digits S = some o) (Q : Option qV → qSto → Prop) (hQ : Q none o) : qC X (d + 2) yX12_digits cX12_digits 3 none [qr 70] S Q := by
  refine q_entry (lv := [(0, qr 70)]) pn_X12 (Nat.le_of_ble_eq_true rfl) rfl ?_
  unfold M_digits at h
  refine q_aload_n dX12_digits_0 rfl rfl ?_
  refine q_aload_n dX12_digits_1 rfl rfl ?_
  refine q_getI dX12_digits_2 fl_X12_110 (hL 70 (by decide)) sh_70 (by decide) rfl rfl ?_
  refine q_iconst dX12_digits_5 rfl rfl ?_
  refine q_isub dX12_digits_6 rfl ?_
  obtain ⟨q2132, h2133, h⟩ := Option.bind_eq_some_iff.mp h
  refine q_callVi (as := [qi ((S 70 7) - 1)]) (c := 70) dX12_digits_7 ml_X12_113 rfl rfl (hL 70 (by decide)) sh_70 rfl rfl (Nat.le_of_ble_eq_true rfl) (M_byteAt_ok hL (d + 1) ((S 70 7) - 1) _ _ h2133) rfl ?_
  obtain ⟨q2134, h2135, h⟩ := Option.bind_eq_some_iff.mp h
  refine q_callSi (as := [qi q2132.1]) dX12_digits_10 ml_X12_123 rfl rfl (Nat.le_of_ble_eq_true rfl) (M_isLetter_ok hL d q2132.1 _ _ h2135) rfl ?_
  refine q_istore_n (lv' := [(1, qi q2134.1), (0, qr 70)]) dX12_digits_13 (by decide) rfl rfl ?_
  refine q_iconst dX12_digits_14 rfl rfl ?_
  refine q_istore_n (lv' := [(2, qi 0), (1, qi q2134.1), (0, qr 70)]) dX12_digits_15 (by decide) rfl rfl ?_
  refine q_aload_n dX12_digits_16 rfl rfl ?_
  refine q_iconst dX12_digits_17 rfl rfl ?_
  refine q_putI dX12_digits_18 fl_X12_144 (hL 70 (by decide)) sh_70 (by decide) pf_12_10 pt_12_10 rfl rfl ?_
  obtain ⟨q2145, h2146, h⟩ := Option.bind_eq_some_iff.mp h
  refine q_pick [2, 1, 0] rfl (M_digits_L21_ok hL d qF q2134.1 0 _ _ h2146 ?_)
  refine q_aload_n dX12_digits_80 rfl rfl ?_
  refine q_iload_n dX12_digits_81 rfl rfl ?_
  obtain ⟨c2147, h⟩ := qk_some h
  refine q_if_ne (tgt := 90) dX12_digits_82 (by decide) rfl (qRb_R c2147)  (fun g => ?_) (fun g => ?_)
  · rw [if_neg (show ¬ (q2134.1 = 0) from g)] at h
    refine q_iconst dX12_digits_90 rfl rfl ?_
    refine q_goto (pc' := 95) dX12_digits_91 (by decide) ?_
    refine q_putI dX12_digits_95 fl_X12_120 (hL 70 (by decide)) sh_70 (by decide) pf_12_9 pt_12_9 rfl rfl ?_
    cases h
    exact q_return dX12_digits_98 rfl hQ
  · rw [if_pos (show q2134.1 = 0 from g)] at h
    refine q_iload_n dX12_digits_85 rfl rfl ?_
    refine q_iconst dX12_digits_86 rfl rfl ?_
    obtain ⟨c2148, h⟩ := qk_some h
    refine q_icmp_le (tgt := 94) dX12_digits_87 (by decide) rfl (qRb_R c2148) ⟨by decide, by decide⟩ (fun g => ?_) (fun g => ?_)
    · rw [if_pos (show q2145.1 ≤ 4 from g)] at h
      refine q_iconst dX12_digits_94 rfl rfl ?_
      refine q_putI dX12_digits_95 fl_X12_120 (hL 70 (by decide)) sh_70 (by decide) pf_12_9 pt_12_9 rfl rfl ?_
      cases h
      exact q_return dX12_digits_98 rfl hQ
    · rw [if_neg (show ¬ (q2145.1 ≤ 4) from g)] at h
      refine q_iconst dX12_digits_90 rfl rfl ?_
      refine q_goto (pc' := 95) dX12_digits_91 (by decide) ?_
      refine q_putI dX12_digits_95 fl_X12_120 (hL 70 (by decide)) sh_70 (by decide) pf_12_9 pt_12_9 rfl rfl ?_
      cases h
      exact q_return dX12_digits_98 rfl hQ
set_option maxRecDepth 20000 in
theorem M_letters_L21_ok {X : qX} (hL : ∀ c, c < 93 → c ∈ qLs X) (d : Nat) {Q : Option qV → qSto → Prop} : ∀ (n : Nat) (x1 : Int) (x2 : Int) (S : qSto) (o : (Int × qSto)), M_letters_L21 n x2 S = some o → (qW X (d + 2) yX12_letters cX12_letters 3 none 84 [(0, qr 70), (1, qi x1), (2, qi o.1)] [] o.2 Q) → qW X (d + 2) yX12_letters cX12_letters 3 none 21 [(0, qr 70), (1, qi x1), (2, qi x2)] [] S Q := by
  intro n
  induction n with
  | zero =>
    intro x1 x2 S o h
    simp [M_letters_L21] at h
  | succ n ih =>
    intro x1 x2 S o h hE
    rw [M_letters_L21] at h
    refine q_aload_n dX12_letters_21 rfl rfl ?_
    refine q_aload_n dX12_letters_22 rfl rfl ?_
    refine q_getI dX12_letters_23 fl_X12_110 (hL 70 (by decide)) sh_70 (by decide) rfl rfl ?_
    obtain ⟨q2155, h2156, h⟩ := Option.bind_eq_some_iff.mp h
    refine q_callVi (as := [qi (S 70 7)]) (c := 70) dX12_letters_26 ml_X12_113 rfl rfl (hL 70 (by decide)) sh_70 rfl rfl (Nat.le_of_ble_eq_true rfl) (M_byteAt_ok hL (d + 1) (S 70 7) _ _ h2156) rfl ?_
    obtain ⟨q2157, h2158, h⟩ := Option.bind_eq_some_iff.mp h
    refine q_callSi (as := [qi q2155.1]) dX12_letters_29 ml_X12_123 rfl rfl (Nat.le_of_ble_eq_true rfl) (M_isLetter_ok hL d q2155.1 _ _ h2158) rfl ?_
    obtain ⟨c2159, h⟩ := qk_some h
    refine q_if_eq (tgt := 84) dX12_letters_32 (by decide) rfl (qRb_R c2159)  (fun g => ?_) (fun g => ?_)
    · rw [if_pos (show q2157.1 = 0 from g)] at h
      cases h
      exact q_pick [0, 1, 2] rfl (hE)
    · rw [if_neg (show ¬ (q2157.1 = 0) from g)] at h
      refine q_iload_n dX12_letters_35 rfl rfl ?_
      refine q_bipush dX12_letters_36 (by decide) rfl ?_
      refine q_jn (G := fun (t2164 : qSto) => qW X (d + 2) yX12_letters cX12_letters 3 none 67 [(0, qr 70), (1, qi x1), (2, qi x2)] [] t2164 Q) h (fun t2164 h => ?_) (fun t2164 h hk4177 => ?_)
      · try dsimp only at h
        refine q_iload_n dX12_letters_67 rfl rfl ?_
        refine q_iconst dX12_letters_68 rfl rfl ?_
        refine q_iadd dX12_letters_69 rfl ?_
        refine q_istore_n (lv' := [(2, qi (x2 + 1)), (0, qr 70), (1, qi x1)]) dX12_letters_70 (by decide) rfl rfl ?_
        refine q_aload_n dX12_letters_71 rfl rfl ?_
        refine q_aload_n dX12_letters_72 rfl rfl ?_
        refine q_getI dX12_letters_73 fl_X12_110 (hL 70 (by decide)) sh_70 (by decide) rfl rfl ?_
        refine q_iconst dX12_letters_76 rfl rfl ?_
        refine q_iadd dX12_letters_77 rfl ?_
        refine q_putI dX12_letters_78 fl_X12_110 (hL 70 (by decide)) sh_70 (by decide) pf_12_7 pt_12_7 rfl rfl ?_
        refine q_goto (pc' := 21) dX12_letters_81 (by decide) ?_
        exact q_pick [1, 2, 0] rfl (ih x1 (x2 + 1) _ _ h hE)
      · skip
        obtain ⟨c2160, h⟩ := qk_some h
        refine q_icmp_ge (tgt := 67) dX12_letters_38 (by decide) rfl (qRb_R c2160) ⟨by decide, by decide⟩ (fun g => ?_) (fun g => ?_)
        · rw [if_pos (show 8 ≤ x2 from g)] at h
          cases h
          exact q_pick [0, 1, 2] rfl hk4177
        · rw [if_neg (show ¬ (8 ≤ x2) from g)] at h
          refine q_aload_n dX12_letters_41 rfl rfl ?_
          refine q_ldc2 (v := 32) dX12_letters_42 qw_1513 rfl ?_
          refine q_aload_n dX12_letters_45 rfl rfl ?_
          refine q_getL dX12_letters_46 fl_X12_136 (hL 70 (by decide)) sh_70 (by decide) rfl rfl ?_
          refine q_lmul dX12_letters_49 rfl ?_
          refine q_aload_n dX12_letters_50 rfl rfl ?_
          refine q_aload_n dX12_letters_51 rfl rfl ?_
          refine q_getI dX12_letters_52 fl_X12_110 (hL 70 (by decide)) sh_70 (by decide) rfl rfl ?_
          obtain ⟨q2161, h2162, h⟩ := Option.bind_eq_some_iff.mp h
          refine q_callVi (as := [qi (q2157.2 70 7)]) (c := 70) dX12_letters_55 ml_X12_113 rfl rfl (hL 70 (by decide)) sh_70 rfl rfl (Nat.le_of_ble_eq_true rfl) (M_byteAt_ok hL (d + 1) (q2157.2 70 7) _ _ h2162) rfl ?_
          obtain ⟨c2163, h⟩ := qk_some h
          refine q_i2l dX12_letters_58 (qRb_R c2163) rfl ?_
          refine q_ladd dX12_letters_59 rfl ?_
          refine q_ldc2 (v := 96) dX12_letters_60 qw_1514 rfl ?_
          refine q_lsub dX12_letters_63 rfl ?_
          refine q_putL dX12_letters_64 fl_X12_136 (hL 70 (by decide)) sh_70 (by decide) pf_12_17 pt_12_17 rfl rfl ?_
          cases h
          exact q_pick [0, 1, 2] rfl hk4177
set_option maxRecDepth 20000 in
theorem M_letters_ok {X : qX} (hL : ∀ c, c < 93 → c ∈ qLs X) (d : Nat) (S : qSto) (o : qSto) (h : M_letters S = some o) (Q : Option qV → qSto → Prop) (hQ : Q none o) : qC X (d + 2) yX12_letters cX12_letters 3 none [qr 70] S Q := by
  refine q_entry (lv := [(0, qr 70)]) pn_X12 (Nat.le_of_ble_eq_true rfl) rfl ?_
  unfold M_letters at h
  refine q_aload_n dX12_letters_0 rfl rfl ?_
  refine q_aload_n dX12_letters_1 rfl rfl ?_
  refine q_getI dX12_letters_2 fl_X12_110 (hL 70 (by decide)) sh_70 (by decide) rfl rfl ?_
  refine q_iconst dX12_letters_5 rfl rfl ?_
  refine q_isub dX12_letters_6 rfl ?_
  obtain ⟨q2151, h2152, h⟩ := Option.bind_eq_some_iff.mp h
  refine q_callVi (as := [qi ((S 70 7) - 1)]) (c := 70) dX12_letters_7 ml_X12_113 rfl rfl (hL 70 (by decide)) sh_70 rfl rfl (Nat.le_of_ble_eq_true rfl) (M_byteAt_ok hL (d + 1) ((S 70 7) - 1) _ _ h2152) rfl ?_
  obtain ⟨q2153, h2154, h⟩ := Option.bind_eq_some_iff.mp h
  refine q_callSi (as := [qi q2151.1]) dX12_letters_10 ml_X12_130 rfl rfl (Nat.le_of_ble_eq_true rfl) (M_isDigit_ok hL d q2151.1 _ _ h2154) rfl ?_
  refine q_istore_n (lv' := [(1, qi q2153.1), (0, qr 70)]) dX12_letters_13 (by decide) rfl rfl ?_
  refine q_iconst dX12_letters_14 rfl rfl ?_
  refine q_istore_n (lv' := [(2, qi 0), (1, qi q2153.1), (0, qr 70)]) dX12_letters_15 (by decide) rfl rfl ?_
  refine q_aload_n dX12_letters_16 rfl rfl ?_
  refine q_lconst (v := 0) dX12_letters_17 rfl rfl ?_
  refine q_putL dX12_letters_18 fl_X12_136 (hL 70 (by decide)) sh_70 (by decide) pf_12_17 pt_12_17 rfl rfl ?_
  obtain ⟨q2165, h2166, h⟩ := Option.bind_eq_some_iff.mp h
  refine q_pick [2, 1, 0] rfl (M_letters_L21_ok hL d qF q2153.1 0 _ _ h2166 ?_)
  refine q_aload_n dX12_letters_84 rfl rfl ?_
  refine q_iload_n dX12_letters_85 rfl rfl ?_
  obtain ⟨c2167, h⟩ := qk_some h
  refine q_if_ne (tgt := 95) dX12_letters_86 (by decide) rfl (qRb_R c2167)  (fun g => ?_) (fun g => ?_)
  · rw [if_neg (show ¬ (q2153.1 = 0) from g)] at h
    refine q_iconst dX12_letters_95 rfl rfl ?_
    refine q_goto (pc' := 100) dX12_letters_96 (by decide) ?_
    refine q_putI dX12_letters_100 fl_X12_120 (hL 70 (by decide)) sh_70 (by decide) pf_12_9 pt_12_9 rfl rfl ?_
    cases h
    exact q_return dX12_letters_103 rfl hQ
  · rw [if_pos (show q2153.1 = 0 from g)] at h
    refine q_iload_n dX12_letters_89 rfl rfl ?_
    refine q_bipush dX12_letters_90 (by decide) rfl ?_
    obtain ⟨c2168, h⟩ := qk_some h
    refine q_icmp_le (tgt := 99) dX12_letters_92 (by decide) rfl (qRb_R c2168) ⟨by decide, by decide⟩ (fun g => ?_) (fun g => ?_)
    · rw [if_pos (show q2165.1 ≤ 8 from g)] at h
      refine q_iconst dX12_letters_99 rfl rfl ?_
      refine q_putI dX12_letters_100 fl_X12_120 (hL 70 (by decide)) sh_70 (by decide) pf_12_9 pt_12_9 rfl rfl ?_
      cases h
      exact q_return dX12_letters_103 rfl hQ
    · rw [if_neg (show ¬ (q2165.1 ≤ 8) from g)] at h
      refine q_iconst dX12_letters_95 rfl rfl ?_
      refine q_goto (pc' := 100) dX12_letters_96 (by decide) ?_
      refine q_putI dX12_letters_100 fl_X12_120 (hL 70 (by decide)) sh_70 (by decide) pf_12_9 pt_12_9 rfl rfl ?_
      cases h
      exact q_return dX12_letters_103 rfl hQ
set_option maxRecDepth 20000 in
theorem M_goOn_L0_ok {X : qX} (hL : ∀ c, c < 93 → c ∈ qLs X) (d : Nat) {Q : Option qV → qSto → Prop} : ∀ (n : Nat) (S : qSto) (o : qSto), M_goOn_L0 n S = some o → (qW X (d + 3) yX12_goOn cX12_goOn 2 none 39 [(0, qr 70)] [] o Q) → qW X (d + 3) yX12_goOn cX12_goOn 2 none 0 [(0, qr 70)] [] S Q := by
  intro n
  induction n with
  | zero =>
    intro S o h
    simp [M_goOn_L0] at h
  | succ n ih =>
    intro S o h hE
    rw [M_goOn_L0] at h
    refine q_aload_n dX12_goOn_0 rfl rfl ?_
    refine q_aload_n dX12_goOn_1 rfl rfl ?_
    refine q_getI dX12_goOn_2 fl_X12_110 (hL 70 (by decide)) sh_70 (by decide) rfl rfl ?_
    obtain ⟨q2102, h2103, h⟩ := Option.bind_eq_some_iff.mp h
    refine q_callVi (as := [qi (S 70 7)]) (c := 70) dX12_goOn_5 ml_X12_113 rfl rfl (hL 70 (by decide)) sh_70 rfl rfl (Nat.le_of_ble_eq_true rfl) (M_byteAt_ok hL (d + 2) (S 70 7) _ _ h2103) rfl ?_
    refine q_bipush dX12_goOn_8 (by decide) rfl ?_
    obtain ⟨c2104, h⟩ := qk_some h
    refine q_icmp_eq (tgt := 26) dX12_goOn_10 (by decide) rfl (qRb_R c2104) ⟨by decide, by decide⟩ (fun g => ?_) (fun g => ?_)
    · rw [if_pos (show q2102.1 = 32 from g)] at h
      refine q_aload_n dX12_goOn_26 rfl rfl ?_
      refine q_aload_n dX12_goOn_27 rfl rfl ?_
      refine q_getI dX12_goOn_28 fl_X12_110 (hL 70 (by decide)) sh_70 (by decide) rfl rfl ?_
      refine q_iconst dX12_goOn_31 rfl rfl ?_
      refine q_iadd dX12_goOn_32 rfl ?_
      refine q_putI dX12_goOn_33 fl_X12_110 (hL 70 (by decide)) sh_70 (by decide) pf_12_7 pt_12_7 rfl rfl ?_
      refine q_goto (pc' := 0) dX12_goOn_36 (by decide) ?_
      exact q_pick [0] rfl (ih _ _ h hE)
    · rw [if_neg (show ¬ (q2102.1 = 32) from g)] at h
      refine q_aload_n dX12_goOn_13 rfl rfl ?_
      refine q_aload_n dX12_goOn_14 rfl rfl ?_
      refine q_getI dX12_goOn_15 fl_X12_110 (hL 70 (by decide)) sh_70 (by decide) rfl rfl ?_
      obtain ⟨q2105, h2106, h⟩ := Option.bind_eq_some_iff.mp h
      refine q_callVi (as := [qi (q2102.2 70 7)]) (c := 70) dX12_goOn_18 ml_X12_113 rfl rfl (hL 70 (by decide)) sh_70 rfl rfl (Nat.le_of_ble_eq_true rfl) (M_byteAt_ok hL (d + 2) (q2102.2 70 7) _ _ h2106) rfl ?_
      refine q_bipush dX12_goOn_21 (by decide) rfl ?_
      obtain ⟨c2107, h⟩ := qk_some h
      refine q_icmp_ne (tgt := 39) dX12_goOn_23 (by decide) rfl (qRb_R c2107) ⟨by decide, by decide⟩ (fun g => ?_) (fun g => ?_)
      · rw [if_neg (show ¬ (q2105.1 = 10) from g)] at h
        cases h
        exact q_pick [0] rfl (hE)
      · rw [if_pos (show q2105.1 = 10 from g)] at h
        refine q_aload_n dX12_goOn_26 rfl rfl ?_
        refine q_aload_n dX12_goOn_27 rfl rfl ?_
        refine q_getI dX12_goOn_28 fl_X12_110 (hL 70 (by decide)) sh_70 (by decide) rfl rfl ?_
        refine q_iconst dX12_goOn_31 rfl rfl ?_
        refine q_iadd dX12_goOn_32 rfl ?_
        refine q_putI dX12_goOn_33 fl_X12_110 (hL 70 (by decide)) sh_70 (by decide) pf_12_7 pt_12_7 rfl rfl ?_
        refine q_goto (pc' := 0) dX12_goOn_36 (by decide) ?_
        exact q_pick [0] rfl (ih _ _ h hE)
set_option maxRecDepth 20000 in
theorem M_goOn_ok {X : qX} (hL : ∀ c, c < 93 → c ∈ qLs X) (d : Nat) (S : qSto) (o : qSto) (h : M_goOn S = some o) (Q : Option qV → qSto → Prop) (hQ : Q none o) : qC X (d + 3) yX12_goOn cX12_goOn 2 none [qr 70] S Q := by
  refine q_entry (lv := [(0, qr 70)]) pn_X12 (Nat.le_of_ble_eq_true rfl) rfl ?_
  unfold M_goOn at h
  obtain ⟨q2108, h2109, h⟩ := Option.bind_eq_some_iff.mp h
  refine q_pick [0] rfl (M_goOn_L0_ok hL d qF _ _ h2109 ?_)
  refine q_aload_n dX12_goOn_39 rfl rfl ?_
  refine q_aload_n dX12_goOn_40 rfl rfl ?_
  refine q_getI dX12_goOn_41 fl_X12_110 (hL 70 (by decide)) sh_70 (by decide) rfl rfl ?_
  refine q_putI dX12_goOn_44 fl_X12_117 (hL 70 (by decide)) sh_70 (by decide) pf_12_8 pt_12_8 rfl rfl ?_
  refine q_aload_n dX12_goOn_47 rfl rfl ?_
  refine q_aload_n dX12_goOn_48 rfl rfl ?_
  refine q_getI dX12_goOn_49 fl_X12_110 (hL 70 (by decide)) sh_70 (by decide) rfl rfl ?_
  obtain ⟨q2110, h2111, h⟩ := Option.bind_eq_some_iff.mp h
  refine q_callVi (as := [qi ((qup q2108 70 8 (q2108 70 7)) 70 7)]) (c := 70) dX12_goOn_52 ml_X12_113 rfl rfl (hL 70 (by decide)) sh_70 rfl rfl (Nat.le_of_ble_eq_true rfl) (M_byteAt_ok hL (d + 2) ((qup q2108 70 8 (q2108 70 7)) 70 7) _ _ h2111) rfl ?_
  refine q_istore_n (lv' := [(1, qi q2110.1), (0, qr 70)]) dX12_goOn_55 (by decide) rfl rfl ?_
  refine q_iload_n dX12_goOn_56 rfl rfl ?_
  refine q_iconst dX12_goOn_57 rfl rfl ?_
  obtain ⟨c2112, h⟩ := qk_some h
  refine q_icmp_ne (tgt := 69) dX12_goOn_58 (by decide) rfl (qRb_R c2112) ⟨by decide, by decide⟩ (fun g => ?_) (fun g => ?_)
  · rw [if_neg (show ¬ (q2110.1 = (-1)) from g)] at h
    refine q_iload_n dX12_goOn_69 rfl rfl ?_
    obtain ⟨q2121, h2122, h⟩ := Option.bind_eq_some_iff.mp h
    refine q_callSi (as := [qi q2110.1]) dX12_goOn_70 ml_X12_123 rfl rfl (Nat.le_of_ble_eq_true rfl) (M_isLetter_ok hL (d + 1) q2110.1 _ _ h2122) rfl ?_
    obtain ⟨c2123, h⟩ := qk_some h
    refine q_if_eq (tgt := 83) dX12_goOn_73 (by decide) rfl (qRb_R c2123)  (fun g => ?_) (fun g => ?_)
    · rw [if_pos (show q2121.1 = 0 from g)] at h
      refine q_iload_n dX12_goOn_83 rfl rfl ?_
      obtain ⟨q2128, h2129, h⟩ := Option.bind_eq_some_iff.mp h
      refine q_callSi (as := [qi q2110.1]) dX12_goOn_84 ml_X12_130 rfl rfl (Nat.le_of_ble_eq_true rfl) (M_isDigit_ok hL (d + 1) q2110.1 _ _ h2129) rfl ?_
      obtain ⟨c2130, h⟩ := qk_some h
      refine q_if_eq (tgt := 97) dX12_goOn_87 (by decide) rfl (qRb_R c2130)  (fun g => ?_) (fun g => ?_)
      · rw [if_pos (show q2128.1 = 0 from g)] at h
        refine q_aload_n dX12_goOn_97 rfl rfl ?_
        refine q_aload_n dX12_goOn_98 rfl rfl ?_
        refine q_getI dX12_goOn_99 fl_X12_110 (hL 70 (by decide)) sh_70 (by decide) rfl rfl ?_
        refine q_iconst dX12_goOn_102 rfl rfl ?_
        refine q_iadd dX12_goOn_103 rfl ?_
        refine q_putI dX12_goOn_104 fl_X12_110 (hL 70 (by decide)) sh_70 (by decide) pf_12_7 pt_12_7 rfl rfl ?_
        refine q_aload_n dX12_goOn_107 rfl rfl ?_
        refine q_iload_n dX12_goOn_108 rfl rfl ?_
        refine q_bipush dX12_goOn_109 (by decide) rfl ?_
        obtain ⟨c2131, h⟩ := qk_some h
        refine q_icmp_ne (tgt := 118) dX12_goOn_111 (by decide) rfl (qRb_R c2131) ⟨by decide, by decide⟩ (fun g => ?_) (fun g => ?_)
        · rw [if_neg (show ¬ (q2110.1 = 59) from g)] at h
          refine q_iconst dX12_goOn_118 rfl rfl ?_
          refine q_putI dX12_goOn_119 fl_X12_120 (hL 70 (by decide)) sh_70 (by decide) pf_12_9 pt_12_9 rfl rfl ?_
          cases h
          exact q_return dX12_goOn_122 rfl hQ
        · rw [if_pos (show q2110.1 = 59 from g)] at h
          refine q_iconst dX12_goOn_114 rfl rfl ?_
          refine q_goto (pc' := 119) dX12_goOn_115 (by decide) ?_
          refine q_putI dX12_goOn_119 fl_X12_120 (hL 70 (by decide)) sh_70 (by decide) pf_12_9 pt_12_9 rfl rfl ?_
          cases h
          exact q_return dX12_goOn_122 rfl hQ
      · rw [if_neg (show ¬ (q2128.1 = 0) from g)] at h
        refine q_aload_n dX12_goOn_90 rfl rfl ?_
        obtain ⟨q2149, h2150, h⟩ := Option.bind_eq_some_iff.mp h
        refine q_callVv (as := []) (c := 70) dX12_goOn_91 ml_X12_133 rfl rfl (hL 70 (by decide)) sh_70 rfl rfl (Nat.le_of_ble_eq_true rfl) (M_digits_ok hL d _ _ h2150) rfl ?_
        refine q_goto (pc' := 122) dX12_goOn_94 (by decide) ?_
        cases h
        exact q_return dX12_goOn_122 rfl hQ
    · rw [if_neg (show ¬ (q2121.1 = 0) from g)] at h
      refine q_aload_n dX12_goOn_76 rfl rfl ?_
      obtain ⟨q2169, h2170, h⟩ := Option.bind_eq_some_iff.mp h
      refine q_callVv (as := []) (c := 70) dX12_goOn_77 ml_X12_127 rfl rfl (hL 70 (by decide)) sh_70 rfl rfl (Nat.le_of_ble_eq_true rfl) (M_letters_ok hL d _ _ h2170) rfl ?_
      refine q_goto (pc' := 122) dX12_goOn_80 (by decide) ?_
      cases h
      exact q_return dX12_goOn_122 rfl hQ
  · rw [if_pos (show q2110.1 = (-1) from g)] at h
    refine q_aload_n dX12_goOn_61 rfl rfl ?_
    refine q_iconst dX12_goOn_62 rfl rfl ?_
    refine q_putI dX12_goOn_63 fl_X12_120 (hL 70 (by decide)) sh_70 (by decide) pf_12_9 pt_12_9 rfl rfl ?_
    refine q_goto (pc' := 122) dX12_goOn_66 (by decide) ?_
    cases h
    exact q_return dX12_goOn_122 rfl hQ
set_option maxRecDepth 20000 in
theorem M_key_ok {X : qX} (hL : ∀ c, c < 93 → c ∈ qLs X) (d : Nat) (S : qSto) (o : (Int × qSto)) (h : M_key S = some o) (Q : Option qV → qSto → Prop) (hQ : Q (some (qi o.1)) o.2) : qC X d yX12_key cX12_key 1 (some .int) [qr 70] S Q := by
  refine q_entry (lv := [(0, qr 70)]) pn_X12 (Nat.le_of_ble_eq_true rfl) rfl ?_
  unfold M_key at h
  refine q_aload_n dX12_key_0 rfl rfl ?_
  refine q_getI dX12_key_1 fl_X12_120 (hL 70 (by decide)) sh_70 (by decide) rfl rfl ?_
  refine q_iconst dX12_key_4 rfl rfl ?_
  obtain ⟨c2175, h⟩ := qk_some h
  refine q_icmp_eq (tgt := 10) dX12_key_5 (by decide) rfl (qRb_R c2175) ⟨by decide, by decide⟩ (fun g => ?_) (fun g => ?_)
  · rw [if_pos (show (S 70 9) = 1 from g)] at h
    refine q_aload_n dX12_key_10 rfl rfl ?_
    refine q_getL dX12_key_11 fl_X12_136 (hL 70 (by decide)) sh_70 (by decide) rfl rfl ?_
    refine q_ldc2 (v := 578617) dX12_key_14 qw_1527 rfl ?_
    obtain ⟨c2176, h⟩ := qk_some h
    refine q_lcmp dX12_key_17 (qRLb_R c2176) ⟨by decide, by decide⟩ rfl ?_
    refine q_if_ne (tgt := 23) dX12_key_18 (by decide) rfl (q3_R _ _)  (fun g => ?_) (fun g => ?_)
    · rw [if_neg (show ¬ ((S 70 17) = 578617) from fun e => g ((q3_eq _ _).mpr e))] at h
      refine q_aload_n dX12_key_23 rfl rfl ?_
      refine q_getL dX12_key_24 fl_X12_136 (hL 70 (by decide)) sh_70 (by decide) rfl rfl ?_
      refine q_ldc2 (v := 7216) dX12_key_27 qw_1528 rfl ?_
      obtain ⟨c2177, h⟩ := qk_some h
      refine q_lcmp dX12_key_30 (qRLb_R c2177) ⟨by decide, by decide⟩ rfl ?_
      refine q_if_ne (tgt := 36) dX12_key_31 (by decide) rfl (q3_R _ _)  (fun g => ?_) (fun g => ?_)
      · rw [if_neg (show ¬ ((S 70 17) = 7216) from fun e => g ((q3_eq _ _).mpr e))] at h
        refine q_aload_n dX12_key_36 rfl rfl ?_
        refine q_getL dX12_key_37 fl_X12_136 (hL 70 (by decide)) sh_70 (by decide) rfl rfl ?_
        refine q_ldc2 (v := 365740) dX12_key_40 qw_1529 rfl ?_
        obtain ⟨c2178, h⟩ := qk_some h
        refine q_lcmp dX12_key_43 (qRLb_R c2178) ⟨by decide, by decide⟩ rfl ?_
        refine q_if_ne (tgt := 49) dX12_key_44 (by decide) rfl (q3_R _ _)  (fun g => ?_) (fun g => ?_)
        · rw [if_neg (show ¬ ((S 70 17) = 365740) from fun e => g ((q3_eq _ _).mpr e))] at h
          refine q_aload_n dX12_key_49 rfl rfl ?_
          refine q_getL dX12_key_50 fl_X12_136 (hL 70 (by decide)) sh_70 (by decide) rfl rfl ?_
          refine q_ldc2 (v := 3491182764) dX12_key_53 qw_1530 rfl ?_
          obtain ⟨c2179, h⟩ := qk_some h
          refine q_lcmp dX12_key_56 (qRLb_R c2179) ⟨by decide, by decide⟩ rfl ?_
          refine q_if_ne (tgt := 62) dX12_key_57 (by decide) rfl (q3_R _ _)  (fun g => ?_) (fun g => ?_)
          · rw [if_neg (show ¬ ((S 70 17) = 3491182764) from fun e => g ((q3_eq _ _).mpr e))] at h
            refine q_aload_n dX12_key_62 rfl rfl ?_
            refine q_getL dX12_key_63 fl_X12_136 (hL 70 (by decide)) sh_70 (by decide) rfl rfl ?_
            refine q_ldc2 (v := 591493) dX12_key_66 qw_1531 rfl ?_
            obtain ⟨c2180, h⟩ := qk_some h
            refine q_lcmp dX12_key_69 (qRLb_R c2180) ⟨by decide, by decide⟩ rfl ?_
            refine q_if_ne (tgt := 75) dX12_key_70 (by decide) rfl (q3_R _ _)  (fun g => ?_) (fun g => ?_)
            · rw [if_neg (show ¬ ((S 70 17) = 591493) from fun e => g ((q3_eq _ _).mpr e))] at h
              refine q_aload_n dX12_key_75 rfl rfl ?_
              refine q_getL dX12_key_76 fl_X12_136 (hL 70 (by decide)) sh_70 (by decide) rfl rfl ?_
              refine q_ldc2 (v := 409203) dX12_key_79 qw_1532 rfl ?_
              obtain ⟨c2181, h⟩ := qk_some h
              refine q_lcmp dX12_key_82 (qRLb_R c2181) ⟨by decide, by decide⟩ rfl ?_
              refine q_if_ne (tgt := 88) dX12_key_83 (by decide) rfl (q3_R _ _)  (fun g => ?_) (fun g => ?_)
              · rw [if_neg (show ¬ ((S 70 17) = 409203) from fun e => g ((q3_eq _ _).mpr e))] at h
                refine q_aload_n dX12_key_88 rfl rfl ?_
                refine q_getL dX12_key_89 fl_X12_136 (hL 70 (by decide)) sh_70 (by decide) rfl rfl ?_
                refine q_ldc2 (v := 20572677614) dX12_key_92 qw_1533 rfl ?_
                obtain ⟨c2182, h⟩ := qk_some h
                refine q_lcmp dX12_key_95 (qRLb_R c2182) ⟨by decide, by decide⟩ rfl ?_
                refine q_if_ne (tgt := 102) dX12_key_96 (by decide) rfl (q3_R _ _)  (fun g => ?_) (fun g => ?_)
                · rw [if_neg (show ¬ ((S 70 17) = 20572677614) from fun e => g ((q3_eq _ _).mpr e))] at h
                  refine q_aload_n dX12_key_102 rfl rfl ?_
                  refine q_getL dX12_key_103 fl_X12_136 (hL 70 (by decide)) sh_70 (by decide) rfl rfl ?_
                  refine q_ldc2 (v := 3737029) dX12_key_106 qw_1534 rfl ?_
                  obtain ⟨c2183, h⟩ := qk_some h
                  refine q_lcmp dX12_key_109 (qRLb_R c2183) ⟨by decide, by decide⟩ rfl ?_
                  refine q_if_ne (tgt := 116) dX12_key_110 (by decide) rfl (q3_R _ _)  (fun g => ?_) (fun g => ?_)
                  · rw [if_neg (show ¬ ((S 70 17) = 3737029) from fun e => g ((q3_eq _ _).mpr e))] at h
                    refine q_aload_n dX12_key_116 rfl rfl ?_
                    refine q_getL dX12_key_117 fl_X12_136 (hL 70 (by decide)) sh_70 (by decide) rfl rfl ?_
                    refine q_ldc2 (v := 664709) dX12_key_120 qw_1535 rfl ?_
                    obtain ⟨c2184, h⟩ := qk_some h
                    refine q_lcmp dX12_key_123 (qRLb_R c2184) ⟨by decide, by decide⟩ rfl ?_
                    refine q_if_ne (tgt := 130) dX12_key_124 (by decide) rfl (q3_R _ _)  (fun g => ?_) (fun g => ?_)
                    · rw [if_neg (show ¬ ((S 70 17) = 664709) from fun e => g ((q3_eq _ _).mpr e))] at h
                      refine q_aload_n dX12_key_130 rfl rfl ?_
                      refine q_getL dX12_key_131 fl_X12_136 (hL 70 (by decide)) sh_70 (by decide) rfl rfl ?_
                      refine q_ldc2 (v := 7387379) dX12_key_134 qw_1536 rfl ?_
                      obtain ⟨c2185, h⟩ := qk_some h
                      refine q_lcmp dX12_key_137 (qRLb_R c2185) ⟨by decide, by decide⟩ rfl ?_
                      refine q_if_ne (tgt := 144) dX12_key_138 (by decide) rfl (q3_R _ _)  (fun g => ?_) (fun g => ?_)
                      · rw [if_neg (show ¬ ((S 70 17) = 7387379) from fun e => g ((q3_eq _ _).mpr e))] at h
                        refine q_aload_n dX12_key_144 rfl rfl ?_
                        refine q_getL dX12_key_145 fl_X12_136 (hL 70 (by decide)) sh_70 (by decide) rfl rfl ?_
                        refine q_ldc2 (v := 631088) dX12_key_148 qw_1537 rfl ?_
                        obtain ⟨c2186, h⟩ := qk_some h
                        refine q_lcmp dX12_key_151 (qRLb_R c2186) ⟨by decide, by decide⟩ rfl ?_
                        refine q_if_ne (tgt := 160) dX12_key_152 (by decide) rfl (q3_R _ _)  (fun g => ?_) (fun g => ?_)
                        · rw [if_neg (show ¬ ((S 70 17) = 631088) from fun e => g ((q3_eq _ _).mpr e))] at h
                          refine q_iconst dX12_key_160 rfl rfl ?_
                          cases h
                          exact q_ireturn dX12_key_161 rfl hQ
                        · rw [if_pos (show (S 70 17) = 631088 from (q3_eq _ _).mp g)] at h
                          refine q_bipush dX12_key_155 (by decide) rfl ?_
                          refine q_goto (pc' := 161) dX12_key_157 (by decide) ?_
                          cases h
                          exact q_ireturn dX12_key_161 rfl hQ
                      · rw [if_pos (show (S 70 17) = 7387379 from (q3_eq _ _).mp g)] at h
                        refine q_bipush dX12_key_141 (by decide) rfl ?_
                        cases h
                        exact q_ireturn dX12_key_143 rfl hQ
                    · rw [if_pos (show (S 70 17) = 664709 from (q3_eq _ _).mp g)] at h
                      refine q_bipush dX12_key_127 (by decide) rfl ?_
                      cases h
                      exact q_ireturn dX12_key_129 rfl hQ
                  · rw [if_pos (show (S 70 17) = 3737029 from (q3_eq _ _).mp g)] at h
                    refine q_bipush dX12_key_113 (by decide) rfl ?_
                    cases h
                    exact q_ireturn dX12_key_115 rfl hQ
                · rw [if_pos (show (S 70 17) = 20572677614 from (q3_eq _ _).mp g)] at h
                  refine q_bipush dX12_key_99 (by decide) rfl ?_
                  cases h
                  exact q_ireturn dX12_key_101 rfl hQ
              · rw [if_pos (show (S 70 17) = 409203 from (q3_eq _ _).mp g)] at h
                refine q_iconst dX12_key_86 rfl rfl ?_
                cases h
                exact q_ireturn dX12_key_87 rfl hQ
            · rw [if_pos (show (S 70 17) = 591493 from (q3_eq _ _).mp g)] at h
              refine q_iconst dX12_key_73 rfl rfl ?_
              cases h
              exact q_ireturn dX12_key_74 rfl hQ
          · rw [if_pos (show (S 70 17) = 3491182764 from (q3_eq _ _).mp g)] at h
            refine q_iconst dX12_key_60 rfl rfl ?_
            cases h
            exact q_ireturn dX12_key_61 rfl hQ
        · rw [if_pos (show (S 70 17) = 365740 from (q3_eq _ _).mp g)] at h
          refine q_iconst dX12_key_47 rfl rfl ?_
          cases h
          exact q_ireturn dX12_key_48 rfl hQ
      · rw [if_pos (show (S 70 17) = 7216 from (q3_eq _ _).mp g)] at h
        refine q_iconst dX12_key_34 rfl rfl ?_
        cases h
        exact q_ireturn dX12_key_35 rfl hQ
    · rw [if_pos (show (S 70 17) = 578617 from (q3_eq _ _).mp g)] at h
      refine q_iconst dX12_key_21 rfl rfl ?_
      cases h
      exact q_ireturn dX12_key_22 rfl hQ
  · rw [if_neg (show ¬ ((S 70 9) = 1) from g)] at h
    refine q_iconst dX12_key_8 rfl rfl ?_
    cases h
    exact q_ireturn dX12_key_9 rfl hQ
set_option maxRecDepth 20000 in
theorem M_fail_ok {X : qX} (hL : ∀ c, c < 93 → c ∈ qLs X) (d : Nat) (a1 : Int) (a2 : Int) (S : qSto) (o : qSto) (h : M_fail a1 a2 S = some o) (Q : Option qV → qSto → Prop) (hQ : Q none o) : qC X d yX12_fail cX12_fail 3 none [qr 70, qi a1, qi a2] S Q := by
  refine q_entry (lv := [(0, qr 70), (1, qi a1), (2, qi a2)]) pn_X12 (Nat.le_of_ble_eq_true rfl) rfl ?_
  unfold M_fail at h
  refine q_aload_n dX12_fail_0 rfl rfl ?_
  refine q_getI dX12_fail_1 fl_X12_147 (hL 70 (by decide)) sh_70 (by decide) rfl rfl ?_
  obtain ⟨c2198, h⟩ := qk_some h
  refine q_if_le (tgt := 8) dX12_fail_4 (by decide) rfl (qRb_R c2198)  (fun g => ?_) (fun g => ?_)
  · rw [if_pos (show (S 70 11) ≤ 0 from g)] at h
    refine q_aload_n dX12_fail_8 rfl rfl ?_
    refine q_iload_n dX12_fail_9 rfl rfl ?_
    refine q_putI dX12_fail_10 fl_X12_147 (hL 70 (by decide)) sh_70 (by decide) pf_12_11 pt_12_11 rfl rfl ?_
    refine q_aload_n dX12_fail_13 rfl rfl ?_
    refine q_iload_n dX12_fail_14 rfl rfl ?_
    refine q_putI dX12_fail_15 fl_X12_150 (hL 70 (by decide)) sh_70 (by decide) pf_12_12 pt_12_12 rfl rfl ?_
    cases h
    exact q_return dX12_fail_18 rfl hQ
  · rw [if_neg (show ¬ ((S 70 11) ≤ 0) from g)] at h
    cases h
    exact q_return dX12_fail_7 rfl hQ
