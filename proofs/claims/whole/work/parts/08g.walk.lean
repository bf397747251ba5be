set_option maxRecDepth 20000 in
theorem M_shipLine_L35_ok {X : qX} (hL : ∀ c, c < 93 → c ∈ qLs X) (d : Nat) {Q : Option qV → qSto → Prop} : ∀ (n : Nat) (x1 : Int) (x2 : Int) (x3 : Int) (S : qSto) (o : qSto), M_shipLine_L35 n x2 x3 S = some o → (qW X (d + 5) yX12_shipLine cX12_shipLine 4 none 67 [(0, qr 70), (1, qi x1), (2, qi x2)] [] o Q) → qW X (d + 5) yX12_shipLine cX12_shipLine 4 none 35 [(0, qr 70), (1, qi x1), (2, qi x2), (3, qi x3)] [] S Q := by
  intro n
  induction n with
  | zero =>
    intro x1 x2 x3 S o h
    simp [M_shipLine_L35] at h
  | succ n ih =>
    intro x1 x2 x3 S o h hE
    rw [M_shipLine_L35] at h
    refine q_iload_n dX12_shipLine_35 rfl rfl ?_
    refine q_bipush dX12_shipLine_36 (by decide) rfl ?_
    obtain ⟨c1926, h⟩ := qk_some h
    refine q_icmp_ge (tgt := 67) dX12_shipLine_38 (by decide) rfl (qRb_R c1926) ⟨by decide, by decide⟩ (fun g => ?_) (fun g => ?_)
    · rw [if_pos (show 9 ≤ x3 from g)] at h
      cases h
      exact q_pick [0, 1, 2] rfl (hE)
    · rw [if_neg (show ¬ (9 ≤ x3) from g)] at h
      refine q_aload_n dX12_shipLine_41 rfl rfl ?_
      refine q_getA dX12_shipLine_42 fl_X12_7 (hL 70 (by decide)) sh_70 (by decide) rfl rfl ?_
      refine q_iload_n dX12_shipLine_45 rfl rfl ?_
      refine q_iload_n dX12_shipLine_46 rfl rfl ?_
      refine q_iadd dX12_shipLine_47 rfl ?_
      refine q_aload_n dX12_shipLine_48 rfl rfl ?_
      refine q_iload_n dX12_shipLine_49 rfl rfl ?_
      obtain ⟨q1929, h1930, h⟩ := Option.bind_eq_some_iff.mp h
      refine q_callSi (as := [qi x3]) dX12_shipLine_50 ml_X12_216 rfl rfl (Nat.le_of_ble_eq_true rfl) (M_shipLow_ok hL (d + 4) x3 _ _ h1930) rfl ?_
      refine q_iload_n dX12_shipLine_53 rfl rfl ?_
      obtain ⟨q1932, h1933, h⟩ := Option.bind_eq_some_iff.mp h
      refine q_callSi (as := [qi x3]) dX12_shipLine_54 ml_X12_219 rfl rfl (Nat.le_of_ble_eq_true rfl) (M_shipHigh_ok hL (d + 4) x3 _ _ h1933) rfl ?_
      obtain ⟨q1950, h1951, h⟩ := Option.bind_eq_some_iff.mp h
      refine q_callVi (as := [qi q1929.1, qi q1932.1]) (c := 70) dX12_shipLine_57 ml_X12_198 rfl rfl (hL 70 (by decide)) sh_70 rfl rfl (Nat.le_of_ble_eq_true rfl) (M_number_ok hL d q1929.1 q1932.1 _ _ h1951) rfl ?_
      obtain ⟨c1952, h⟩ := qk_some h
      refine q_iastore dX12_shipLine_60 (hL 71 (by decide)) sh_71 (qIx_0 c1952) (qIx_1 c1952) rfl ?_
      refine q_iinc (lv' := [(3, qi (x3 + 1)), (0, qr 70), (1, qi x1), (2, qi x2)]) dX12_shipLine_61 (by decide) rfl rfl rfl ?_
      refine q_goto (pc' := 35) dX12_shipLine_64 (by decide) ?_
      exact q_pick [1, 2, 3, 0] rfl (ih x1 x2 (x3 + 1) _ _ h hE)
set_option maxRecDepth 20000 in
theorem M_shipLine_ok {X : qX} (hL : ∀ c, c < 93 → c ∈ qLs X) (d : Nat) (S : qSto) (o : qSto) (h : M_shipLine S = some o) (Q : Option qV → qSto → Prop) (hQ : Q none o) : qC X (d + 5) yX12_shipLine cX12_shipLine 4 none [qr 70] S Q := by
  refine q_entry (lv := [(0, qr 70)]) pn_X12 (Nat.le_of_ble_eq_true rfl) rfl ?_
  unfold M_shipLine at h
  refine q_aload_n dX12_shipLine_0 rfl rfl ?_
  refine q_bipush dX12_shipLine_1 (by decide) rfl ?_
  refine q_bipush dX12_shipLine_3 (by decide) rfl ?_
  obtain ⟨q1897, h1898, h⟩ := Option.bind_eq_some_iff.mp h
  refine q_callVi (as := [qi 9, qi 14]) (c := 70) dX12_shipLine_5 ml_X12_202 rfl rfl (hL 70 (by decide)) sh_70 rfl rfl (Nat.le_of_ble_eq_true rfl) (M_begins_ok hL d 9 14 _ _ h1898) rfl ?_
  obtain ⟨c1899, h⟩ := qk_some h
  refine q_if_ne (tgt := 12) dX12_shipLine_8 (by decide) rfl (qRb_R c1899)  (fun g => ?_) (fun g => ?_)
  · rw [if_neg (show ¬ (q1897.1 = 0) from g)] at h
    refine q_aload_n dX12_shipLine_12 rfl rfl ?_
    refine q_getA dX12_shipLine_13 fl_X12_7 (hL 70 (by decide)) sh_70 (by decide) rfl rfl ?_
    refine q_bipush dX12_shipLine_16 (by decide) rfl ?_
    refine q_iaload dX12_shipLine_18 (hL 71 (by decide)) sh_71 (by decide) (by decide) rfl ?_
    refine q_istore_n (lv' := [(1, qi (q1897.2 71 9)), (0, qr 70)]) dX12_shipLine_19 (by decide) rfl rfl ?_
    refine q_bipush dX12_shipLine_20 (by decide) rfl ?_
    refine q_bipush dX12_shipLine_22 (by decide) rfl ?_
    refine q_iload_n dX12_shipLine_24 rfl rfl ?_
    refine q_imul dX12_shipLine_25 rfl ?_
    refine q_iadd dX12_shipLine_26 rfl ?_
    refine q_istore_n (lv' := [(2, qi (124 + (9 * (q1897.2 71 9)))), (1, qi (q1897.2 71 9)), (0, qr 70)]) dX12_shipLine_27 (by decide) rfl rfl ?_
    refine q_aload_n dX12_shipLine_28 rfl rfl ?_
    refine q_iload_n dX12_shipLine_29 rfl rfl ?_
    obtain ⟨q1924, h1925, h⟩ := Option.bind_eq_some_iff.mp h
    refine q_callVv (as := [qi (q1897.2 71 9)]) (c := 70) dX12_shipLine_30 ml_X12_213 rfl rfl (hL 70 (by decide)) sh_70 rfl rfl (Nat.le_of_ble_eq_true rfl) (M_nameTold_ok hL d (q1897.2 71 9) _ _ h1925) rfl ?_
    refine q_iconst dX12_shipLine_33 rfl rfl ?_
    refine q_istore_n (lv' := [(3, qi 0), (2, qi (124 + (9 * (q1897.2 71 9)))), (1, qi (q1897.2 71 9)), (0, qr 70)]) dX12_shipLine_34 (by decide) rfl rfl ?_
    obtain ⟨q1953, h1954, h⟩ := Option.bind_eq_some_iff.mp h
    refine q_pick [3, 2, 1, 0] rfl (M_shipLine_L35_ok hL d qF (q1897.2 71 9) (124 + (9 * (q1897.2 71 9))) 0 _ _ h1954 ?_)
    refine q_aload_n dX12_shipLine_67 rfl rfl ?_
    refine q_getI dX12_shipLine_68 fl_X12_147 (hL 70 (by decide)) sh_70 (by decide) rfl rfl ?_
    refine q_jn (G := fun (t1962 : qSto) => qW X (d + 5) yX12_shipLine cX12_shipLine 4 none 104 [(0, qr 70), (1, qi (q1897.2 71 9))] [] t1962 Q) h (fun t1962 h => ?_) (fun t1962 h hk3850 => ?_)
    · try dsimp only at h
      refine q_aload_n dX12_shipLine_104 rfl rfl ?_
      refine q_getA dX12_shipLine_105 fl_X12_7 (hL 70 (by decide)) sh_70 (by decide) rfl rfl ?_
      refine q_bipush dX12_shipLine_108 (by decide) rfl ?_
      refine q_iload_n dX12_shipLine_110 rfl rfl ?_
      refine q_iconst dX12_shipLine_111 rfl rfl ?_
      refine q_iadd dX12_shipLine_112 rfl ?_
      refine q_iastore dX12_shipLine_113 (hL 71 (by decide)) sh_71 (by decide) (by decide) rfl ?_
      cases h
      exact q_return dX12_shipLine_114 rfl hQ
    · skip
      obtain ⟨c1955, h⟩ := qk_some h
      refine q_if_ne (tgt := 104) dX12_shipLine_71 (by decide) rfl (qRb_R c1955)  (fun g => ?_) (fun g => ?_)
      · rw [if_neg (show ¬ ((q1953 70 11) = 0) from g)] at h
        cases h
        exact q_pick [0, 1] rfl hk3850
      · rw [if_pos (show (q1953 70 11) = 0 from g)] at h
        refine q_aload_n dX12_shipLine_74 rfl rfl ?_
        refine q_getA dX12_shipLine_75 fl_X12_7 (hL 70 (by decide)) sh_70 (by decide) rfl rfl ?_
        refine q_iload_n dX12_shipLine_78 rfl rfl ?_
        refine q_bipush dX12_shipLine_79 (by decide) rfl ?_
        refine q_iadd dX12_shipLine_81 rfl ?_
        obtain ⟨c1956, h⟩ := qk_some h
        refine q_iaload dX12_shipLine_82 (hL 71 (by decide)) sh_71 (qIx_0 c1956) (qIx_1 c1956) rfl ?_
        refine q_aload_n dX12_shipLine_83 rfl rfl ?_
        refine q_getA dX12_shipLine_84 fl_X12_7 (hL 70 (by decide)) sh_70 (by decide) rfl rfl ?_
        refine q_iload_n dX12_shipLine_87 rfl rfl ?_
        refine q_bipush dX12_shipLine_88 (by decide) rfl ?_
        refine q_iadd dX12_shipLine_90 rfl ?_
        obtain ⟨c1957, h⟩ := qk_some h
        refine q_iaload dX12_shipLine_91 (hL 71 (by decide)) sh_71 (qIx_0 c1957) (qIx_1 c1957) rfl ?_
        obtain ⟨c1958, h⟩ := qk_some h
        obtain ⟨c1959, h⟩ := qk_some h
        refine q_icmp_ge (tgt := 104) dX12_shipLine_92 (by decide) rfl (qRb_R c1958) (qRb_R c1959) (fun g => ?_) (fun g => ?_)
        · rw [if_pos (show (q1953 71 (Int.toNat ((124 + (9 * (q1897.2 71 9))) + 7))) ≤ (q1953 71 (Int.toNat ((124 + (9 * (q1897.2 71 9))) + 8))) from g)] at h
          cases h
          exact q_pick [0, 1] rfl hk3850
        · rw [if_neg (show ¬ ((q1953 71 (Int.toNat ((124 + (9 * (q1897.2 71 9))) + 7))) ≤ (q1953 71 (Int.toNat ((124 + (9 * (q1897.2 71 9))) + 8)))) from g)] at h
          refine q_aload_n dX12_shipLine_95 rfl rfl ?_
          refine q_iconst dX12_shipLine_96 rfl rfl ?_
          refine q_aload_n dX12_shipLine_97 rfl rfl ?_
          refine q_getI dX12_shipLine_98 fl_X12_157 (hL 70 (by decide)) sh_70 (by decide) rfl rfl ?_
          obtain ⟨q1960, h1961, h⟩ := Option.bind_eq_some_iff.mp h
          refine q_callVv (as := [qi 2, qi (q1953 70 13)]) (c := 70) dX12_shipLine_101 ml_X12_153 rfl rfl (hL 70 (by decide)) sh_70 rfl rfl (Nat.le_of_ble_eq_true rfl) (M_fail_ok hL (d + 4) 2 (q1953 70 13) _ _ h1961) rfl ?_
          cases h
          exact q_pick [0, 1] rfl hk3850
  · rw [if_pos (show q1897.1 = 0 from g)] at h
    cases h
    exact q_return dX12_shipLine_11 rfl hQ
set_option maxRecDepth 20000 in
theorem M_gangsLine_ok {X : qX} (hL : ∀ c, c < 93 → c ∈ qLs X) (d : Nat) (S : qSto) (o : qSto) (h : M_gangsLine S = some o) (Q : Option qV → qSto → Prop) (hQ : Q none o) : qC X (d + 5) yX12_gangsLine cX12_gangsLine 4 none [qr 70] S Q := by
  refine q_entry (lv := [(0, qr 70)]) pn_X12 (Nat.le_of_ble_eq_true rfl) rfl ?_
  unfold M_gangsLine at h
  refine q_aload_n dX12_gangsLine_0 rfl rfl ?_
  obtain ⟨q1965, h1966, h⟩ := Option.bind_eq_some_iff.mp h
  refine q_callVv (as := []) (c := 70) dX12_gangsLine_1 ml_X12_160 rfl rfl (hL 70 (by decide)) sh_70 rfl rfl (Nat.le_of_ble_eq_true rfl) (M_goOn_ok hL (d + 1) _ _ h1966) rfl ?_
  refine q_aload_n dX12_gangsLine_4 rfl rfl ?_
  refine q_iconst dX12_gangsLine_5 rfl rfl ?_
  refine q_bipush dX12_gangsLine_6 (by decide) rfl ?_
  obtain ⟨q1967, h1968, h⟩ := Option.bind_eq_some_iff.mp h
  refine q_callVi (as := [qi 0, qi 6]) (c := 70) dX12_gangsLine_8 ml_X12_198 rfl rfl (hL 70 (by decide)) sh_70 rfl rfl (Nat.le_of_ble_eq_true rfl) (M_number_ok hL d 0 6 _ _ h1968) rfl ?_
  refine q_istore_n (lv' := [(1, qi q1967.1), (0, qr 70)]) dX12_gangsLine_11 (by decide) rfl rfl ?_
  refine q_aload_n dX12_gangsLine_12 rfl rfl ?_
  refine q_iconst dX12_gangsLine_13 rfl rfl ?_
  refine q_iconst dX12_gangsLine_14 rfl rfl ?_
  obtain ⟨q1969, h1970, h⟩ := Option.bind_eq_some_iff.mp h
  refine q_callVi (as := [qi 0, qi 2]) (c := 70) dX12_gangsLine_15 ml_X12_198 rfl rfl (hL 70 (by decide)) sh_70 rfl rfl (Nat.le_of_ble_eq_true rfl) (M_number_ok hL d 0 2 _ _ h1970) rfl ?_
  refine q_istore_n (lv' := [(2, qi q1969.1), (1, qi q1967.1), (0, qr 70)]) dX12_gangsLine_18 (by decide) rfl rfl ?_
  refine q_aload_n dX12_gangsLine_19 rfl rfl ?_
  refine q_getI dX12_gangsLine_20 fl_X12_147 (hL 70 (by decide)) sh_70 (by decide) rfl rfl ?_
  obtain ⟨c1971, h⟩ := qk_some h
  refine q_if_le (tgt := 27) dX12_gangsLine_23 (by decide) rfl (qRb_R c1971)  (fun g => ?_) (fun g => ?_)
  · rw [if_pos (show (q1969.2 70 11) ≤ 0 from g)] at h
    refine q_bipush dX12_gangsLine_27 (by decide) rfl ?_
    refine q_iconst dX12_gangsLine_29 rfl rfl ?_
    refine q_iload_n dX12_gangsLine_30 rfl rfl ?_
    refine q_imul dX12_gangsLine_31 rfl ?_
    refine q_iadd dX12_gangsLine_32 rfl ?_
    refine q_iload_n dX12_gangsLine_33 rfl rfl ?_
    refine q_iadd dX12_gangsLine_34 rfl ?_
    refine q_istore_n (lv' := [(3, qi ((103 + (3 * q1967.1)) + q1969.1)), (2, qi q1969.1), (1, qi q1967.1), (0, qr 70)]) dX12_gangsLine_35 (by decide) rfl rfl ?_
    refine q_aload_n dX12_gangsLine_36 rfl rfl ?_
    refine q_getA dX12_gangsLine_37 fl_X12_7 (hL 70 (by decide)) sh_70 (by decide) rfl rfl ?_
    refine q_iload_n dX12_gangsLine_40 rfl rfl ?_
    obtain ⟨c1972, h⟩ := qk_some h
    refine q_iaload dX12_gangsLine_41 (hL 71 (by decide)) sh_71 (qIx_0 c1972) (qIx_1 c1972) rfl ?_
    refine q_iconst dX12_gangsLine_42 rfl rfl ?_
    refine q_jn (G := fun (t1976 : qSto) => qW X (d + 5) yX12_gangsLine cX12_gangsLine 4 none 55 [(0, qr 70), (3, qi ((103 + (3 * q1967.1)) + q1969.1))] [] t1976 Q) h (fun t1976 h => ?_) (fun t1976 h hk3851 => ?_)
    · try dsimp only at h
      refine q_aload_n dX12_gangsLine_55 rfl rfl ?_
      refine q_getA dX12_gangsLine_56 fl_X12_7 (hL 70 (by decide)) sh_70 (by decide) rfl rfl ?_
      refine q_iload_n dX12_gangsLine_59 rfl rfl ?_
      refine q_aload_n dX12_gangsLine_60 rfl rfl ?_
      refine q_iconst dX12_gangsLine_61 rfl rfl ?_
      refine q_bipush dX12_gangsLine_62 (by decide) rfl ?_
      obtain ⟨q1977, h1978, h⟩ := Option.bind_eq_some_iff.mp h
      refine q_callVi (as := [qi 0, qi 9]) (c := 70) dX12_gangsLine_64 ml_X12_198 rfl rfl (hL 70 (by decide)) sh_70 rfl rfl (Nat.le_of_ble_eq_true rfl) (M_number_ok hL d 0 9 _ _ h1978) rfl ?_
      obtain ⟨c1979, h⟩ := qk_some h
      refine q_iastore dX12_gangsLine_67 (hL 71 (by decide)) sh_71 (qIx_0 c1979) (qIx_1 c1979) rfl ?_
      cases h
      exact q_return dX12_gangsLine_68 rfl hQ
    · skip
      obtain ⟨c1973, h⟩ := qk_some h
      refine q_icmp_eq (tgt := 55) dX12_gangsLine_43 (by decide) rfl (qRb_R c1973) ⟨by decide, by decide⟩ (fun g => ?_) (fun g => ?_)
      · rw [if_pos (show (q1969.2 71 (Int.toNat ((103 + (3 * q1967.1)) + q1969.1))) = (-1) from g)] at h
        cases h
        exact q_pick [3, 0] rfl hk3851
      · rw [if_neg (show ¬ ((q1969.2 71 (Int.toNat ((103 + (3 * q1967.1)) + q1969.1))) = (-1)) from g)] at h
        refine q_aload_n dX12_gangsLine_46 rfl rfl ?_
        refine q_iconst dX12_gangsLine_47 rfl rfl ?_
        refine q_aload_n dX12_gangsLine_48 rfl rfl ?_
        refine q_getI dX12_gangsLine_49 fl_X12_157 (hL 70 (by decide)) sh_70 (by decide) rfl rfl ?_
        obtain ⟨q1974, h1975, h⟩ := Option.bind_eq_some_iff.mp h
        refine q_callVv (as := [qi 3, qi (q1969.2 70 13)]) (c := 70) dX12_gangsLine_52 ml_X12_153 rfl rfl (hL 70 (by decide)) sh_70 rfl rfl (Nat.le_of_ble_eq_true rfl) (M_fail_ok hL (d + 4) 3 (q1969.2 70 13) _ _ h1975) rfl ?_
        cases h
        exact q_pick [3, 0] rfl hk3851
  · rw [if_neg (show ¬ ((q1969.2 70 11) ≤ 0) from g)] at h
    cases h
    exact q_return dX12_gangsLine_26 rfl hQ
set_option maxRecDepth 20000 in
theorem M_isTold_L3_ok {X : qX} (hL : ∀ c, c < 93 → c ∈ qLs X) (d : Nat) {Q : Option qV → qSto → Prop} : ∀ (n : Nat) (x1 : Int) (x2 : Int) (x3 : Int) (x4 : Int) (S : qSto) (o : (qSto ⊕ (Int × qSto))), M_isTold_L3 n x1 x2 x3 x4 S = some o → (∀ t, o = Sum.inl t → qW X d yX12_isTold cX12_isTold 5 (some .boolean) 30 [] [] t Q) → (∀ w, o = Sum.inr w → Q (some (qi w.1)) w.2) → qW X d yX12_isTold cX12_isTold 5 (some .boolean) 3 [(0, qr 70), (1, qi x1), (2, qi x2), (3, qi x3), (4, qi x4)] [] S Q := by
  intro n
  induction n with
  | zero =>
    intro x1 x2 x3 x4 S o h
    simp [M_isTold_L3] at h
  | succ n ih =>
    intro x1 x2 x3 x4 S o h hE hR
    rw [M_isTold_L3] at h
    refine q_iload dX12_isTold_3 rfl rfl ?_
    refine q_iload_n dX12_isTold_5 rfl rfl ?_
    obtain ⟨c1988, h⟩ := qk_some h
    obtain ⟨c1989, h⟩ := qk_some h
    refine q_icmp_ge (tgt := 30) dX12_isTold_6 (by decide) rfl (qRb_R c1988) (qRb_R c1989) (fun g => ?_) (fun g => ?_)
    · rw [if_pos (show x2 ≤ x4 from g)] at h
      cases h
      exact q_pick [] rfl (hE _ rfl)
    · rw [if_neg (show ¬ (x2 ≤ x4) from g)] at h
      refine q_aload_n dX12_isTold_9 rfl rfl ?_
      refine q_getA dX12_isTold_10 fl_X12_7 (hL 70 (by decide)) sh_70 (by decide) rfl rfl ?_
      refine q_iload_n dX12_isTold_13 rfl rfl ?_
      refine q_iload dX12_isTold_14 rfl rfl ?_
      refine q_iadd dX12_isTold_16 rfl ?_
      obtain ⟨c1990, h⟩ := qk_some h
      refine q_iaload dX12_isTold_17 (hL 71 (by decide)) sh_71 (qIx_0 c1990) (qIx_1 c1990) rfl ?_
      refine q_iload_n dX12_isTold_18 rfl rfl ?_
      obtain ⟨c1991, h⟩ := qk_some h
      obtain ⟨c1992, h⟩ := qk_some h
      refine q_icmp_ne (tgt := 24) dX12_isTold_19 (by decide) rfl (qRb_R c1991) (qRb_R c1992) (fun g => ?_) (fun g => ?_)
      · rw [if_neg (show ¬ ((S 71 (Int.toNat (x1 + x4))) = x3) from g)] at h
        refine q_iinc (lv' := [(4, qi (x4 + 1)), (0, qr 70), (1, qi x1), (2, qi x2), (3, qi x3)]) dX12_isTold_24 (by decide) rfl rfl rfl ?_
        refine q_goto (pc' := 3) dX12_isTold_27 (by decide) ?_
        exact q_pick [1, 2, 3, 4, 0] rfl (ih x1 x2 x3 (x4 + 1) _ _ h hE hR)
      · rw [if_pos (show (S 71 (Int.toNat (x1 + x4))) = x3 from g)] at h
        refine q_iconst dX12_isTold_22 rfl rfl ?_
        cases h
        exact q_zreturn dX12_isTold_23 rfl (by decide) (hR _ rfl)
set_option maxRecDepth 20000 in
theorem M_isTold_ok {X : qX} (hL : ∀ c, c < 93 → c ∈ qLs X) (d : Nat) (a1 : Int) (a2 : Int) (a3 : Int) (S : qSto) (o : (Int × qSto)) (h : M_isTold a1 a2 a3 S = some o) (Q : Option qV → qSto → Prop) (hQ : Q (some (qi o.1)) o.2) : qC X d yX12_isTold cX12_isTold 5 (some .boolean) [qr 70, qi a1, qi a2, qi a3] S Q := by
  refine q_entry (lv := [(0, qr 70), (1, qi a1), (2, qi a2), (3, qi a3)]) pn_X12 (Nat.le_of_ble_eq_true rfl) rfl ?_
  unfold M_isTold at h
  refine q_iconst dX12_isTold_0 rfl rfl ?_
  refine q_istore (lv' := [(4, qi 0), (0, qr 70), (1, qi a1), (2, qi a2), (3, qi a3)]) dX12_isTold_1 (by decide) rfl rfl ?_
  obtain ⟨q1993, h1994, h⟩ := Option.bind_eq_some_iff.mp h
  refine q_pick [1, 2, 3, 4, 0] rfl (M_isTold_L3_ok hL d qF a1 a2 a3 0 _ _ h1994 (fun t1995 e3852 => ?_) (fun w e3852 => ?_))
  · subst e3852
    simp only [Sum.elim_inl] at h
    refine q_iconst dX12_isTold_30 rfl rfl ?_
    cases h
    exact q_zreturn dX12_isTold_31 rfl (by decide) hQ
  · subst e3852
    simp only [Sum.elim_inr] at h
    cases h
    exact hQ
set_option maxRecDepth 20000 in
theorem M_tideLine_ok {X : qX} (hL : ∀ c, c < 93 → c ∈ qLs X) (d : Nat) (S : qSto) (o : qSto) (h : M_tideLine S = some o) (Q : Option qV → qSto → Prop) (hQ : Q none o) : qC X (d + 5) yX12_tideLine cX12_tideLine 3 none [qr 70] S Q := by
  refine q_entry (lv := [(0, qr 70)]) pn_X12 (Nat.le_of_ble_eq_true rfl) rfl ?_
  unfold M_tideLine at h
  refine q_aload_n dX12_tideLine_0 rfl rfl ?_
  refine q_bipush dX12_tideLine_1 (by decide) rfl ?_
  refine q_bipush dX12_tideLine_3 (by decide) rfl ?_
  obtain ⟨q1982, h1983, h⟩ := Option.bind_eq_some_iff.mp h
  refine q_callVi (as := [qi 8, qi 30]) (c := 70) dX12_tideLine_5 ml_X12_202 rfl rfl (hL 70 (by decide)) sh_70 rfl rfl (Nat.le_of_ble_eq_true rfl) (M_begins_ok hL d 8 30 _ _ h1983) rfl ?_
  obtain ⟨c1984, h⟩ := qk_some h
  refine q_if_ne (tgt := 12) dX12_tideLine_8 (by decide) rfl (qRb_R c1984)  (fun g => ?_) (fun g => ?_)
  · rw [if_neg (show ¬ (q1982.1 = 0) from g)] at h
    refine q_aload_n dX12_tideLine_12 rfl rfl ?_
    refine q_getA dX12_tideLine_13 fl_X12_7 (hL 70 (by decide)) sh_70 (by decide) rfl rfl ?_
    refine q_bipush dX12_tideLine_16 (by decide) rfl ?_
    refine q_iaload dX12_tideLine_18 (hL 71 (by decide)) sh_71 (by decide) (by decide) rfl ?_
    refine q_istore_n (lv' := [(1, qi (q1982.2 71 8)), (0, qr 70)]) dX12_tideLine_19 (by decide) rfl rfl ?_
    refine q_aload_n dX12_tideLine_20 rfl rfl ?_
    refine q_iconst dX12_tideLine_21 rfl rfl ?_
    refine q_sipush dX12_tideLine_22 (by decide) rfl ?_
    obtain ⟨q1985, h1986, h⟩ := Option.bind_eq_some_iff.mp h
    refine q_callVi (as := [qi 0, qi 335]) (c := 70) dX12_tideLine_25 ml_X12_198 rfl rfl (hL 70 (by decide)) sh_70 rfl rfl (Nat.le_of_ble_eq_true rfl) (M_number_ok hL d 0 335 _ _ h1986) rfl ?_
    refine q_istore_n (lv' := [(2, qi q1985.1), (1, qi (q1982.2 71 8)), (0, qr 70)]) dX12_tideLine_28 (by decide) rfl rfl ?_
    refine q_aload_n dX12_tideLine_29 rfl rfl ?_
    refine q_getI dX12_tideLine_30 fl_X12_147 (hL 70 (by decide)) sh_70 (by decide) rfl rfl ?_
    refine q_jn (G := fun (t2001 : qSto) => qW X (d + 5) yX12_tideLine cX12_tideLine 3 none 56 [(0, qr 70), (1, qi (q1982.2 71 8)), (2, qi q1985.1)] [] t2001 Q) h (fun t2001 h => ?_) (fun t2001 h hk3853 => ?_)
    · try dsimp only at h
      refine q_aload_n dX12_tideLine_56 rfl rfl ?_
      refine q_getA dX12_tideLine_57 fl_X12_7 (hL 70 (by decide)) sh_70 (by decide) rfl rfl ?_
      refine q_bipush dX12_tideLine_60 (by decide) rfl ?_
      refine q_iload_n dX12_tideLine_62 rfl rfl ?_
      refine q_iadd dX12_tideLine_63 rfl ?_
      refine q_iload_n dX12_tideLine_64 rfl rfl ?_
      obtain ⟨c2002, h⟩ := qk_some h
      refine q_iastore dX12_tideLine_65 (hL 71 (by decide)) sh_71 (qIx_0 c2002) (qIx_1 c2002) rfl ?_
      refine q_aload_n dX12_tideLine_66 rfl rfl ?_
      refine q_getA dX12_tideLine_67 fl_X12_7 (hL 70 (by decide)) sh_70 (by decide) rfl rfl ?_
      refine q_bipush dX12_tideLine_70 (by decide) rfl ?_
      refine q_iload_n dX12_tideLine_72 rfl rfl ?_
      refine q_iadd dX12_tideLine_73 rfl ?_
      refine q_aload_n dX12_tideLine_74 rfl rfl ?_
      refine q_iconst dX12_tideLine_75 rfl rfl ?_
      refine q_bipush dX12_tideLine_76 (by decide) rfl ?_
      obtain ⟨q2003, h2004, h⟩ := Option.bind_eq_some_iff.mp h
      refine q_callVi (as := [qi 0, qi 99]) (c := 70) dX12_tideLine_78 ml_X12_198 rfl rfl (hL 70 (by decide)) sh_70 rfl rfl (Nat.le_of_ble_eq_true rfl) (M_number_ok hL d 0 99 _ _ h2004) rfl ?_
      obtain ⟨c2005, h⟩ := qk_some h
      refine q_iastore dX12_tideLine_81 (hL 71 (by decide)) sh_71 (qIx_0 c2005) (qIx_1 c2005) rfl ?_
      refine q_aload_n dX12_tideLine_82 rfl rfl ?_
      refine q_getA dX12_tideLine_83 fl_X12_7 (hL 70 (by decide)) sh_70 (by decide) rfl rfl ?_
      refine q_bipush dX12_tideLine_86 (by decide) rfl ?_
      refine q_iload_n dX12_tideLine_88 rfl rfl ?_
      refine q_iconst dX12_tideLine_89 rfl rfl ?_
      refine q_iadd dX12_tideLine_90 rfl ?_
      refine q_iastore dX12_tideLine_91 (hL 71 (by decide)) sh_71 (by decide) (by decide) rfl ?_
      cases h
      exact q_return dX12_tideLine_92 rfl hQ
    · skip
      obtain ⟨c1987, h⟩ := qk_some h
      refine q_if_ne (tgt := 56) dX12_tideLine_33 (by decide) rfl (qRb_R c1987)  (fun g => ?_) (fun g => ?_)
      · rw [if_neg (show ¬ ((q1985.2 70 11) = 0) from g)] at h
        cases h
        exact q_pick [2, 1, 0] rfl hk3853
      · rw [if_pos (show (q1985.2 70 11) = 0 from g)] at h
        refine q_aload_n dX12_tideLine_36 rfl rfl ?_
        refine q_bipush dX12_tideLine_37 (by decide) rfl ?_
        refine q_iload_n dX12_tideLine_39 rfl rfl ?_
        refine q_iload_n dX12_tideLine_40 rfl rfl ?_
        obtain ⟨q1996, h1997, h⟩ := Option.bind_eq_some_iff.mp h
        refine q_callVi (as := [qi 43, qi (q1982.2 71 8), qi q1985.1]) (c := 70) dX12_tideLine_41 ml_X12_205 rfl rfl (hL 70 (by decide)) sh_70 rfl rfl (Nat.le_of_ble_eq_true rfl) (M_isTold_ok hL (d + 4) 43 (q1982.2 71 8) q1985.1 _ _ h1997) rfl ?_
        obtain ⟨c1998, h⟩ := qk_some h
        refine q_if_eq (tgt := 56) dX12_tideLine_44 (by decide) rfl (qRb_R c1998)  (fun g => ?_) (fun g => ?_)
        · rw [if_pos (show q1996.1 = 0 from g)] at h
          cases h
          exact q_pick [2, 1, 0] rfl hk3853
        · rw [if_neg (show ¬ (q1996.1 = 0) from g)] at h
          refine q_aload_n dX12_tideLine_47 rfl rfl ?_
          refine q_iconst dX12_tideLine_48 rfl rfl ?_
          refine q_aload_n dX12_tideLine_49 rfl rfl ?_
          refine q_getI dX12_tideLine_50 fl_X12_157 (hL 70 (by decide)) sh_70 (by decide) rfl rfl ?_
          obtain ⟨q1999, h2000, h⟩ := Option.bind_eq_some_iff.mp h
          refine q_callVv (as := [qi 3, qi (q1996.2 70 13)]) (c := 70) dX12_tideLine_53 ml_X12_153 rfl rfl (hL 70 (by decide)) sh_70 rfl rfl (Nat.le_of_ble_eq_true rfl) (M_fail_ok hL (d + 4) 3 (q1996.2 70 13) _ _ h2000) rfl ?_
          cases h
          exact q_pick [2, 1, 0] rfl hk3853
  · rw [if_pos (show q1982.1 = 0 from g)] at h
    cases h
    exact q_return dX12_tideLine_11 rfl hQ
set_option maxRecDepth 20000 in
theorem M_craneLine_ok {X : qX} (hL : ∀ c, c < 93 → c ∈ qLs X) (d : Nat) (S : qSto) (o : qSto) (h : M_craneLine S = some o) (Q : Option qV → qSto → Prop) (hQ : Q none o) : qC X (d + 5) yX12_craneLine cX12_craneLine 4 none [qr 70] S Q := by
  refine q_entry (lv := [(0, qr 70)]) pn_X12 (Nat.le_of_ble_eq_true rfl) rfl ?_
  unfold M_craneLine at h
  refine q_aload_n dX12_craneLine_0 rfl rfl ?_
  refine q_bipush dX12_craneLine_1 (by decide) rfl ?_
  refine q_bipush dX12_craneLine_3 (by decide) rfl ?_
  obtain ⟨q2008, h2009, h⟩ := Option.bind_eq_some_iff.mp h
  refine q_callVi (as := [qi 7, qi 8]) (c := 70) dX12_craneLine_5 ml_X12_202 rfl rfl (hL 70 (by decide)) sh_70 rfl rfl (Nat.le_of_ble_eq_true rfl) (M_begins_ok hL d 7 8 _ _ h2009) rfl ?_
  obtain ⟨c2010, h⟩ := qk_some h
  refine q_if_ne (tgt := 12) dX12_craneLine_8 (by decide) rfl (qRb_R c2010)  (fun g => ?_) (fun g => ?_)
  · rw [if_neg (show ¬ (q2008.1 = 0) from g)] at h
    refine q_aload_n dX12_craneLine_12 rfl rfl ?_
    refine q_getA dX12_craneLine_13 fl_X12_7 (hL 70 (by decide)) sh_70 (by decide) rfl rfl ?_
    refine q_bipush dX12_craneLine_16 (by decide) rfl ?_
    refine q_iaload dX12_craneLine_18 (hL 71 (by decide)) sh_71 (by decide) (by decide) rfl ?_
    refine q_istore_n (lv' := [(1, qi (q2008.2 71 7)), (0, qr 70)]) dX12_craneLine_19 (by decide) rfl rfl ?_
    refine q_aload_n dX12_craneLine_20 rfl rfl ?_
    refine q_iconst dX12_craneLine_21 rfl rfl ?_
    refine q_sipush dX12_craneLine_22 (by decide) rfl ?_
    obtain ⟨q2011, h2012, h⟩ := Option.bind_eq_some_iff.mp h
    refine q_callVi (as := [qi 0, qi 999]) (c := 70) dX12_craneLine_25 ml_X12_198 rfl rfl (hL 70 (by decide)) sh_70 rfl rfl (Nat.le_of_ble_eq_true rfl) (M_number_ok hL d 0 999 _ _ h2012) rfl ?_
    refine q_istore_n (lv' := [(2, qi q2011.1), (1, qi (q2008.2 71 7)), (0, qr 70)]) dX12_craneLine_28 (by decide) rfl rfl ?_
    refine q_aload_n dX12_craneLine_29 rfl rfl ?_
    refine q_iconst dX12_craneLine_30 rfl rfl ?_
    refine q_sipush dX12_craneLine_31 (by decide) rfl ?_
    obtain ⟨q2013, h2014, h⟩ := Option.bind_eq_some_iff.mp h
    refine q_callVi (as := [qi 0, qi 999]) (c := 70) dX12_craneLine_34 ml_X12_198 rfl rfl (hL 70 (by decide)) sh_70 rfl rfl (Nat.le_of_ble_eq_true rfl) (M_number_ok hL d 0 999 _ _ h2014) rfl ?_
    refine q_istore_n (lv' := [(3, qi q2013.1), (2, qi q2011.1), (1, qi (q2008.2 71 7)), (0, qr 70)]) dX12_craneLine_37 (by decide) rfl rfl ?_
    refine q_aload_n dX12_craneLine_38 rfl rfl ?_
    refine q_getI dX12_craneLine_39 fl_X12_147 (hL 70 (by decide)) sh_70 (by decide) rfl rfl ?_
    refine q_jn (G := fun (t2020 : qSto) => qW X (d + 5) yX12_craneLine cX12_craneLine 4 none 59 [(0, qr 70), (1, qi (q2008.2 71 7)), (2, qi q2011.1), (3, qi q2013.1)] [] t2020 Q) h (fun t2020 h => ?_) (fun t2020 h hk3854 => ?_)
    · try dsimp only at h
      refine q_aload_n dX12_craneLine_59 rfl rfl ?_
      refine q_getA dX12_craneLine_60 fl_X12_7 (hL 70 (by decide)) sh_70 (by decide) rfl rfl ?_
      refine q_bipush dX12_craneLine_63 (by decide) rfl ?_
      refine q_iload_n dX12_craneLine_65 rfl rfl ?_
      refine q_iadd dX12_craneLine_66 rfl ?_
      refine q_iload_n dX12_craneLine_67 rfl rfl ?_
      obtain ⟨c2021, h⟩ := qk_some h
      refine q_iastore dX12_craneLine_68 (hL 71 (by decide)) sh_71 (qIx_0 c2021) (qIx_1 c2021) rfl ?_
      refine q_aload_n dX12_craneLine_69 rfl rfl ?_
      refine q_getA dX12_craneLine_70 fl_X12_7 (hL 70 (by decide)) sh_70 (by decide) rfl rfl ?_
      refine q_bipush dX12_craneLine_73 (by decide) rfl ?_
      refine q_iload_n dX12_craneLine_75 rfl rfl ?_
      refine q_iadd dX12_craneLine_76 rfl ?_
      refine q_iload_n dX12_craneLine_77 rfl rfl ?_
      obtain ⟨c2022, h⟩ := qk_some h
      refine q_iastore dX12_craneLine_78 (hL 71 (by decide)) sh_71 (qIx_0 c2022) (qIx_1 c2022) rfl ?_
      refine q_aload_n dX12_craneLine_79 rfl rfl ?_
      refine q_getA dX12_craneLine_80 fl_X12_7 (hL 70 (by decide)) sh_70 (by decide) rfl rfl ?_
      refine q_bipush dX12_craneLine_83 (by decide) rfl ?_
      refine q_iload_n dX12_craneLine_85 rfl rfl ?_
      refine q_iconst dX12_craneLine_86 rfl rfl ?_
      refine q_iadd dX12_craneLine_87 rfl ?_
      refine q_iastore dX12_craneLine_88 (hL 71 (by decide)) sh_71 (by decide) (by decide) rfl ?_
      cases h
      exact q_return dX12_craneLine_89 rfl hQ
    · skip
      obtain ⟨c2015, h⟩ := qk_some h
      refine q_if_ne (tgt := 59) dX12_craneLine_42 (by decide) rfl (qRb_R c2015)  (fun g => ?_) (fun g => ?_)
      · rw [if_neg (show ¬ ((q2013.2 70 11) = 0) from g)] at h
        cases h
        exact q_pick [3, 2, 1, 0] rfl hk3854
      · rw [if_pos (show (q2013.2 70 11) = 0 from g)] at h
        refine q_iload_n dX12_craneLine_45 rfl rfl ?_
        refine q_iload_n dX12_craneLine_46 rfl rfl ?_
        obtain ⟨c2016, h⟩ := qk_some h
        obtain ⟨c2017, h⟩ := qk_some h
        refine q_icmp_ge (tgt := 59) dX12_craneLine_47 (by decide) rfl (qRb_R c2016) (qRb_R c2017) (fun g => ?_) (fun g => ?_)
        · rw [if_pos (show q2011.1 ≤ q2013.1 from g)] at h
          cases h
          exact q_pick [3, 2, 1, 0] rfl hk3854
        · rw [if_neg (show ¬ (q2011.1 ≤ q2013.1) from g)] at h
          refine q_aload_n dX12_craneLine_50 rfl rfl ?_
          refine q_iconst dX12_craneLine_51 rfl rfl ?_
          refine q_aload_n dX12_craneLine_52 rfl rfl ?_
          refine q_getI dX12_craneLine_53 fl_X12_157 (hL 70 (by decide)) sh_70 (by decide) rfl rfl ?_
          obtain ⟨q2018, h2019, h⟩ := Option.bind_eq_some_iff.mp h
          refine q_callVv (as := [qi 2, qi (q2013.2 70 13)]) (c := 70) dX12_craneLine_56 ml_X12_153 rfl rfl (hL 70 (by decide)) sh_70 rfl rfl (Nat.le_of_ble_eq_true rfl) (M_fail_ok hL (d + 4) 2 (q2013.2 70 13) _ _ h2019) rfl ?_
          cases h
          exact q_pick [3, 2, 1, 0] rfl hk3854
  · rw [if_pos (show q2008.1 = 0 from g)] at h
    cases h
    exact q_return dX12_craneLine_11 rfl hQ
set_option maxRecDepth 20000 in
theorem M_sectionLine_ok {X : qX} (hL : ∀ c, c < 93 → c ∈ qLs X) (d : Nat) (S : qSto) (o : qSto) (h : M_sectionLine S = some o) (Q : Option qV → qSto → Prop) (hQ : Q none o) : qC X (d + 5) yX12_sectionLine cX12_sectionLine 3 none [qr 70] S Q := by
  refine q_entry (lv := [(0, qr 70)]) pn_X12 (Nat.le_of_ble_eq_true rfl) rfl ?_
  unfold M_sectionLine at h
  refine q_aload_n dX12_sectionLine_0 rfl rfl ?_
  refine q_bipush dX12_sectionLine_1 (by decide) rfl ?_
  refine q_bipush dX12_sectionLine_3 (by decide) rfl ?_
  obtain ⟨q2025, h2026, h⟩ := Option.bind_eq_some_iff.mp h
  refine q_callVi (as := [qi 6, qi 8]) (c := 70) dX12_sectionLine_5 ml_X12_202 rfl rfl (hL 70 (by decide)) sh_70 rfl rfl (Nat.le_of_ble_eq_true rfl) (M_begins_ok hL d 6 8 _ _ h2026) rfl ?_
  obtain ⟨c2027, h⟩ := qk_some h
  refine q_if_ne (tgt := 12) dX12_sectionLine_8 (by decide) rfl (qRb_R c2027)  (fun g => ?_) (fun g => ?_)
  · rw [if_neg (show ¬ (q2025.1 = 0) from g)] at h
    refine q_aload_n dX12_sectionLine_12 rfl rfl ?_
    refine q_getA dX12_sectionLine_13 fl_X12_7 (hL 70 (by decide)) sh_70 (by decide) rfl rfl ?_
    refine q_bipush dX12_sectionLine_16 (by decide) rfl ?_
    refine q_iaload dX12_sectionLine_18 (hL 71 (by decide)) sh_71 (by decide) (by decide) rfl ?_
    refine q_istore_n (lv' := [(1, qi (q2025.2 71 6)), (0, qr 70)]) dX12_sectionLine_19 (by decide) rfl rfl ?_
    refine q_aload_n dX12_sectionLine_20 rfl rfl ?_
    refine q_iconst dX12_sectionLine_21 rfl rfl ?_
    refine q_sipush dX12_sectionLine_22 (by decide) rfl ?_
    obtain ⟨q2028, h2029, h⟩ := Option.bind_eq_some_iff.mp h
    refine q_callVi (as := [qi 0, qi 999]) (c := 70) dX12_sectionLine_25 ml_X12_198 rfl rfl (hL 70 (by decide)) sh_70 rfl rfl (Nat.le_of_ble_eq_true rfl) (M_number_ok hL d 0 999 _ _ h2029) rfl ?_
    refine q_istore_n (lv' := [(2, qi q2028.1), (1, qi (q2025.2 71 6)), (0, qr 70)]) dX12_sectionLine_28 (by decide) rfl rfl ?_
    refine q_aload_n dX12_sectionLine_29 rfl rfl ?_
    refine q_getI dX12_sectionLine_30 fl_X12_147 (hL 70 (by decide)) sh_70 (by decide) rfl rfl ?_
    refine q_jn (G := fun (t2036 : qSto) => qW X (d + 5) yX12_sectionLine cX12_sectionLine 3 none 56 [(0, qr 70), (1, qi (q2025.2 71 6)), (2, qi q2028.1)] [] t2036 Q) h (fun t2036 h => ?_) (fun t2036 h hk3855 => ?_)
    · try dsimp only at h
      refine q_aload_n dX12_sectionLine_56 rfl rfl ?_
      refine q_getA dX12_sectionLine_57 fl_X12_7 (hL 70 (by decide)) sh_70 (by decide) rfl rfl ?_
      refine q_bipush dX12_sectionLine_60 (by decide) rfl ?_
      refine q_iload_n dX12_sectionLine_62 rfl rfl ?_
      refine q_iadd dX12_sectionLine_63 rfl ?_
      refine q_iload_n dX12_sectionLine_64 rfl rfl ?_
      obtain ⟨c2037, h⟩ := qk_some h
      refine q_iastore dX12_sectionLine_65 (hL 71 (by decide)) sh_71 (qIx_0 c2037) (qIx_1 c2037) rfl ?_
      refine q_aload_n dX12_sectionLine_66 rfl rfl ?_
      refine q_getA dX12_sectionLine_67 fl_X12_7 (hL 70 (by decide)) sh_70 (by decide) rfl rfl ?_
      refine q_bipush dX12_sectionLine_70 (by decide) rfl ?_
      refine q_iload_n dX12_sectionLine_72 rfl rfl ?_
      refine q_iadd dX12_sectionLine_73 rfl ?_
      refine q_aload_n dX12_sectionLine_74 rfl rfl ?_
      refine q_iconst dX12_sectionLine_75 rfl rfl ?_
      refine q_sipush dX12_sectionLine_76 (by decide) rfl ?_
      obtain ⟨q2038, h2039, h⟩ := Option.bind_eq_some_iff.mp h
      refine q_callVi (as := [qi 0, qi 300]) (c := 70) dX12_sectionLine_79 ml_X12_198 rfl rfl (hL 70 (by decide)) sh_70 rfl rfl (Nat.le_of_ble_eq_true rfl) (M_number_ok hL d 0 300 _ _ h2039) rfl ?_
      obtain ⟨c2040, h⟩ := qk_some h
      refine q_iastore dX12_sectionLine_82 (hL 71 (by decide)) sh_71 (qIx_0 c2040) (qIx_1 c2040) rfl ?_
      refine q_aload_n dX12_sectionLine_83 rfl rfl ?_
      refine q_getA dX12_sectionLine_84 fl_X12_7 (hL 70 (by decide)) sh_70 (by decide) rfl rfl ?_
      refine q_bipush dX12_sectionLine_87 (by decide) rfl ?_
      refine q_iload_n dX12_sectionLine_89 rfl rfl ?_
      refine q_iconst dX12_sectionLine_90 rfl rfl ?_
      refine q_iadd dX12_sectionLine_91 rfl ?_
      refine q_iastore dX12_sectionLine_92 (hL 71 (by decide)) sh_71 (by decide) (by decide) rfl ?_
      cases h
      exact q_return dX12_sectionLine_93 rfl hQ
    · skip
      obtain ⟨c2030, h⟩ := qk_some h
      refine q_if_ne (tgt := 56) dX12_sectionLine_33 (by decide) rfl (qRb_R c2030)  (fun g => ?_) (fun g => ?_)
      · rw [if_neg (show ¬ ((q2028.2 70 11) = 0) from g)] at h
        cases h
        exact q_pick [2, 1, 0] rfl hk3855
      · rw [if_pos (show (q2028.2 70 11) = 0 from g)] at h
        refine q_aload_n dX12_sectionLine_36 rfl rfl ?_
        refine q_bipush dX12_sectionLine_37 (by decide) rfl ?_
        refine q_iload_n dX12_sectionLine_39 rfl rfl ?_
        refine q_iload_n dX12_sectionLine_40 rfl rfl ?_
        obtain ⟨q2031, h2032, h⟩ := Option.bind_eq_some_iff.mp h
        refine q_callVi (as := [qi 11, qi (q2025.2 71 6), qi q2028.1]) (c := 70) dX12_sectionLine_41 ml_X12_205 rfl rfl (hL 70 (by decide)) sh_70 rfl rfl (Nat.le_of_ble_eq_true rfl) (M_isTold_ok hL (d + 4) 11 (q2025.2 71 6) q2028.1 _ _ h2032) rfl ?_
        obtain ⟨c2033, h⟩ := qk_some h
        refine q_if_eq (tgt := 56) dX12_sectionLine_44 (by decide) rfl (qRb_R c2033)  (fun g => ?_) (fun g => ?_)
        · rw [if_pos (show q2031.1 = 0 from g)] at h
          cases h
          exact q_pick [2, 1, 0] rfl hk3855
        · rw [if_neg (show ¬ (q2031.1 = 0) from g)] at h
          refine q_aload_n dX12_sectionLine_47 rfl rfl ?_
          refine q_iconst dX12_sectionLine_48 rfl rfl ?_
          refine q_aload_n dX12_sectionLine_49 rfl rfl ?_
          refine q_getI dX12_sectionLine_50 fl_X12_157 (hL 70 (by decide)) sh_70 (by decide) rfl rfl ?_
          obtain ⟨q2034, h2035, h⟩ := Option.bind_eq_some_iff.mp h
          refine q_callVv (as := [qi 3, qi (q2031.2 70 13)]) (c := 70) dX12_sectionLine_53 ml_X12_153 rfl rfl (hL 70 (by decide)) sh_70 rfl rfl (Nat.le_of_ble_eq_true rfl) (M_fail_ok hL (d + 4) 3 (q2031.2 70 13) _ _ h2035) rfl ?_
          cases h
          exact q_pick [2, 1, 0] rfl hk3855
  · rw [if_pos (show q2025.1 = 0 from g)] at h
    cases h
    exact q_return dX12_sectionLine_11 rfl hQ
set_option maxRecDepth 20000 in
theorem M_has_ok {X : qX} (hL : ∀ c, c < 93 → c ∈ qLs X) (d : Nat) (a0 : Int) (a1 : Int) (S : qSto) (o : (Int × qSto)) (h : M_has a0 a1 S = some o) (Q : Option qV → qSto → Prop) (hQ : Q (some (qi o.1)) o.2) : qC X d yX12_has cX12_has 2 (some .boolean) [qi a0, qi a1] S Q := by
  refine q_entry (lv := [(0, qi a0), (1, qi a1)]) pn_X12 (Nat.le_of_ble_eq_true rfl) rfl ?_
  unfold M_has at h
  refine q_iload_n dX12_has_0 rfl rfl ?_
  refine q_iload_n dX12_has_1 rfl rfl ?_
  refine q_ishr dX12_has_2 rfl ?_
  refine q_iconst dX12_has_3 rfl rfl ?_
  refine q_iand dX12_has_4 rfl ?_
  refine q_iconst dX12_has_5 rfl rfl ?_
  obtain ⟨c2043, h⟩ := qk_some h
  refine q_icmp_ne (tgt := 13) dX12_has_6 (by decide) rfl (qRb_R c2043) ⟨by decide, by decide⟩ (fun g => ?_) (fun g => ?_)
  · rw [if_neg (show ¬ ((qb_iand (qb_ishr a0 a1) 1) = 1) from g)] at h
    refine q_iconst dX12_has_13 rfl rfl ?_
    cases h
    exact q_zreturn dX12_has_14 rfl (by decide) hQ
  · rw [if_pos (show (qb_iand (qb_ishr a0 a1) 1) = 1 from g)] at h
    refine q_iconst dX12_has_9 rfl rfl ?_
    refine q_goto (pc' := 14) dX12_has_10 (by decide) ?_
    cases h
    exact q_zreturn dX12_has_14 rfl (by decide) hQ
set_option maxRecDepth 20000 in
theorem M_lowOf_ok {X : qX} (hL : ∀ c, c < 93 → c ∈ qLs X) (d : Nat) (a0 : Int) (S : qSto) (o : (Int × qSto)) (h : M_lowOf a0 S = some o) (Q : Option qV → qSto → Prop) (hQ : Q (some (qi o.1)) o.2) : qC X d yX12_lowOf cX12_lowOf 1 (some .int) [qi a0] S Q := by
  refine q_entry (lv := [(0, qi a0)]) pn_X12 (Nat.le_of_ble_eq_true rfl) rfl ?_
  unfold M_lowOf at h
  refine q_iload_n dX12_lowOf_0 rfl rfl ?_
  obtain ⟨c2054, h⟩ := qk_some h
  refine q_if_ne (tgt := 9) dX12_lowOf_1 (by decide) rfl (qRb_R c2054)  (fun g => ?_) (fun g => ?_)
  · rw [if_neg (show ¬ (a0 = 0) from g)] at h
    refine q_iload_n dX12_lowOf_9 rfl rfl ?_
    refine q_iconst dX12_lowOf_10 rfl rfl ?_
    obtain ⟨c2055, h⟩ := qk_some h
    refine q_icmp_ne (tgt := 18) dX12_lowOf_11 (by decide) rfl (qRb_R c2055) ⟨by decide, by decide⟩ (fun g => ?_) (fun g => ?_)
    · rw [if_neg (show ¬ (a0 = 4) from g)] at h
      refine q_iconst dX12_lowOf_18 rfl rfl ?_
      cases h
      exact q_ireturn dX12_lowOf_19 rfl hQ
    · rw [if_pos (show a0 = 4 from g)] at h
      refine q_iconst dX12_lowOf_14 rfl rfl ?_
      refine q_goto (pc' := 19) dX12_lowOf_15 (by decide) ?_
      cases h
      exact q_ireturn dX12_lowOf_19 rfl hQ
  · rw [if_pos (show a0 = 0 from g)] at h
    refine q_bipush dX12_lowOf_4 (by decide) rfl ?_
    refine q_goto (pc' := 19) dX12_lowOf_6 (by decide) ?_
    cases h
    exact q_ireturn dX12_lowOf_19 rfl hQ
set_option maxRecDepth 20000 in
theorem M_highOf_ok {X : qX} (hL : ∀ c, c < 93 → c ∈ qLs X) (d : Nat) (a0 : Int) (S : qSto) (o : (Int × qSto)) (h : M_highOf a0 S = some o) (Q : Option qV → qSto → Prop) (hQ : Q (some (qi o.1)) o.2) : qC X d yX12_highOf cX12_highOf 1 (some .int) [qi a0] S Q := by
  refine q_entry (lv := [(0, qi a0)]) pn_X12 (Nat.le_of_ble_eq_true rfl) rfl ?_
  unfold M_highOf at h
  refine q_iload_n dX12_highOf_0 rfl rfl ?_
  obtain ⟨c2058, h⟩ := qk_some h
  by_cases e3856 : a0 = 0
  · rw [if_pos e3856] at h
    refine q_tsw (tgt := 53) dX12_highOf_1 (qRb_R c2058) (by decide) (fun g => absurd g (by rw [e3856]; decide)) (fun _ _ => ⟨35, 36, by rw [e3856]; rfl, by decide, ?_⟩)
    refine q_sipush dX12_highOf_36 (by decide) rfl ?_
    cases h
    exact q_ireturn dX12_highOf_39 rfl hQ
  · rw [if_neg e3856] at h
    by_cases e3857 : a0 = 1
    · rw [if_pos e3857] at h
      refine q_tsw (tgt := 53) dX12_highOf_1 (qRb_R c2058) (by decide) (fun g => absurd g (by rw [e3857]; decide)) (fun _ _ => ⟨39, 40, by rw [e3857]; rfl, by decide, ?_⟩)
      refine q_bipush dX12_highOf_40 (by decide) rfl ?_
      cases h
      exact q_ireturn dX12_highOf_42 rfl hQ
    · rw [if_neg e3857] at h
      by_cases e3858 : a0 = 2
      · rw [if_pos e3858] at h
        refine q_tsw (tgt := 53) dX12_highOf_1 (qRb_R c2058) (by decide) (fun g => absurd g (by rw [e3858]; decide)) (fun _ _ => ⟨42, 43, by rw [e3858]; rfl, by decide, ?_⟩)
        refine q_bipush dX12_highOf_43 (by decide) rfl ?_
        cases h
        exact q_ireturn dX12_highOf_45 rfl hQ
      · rw [if_neg e3858] at h
        by_cases e3859 : a0 = 3
        · rw [if_pos e3859] at h
          refine q_tsw (tgt := 53) dX12_highOf_1 (qRb_R c2058) (by decide) (fun g => absurd g (by rw [e3859]; decide)) (fun _ _ => ⟨45, 46, by rw [e3859]; rfl, by decide, ?_⟩)
          refine q_sipush dX12_highOf_46 (by decide) rfl ?_
          cases h
          exact q_ireturn dX12_highOf_49 rfl hQ
        · rw [if_neg e3859] at h
          by_cases e3860 : a0 = 4
          · rw [if_pos e3860] at h
            refine q_tsw (tgt := 53) dX12_highOf_1 (qRb_R c2058) (by decide) (fun g => absurd g (by rw [e3860]; decide)) (fun _ _ => ⟨49, 50, by rw [e3860]; rfl, by decide, ?_⟩)
            refine q_bipush dX12_highOf_50 (by decide) rfl ?_
            cases h
            exact q_ireturn dX12_highOf_52 rfl hQ
          · rw [if_neg e3860] at h
            refine q_tsw (tgt := 53) dX12_highOf_1 (qRb_R c2058) (by decide) (fun _ => ?_) (fun g1 g2 => absurd g1 (by omega))
            refine q_bipush dX12_highOf_53 (by decide) rfl ?_
            cases h
            exact q_ireturn dX12_highOf_55 rfl hQ
set_option maxRecDepth 20000 in
theorem M_plainLine_ok {X : qX} (hL : ∀ c, c < 93 → c ∈ qLs X) (d : Nat) (a1 : Int) (S : qSto) (o : qSto) (h : M_plainLine a1 S = some o) (Q : Option qV → qSto → Prop) (hQ : Q none o) : qC X (d + 5) yX12_plainLine cX12_plainLine 2 none [qr 70, qi a1] S Q := by
  refine q_entry (lv := [(0, qr 70), (1, qi a1)]) pn_X12 (Nat.le_of_ble_eq_true rfl) rfl ?_
  unfold M_plainLine at h
  refine q_aload_n dX12_plainLine_0 rfl rfl ?_
  refine q_getI dX12_plainLine_1 fl_X12_185 (hL 70 (by decide)) sh_70 (by decide) rfl rfl ?_
  refine q_iload_n dX12_plainLine_4 rfl rfl ?_
  obtain ⟨q2044, h2045, h⟩ := Option.bind_eq_some_iff.mp h
  refine q_callSi (as := [qi (S 70 14), qi a1]) dX12_plainLine_5 ml_X12_188 rfl rfl (Nat.le_of_ble_eq_true rfl) (M_has_ok hL (d + 4) (S 70 14) a1 _ _ h2045) rfl ?_
  refine q_jn (G := fun (t2049 : qSto) => qW X (d + 5) yX12_plainLine cX12_plainLine 2 none 20 [(0, qr 70), (1, qi a1)] [] t2049 Q) h (fun t2049 h => ?_) (fun t2049 h hk3861 => ?_)
  · try dsimp only at h
    refine q_aload_n dX12_plainLine_20 rfl rfl ?_
    refine q_aload_n dX12_plainLine_21 rfl rfl ?_
    refine q_getI dX12_plainLine_22 fl_X12_185 (hL 70 (by decide)) sh_70 (by decide) rfl rfl ?_
    refine q_iconst dX12_plainLine_25 rfl rfl ?_
    refine q_iload_n dX12_plainLine_26 rfl rfl ?_
    refine q_ishl dX12_plainLine_27 rfl ?_
    refine q_ior dX12_plainLine_28 rfl ?_
    refine q_putI dX12_plainLine_29 fl_X12_185 (hL 70 (by decide)) sh_70 (by decide) pf_12_14 pt_12_14 rfl rfl ?_
    refine q_aload_n dX12_plainLine_32 rfl rfl ?_
    refine q_getI dX12_plainLine_33 fl_X12_147 (hL 70 (by decide)) sh_70 (by decide) rfl rfl ?_
    refine q_jn (G := fun (t2053 : qSto) => qW X (d + 5) yX12_plainLine cX12_plainLine 2 none 43 [(0, qr 70), (1, qi a1)] [] t2053 Q) h (fun t2053 h => ?_) (fun t2053 h hk3862 => ?_)
    · try dsimp only at h
      refine q_aload_n dX12_plainLine_43 rfl rfl ?_
      refine q_getA dX12_plainLine_44 fl_X12_7 (hL 70 (by decide)) sh_70 (by decide) rfl rfl ?_
      refine q_iload_n dX12_plainLine_47 rfl rfl ?_
      refine q_aload_n dX12_plainLine_48 rfl rfl ?_
      refine q_iload_n dX12_plainLine_49 rfl rfl ?_
      obtain ⟨q2056, h2057, h⟩ := Option.bind_eq_some_iff.mp h
      refine q_callSi (as := [qi a1]) dX12_plainLine_50 ml_X12_192 rfl rfl (Nat.le_of_ble_eq_true rfl) (M_lowOf_ok hL (d + 4) a1 _ _ h2057) rfl ?_
      refine q_iload_n dX12_plainLine_53 rfl rfl ?_
      obtain ⟨q2059, h2060, h⟩ := Option.bind_eq_some_iff.mp h
      refine q_callSi (as := [qi a1]) dX12_plainLine_54 ml_X12_195 rfl rfl (Nat.le_of_ble_eq_true rfl) (M_highOf_ok hL (d + 4) a1 _ _ h2060) rfl ?_
      obtain ⟨q2061, h2062, h⟩ := Option.bind_eq_some_iff.mp h
      refine q_callVi (as := [qi q2056.1, qi q2059.1]) (c := 70) dX12_plainLine_57 ml_X12_198 rfl rfl (hL 70 (by decide)) sh_70 rfl rfl (Nat.le_of_ble_eq_true rfl) (M_number_ok hL d q2056.1 q2059.1 _ _ h2062) rfl ?_
      obtain ⟨c2063, h⟩ := qk_some h
      refine q_iastore dX12_plainLine_60 (hL 71 (by decide)) sh_71 (qIx_0 c2063) (qIx_1 c2063) rfl ?_
      cases h
      exact q_return dX12_plainLine_61 rfl hQ
    · skip
      obtain ⟨c2050, h⟩ := qk_some h
      refine q_if_ne (tgt := 43) dX12_plainLine_36 (by decide) rfl (qRb_R c2050)  (fun g => ?_) (fun g => ?_)
      · rw [if_neg (show ¬ (((qup t2049 70 14 (qb_ior (t2049 70 14) (qb_ishl 1 a1))) 70 11) = 0) from g)] at h
        cases h
        exact q_pick [0, 1] rfl hk3862
      · rw [if_pos (show ((qup t2049 70 14 (qb_ior (t2049 70 14) (qb_ishl 1 a1))) 70 11) = 0 from g)] at h
        refine q_aload_n dX12_plainLine_39 rfl rfl ?_
        obtain ⟨q2051, h2052, h⟩ := Option.bind_eq_some_iff.mp h
        refine q_callVv (as := []) (c := 70) dX12_plainLine_40 ml_X12_160 rfl rfl (hL 70 (by decide)) sh_70 rfl rfl (Nat.le_of_ble_eq_true rfl) (M_goOn_ok hL (d + 1) _ _ h2052) rfl ?_
        cases h
        exact q_pick [0, 1] rfl hk3862
  · skip
    obtain ⟨c2046, h⟩ := qk_some h
    refine q_if_eq (tgt := 20) dX12_plainLine_8 (by decide) rfl (qRb_R c2046)  (fun g => ?_) (fun g => ?_)
    · rw [if_pos (show q2044.1 = 0 from g)] at h
      cases h
      exact q_pick [0, 1] rfl hk3861
    · rw [if_neg (show ¬ (q2044.1 = 0) from g)] at h
      refine q_aload_n dX12_plainLine_11 rfl rfl ?_
      refine q_iconst dX12_plainLine_12 rfl rfl ?_
      refine q_aload_n dX12_plainLine_13 rfl rfl ?_
      refine q_getI dX12_plainLine_14 fl_X12_117 (hL 70 (by decide)) sh_70 (by decide) rfl rfl ?_
      obtain ⟨q2047, h2048, h⟩ := Option.bind_eq_some_iff.mp h
      refine q_callVv (as := [qi 3, qi (q2044.2 70 8)]) (c := 70) dX12_plainLine_17 ml_X12_153 rfl rfl (hL 70 (by decide)) sh_70 rfl rfl (Nat.le_of_ble_eq_true rfl) (M_fail_ok hL (d + 4) 3 (q2044.2 70 8) _ _ h2048) rfl ?_
      cases h
      exact q_pick [0, 1] rfl hk3861
set_option maxRecDepth 20000 in
theorem M_line_ok {X : qX} (hL : ∀ c, c < 93 → c ∈ qLs X) (d : Nat) (S : qSto) (o : qSto) (h : M_line S = some o) (Q : Option qV → qSto → Prop) (hQ : Q none o) : qC X (d + 6) yX12_line cX12_line 2 none [qr 70] S Q := by
  refine q_entry (lv := [(0, qr 70)]) pn_X12 (Nat.le_of_ble_eq_true rfl) rfl ?_
  unfold M_line at h
  refine q_aload_n dX12_line_0 rfl rfl ?_
  obtain ⟨q1877, h1878, h⟩ := Option.bind_eq_some_iff.mp h
  refine q_callVi (as := []) (c := 70) dX12_line_1 ml_X12_209 rfl rfl (hL 70 (by decide)) sh_70 rfl rfl (Nat.le_of_ble_eq_true rfl) (M_key_ok hL (d + 5) _ _ h1878) rfl ?_
  refine q_istore_n (lv' := [(1, qi q1877.1), (0, qr 70)]) dX12_line_4 (by decide) rfl rfl ?_
  refine q_iload_n dX12_line_5 rfl rfl ?_
  refine q_iconst dX12_line_6 rfl rfl ?_
  refine q_jn (G := fun (t2068 : qSto) => qW X (d + 6) yX12_line cX12_line 2 none 92 [(0, qr 70)] [] t2068 Q) h (fun t2068 h => ?_) (fun t2068 h hk3863 => ?_)
  · try dsimp only at h
    refine q_aload_n dX12_line_92 rfl rfl ?_
    refine q_getI dX12_line_93 fl_X12_147 (hL 70 (by decide)) sh_70 (by decide) rfl rfl ?_
    obtain ⟨c2069, h⟩ := qk_some h
    refine q_if_le (tgt := 100) dX12_line_96 (by decide) rfl (qRb_R c2069)  (fun g => ?_) (fun g => ?_)
    · rw [if_pos (show (t2068 70 11) ≤ 0 from g)] at h
      refine q_aload_n dX12_line_100 rfl rfl ?_
      refine q_getI dX12_line_101 fl_X12_120 (hL 70 (by decide)) sh_70 (by decide) rfl rfl ?_
      refine q_iconst dX12_line_104 rfl rfl ?_
      refine q_jn (G := fun (t2075 : qSto) => qW X (d + 6) yX12_line cX12_line 2 none 124 [(0, qr 70)] [] t2075 Q) h (fun t2075 h => ?_) (fun t2075 h hk3864 => ?_)
      · try dsimp only at h
        refine q_aload_n dX12_line_124 rfl rfl ?_
        refine q_getA dX12_line_125 fl_X12_7 (hL 70 (by decide)) sh_70 (by decide) rfl rfl ?_
        refine q_bipush dX12_line_128 (by decide) rfl ?_
        refine q_aload_n dX12_line_130 rfl rfl ?_
        refine q_getA dX12_line_131 fl_X12_7 (hL 70 (by decide)) sh_70 (by decide) rfl rfl ?_
        refine q_bipush dX12_line_134 (by decide) rfl ?_
        refine q_iaload dX12_line_136 (hL 71 (by decide)) sh_71 (by decide) (by decide) rfl ?_
        refine q_iconst dX12_line_137 rfl rfl ?_
        refine q_iadd dX12_line_138 rfl ?_
        refine q_iastore dX12_line_139 (hL 71 (by decide)) sh_71 (by decide) (by decide) rfl ?_
        cases h
        exact q_return dX12_line_140 rfl hQ
      · skip
        obtain ⟨c2070, h⟩ := qk_some h
        refine q_icmp_eq (tgt := 120) dX12_line_105 (by decide) rfl (qRb_R c2070) ⟨by decide, by decide⟩ (fun g => ?_) (fun g => ?_)
        · rw [if_pos (show (t2068 70 9) = 3 from g)] at h
          refine q_aload_n dX12_line_120 rfl rfl ?_
          obtain ⟨q2071, h2072, h⟩ := Option.bind_eq_some_iff.mp h
          refine q_callVv (as := []) (c := 70) dX12_line_121 ml_X12_160 rfl rfl (hL 70 (by decide)) sh_70 rfl rfl (Nat.le_of_ble_eq_true rfl) (M_goOn_ok hL (d + 2) _ _ h2072) rfl ?_
          cases h
          exact q_pick [0] rfl hk3864
        · rw [if_neg (show ¬ ((t2068 70 9) = 3) from g)] at h
          refine q_aload_n dX12_line_108 rfl rfl ?_
          refine q_iconst dX12_line_109 rfl rfl ?_
          refine q_aload_n dX12_line_110 rfl rfl ?_
          refine q_getI dX12_line_111 fl_X12_117 (hL 70 (by decide)) sh_70 (by decide) rfl rfl ?_
          obtain ⟨q2073, h2074, h⟩ := Option.bind_eq_some_iff.mp h
          refine q_callVv (as := [qi 1, qi (t2068 70 8)]) (c := 70) dX12_line_114 ml_X12_153 rfl rfl (hL 70 (by decide)) sh_70 rfl rfl (Nat.le_of_ble_eq_true rfl) (M_fail_ok hL (d + 5) 1 (t2068 70 8) _ _ h2074) rfl ?_
          refine q_goto (pc' := 124) dX12_line_117 (by decide) ?_
          cases h
          exact q_pick [0] rfl hk3864
    · rw [if_neg (show ¬ ((t2068 70 11) ≤ 0) from g)] at h
      cases h
      exact q_return dX12_line_99 rfl hQ
  · skip
    obtain ⟨c1879, h⟩ := qk_some h
    refine q_icmp_ne (tgt := 22) dX12_line_7 (by decide) rfl (qRb_R c1879) ⟨by decide, by decide⟩ (fun g => ?_) (fun g => ?_)
    · rw [if_neg (show ¬ (q1877.1 = (-1)) from g)] at h
      refine q_iload_n dX12_line_22 rfl rfl ?_
      refine q_bipush dX12_line_23 (by decide) rfl ?_
      obtain ⟨c1880, h⟩ := qk_some h
      refine q_icmp_ge (tgt := 36) dX12_line_25 (by decide) rfl (qRb_R c1880) ⟨by decide, by decide⟩ (fun g => ?_) (fun g => ?_)
      · rw [if_pos (show 6 ≤ q1877.1 from g)] at h
        refine q_iload_n dX12_line_36 rfl rfl ?_
        refine q_bipush dX12_line_37 (by decide) rfl ?_
        obtain ⟨c1881, h⟩ := qk_some h
        refine q_icmp_ne (tgt := 49) dX12_line_39 (by decide) rfl (qRb_R c1881) ⟨by decide, by decide⟩ (fun g => ?_) (fun g => ?_)
        · rw [if_neg (show ¬ (q1877.1 = 6) from g)] at h
          refine q_iload_n dX12_line_49 rfl rfl ?_
          refine q_bipush dX12_line_50 (by decide) rfl ?_
          obtain ⟨c1882, h⟩ := qk_some h
          refine q_icmp_ne (tgt := 62) dX12_line_52 (by decide) rfl (qRb_R c1882) ⟨by decide, by decide⟩ (fun g => ?_) (fun g => ?_)
          · rw [if_neg (show ¬ (q1877.1 = 7) from g)] at h
            refine q_iload_n dX12_line_62 rfl rfl ?_
            refine q_bipush dX12_line_63 (by decide) rfl ?_
            obtain ⟨c1883, h⟩ := qk_some h
            refine q_icmp_ne (tgt := 75) dX12_line_65 (by decide) rfl (qRb_R c1883) ⟨by decide, by decide⟩ (fun g => ?_) (fun g => ?_)
            · rw [if_neg (show ¬ (q1877.1 = 8) from g)] at h
              refine q_iload_n dX12_line_75 rfl rfl ?_
              refine q_bipush dX12_line_76 (by decide) rfl ?_
              obtain ⟨c1884, h⟩ := qk_some h
              refine q_icmp_ne (tgt := 88) dX12_line_78 (by decide) rfl (qRb_R c1884) ⟨by decide, by decide⟩ (fun g => ?_) (fun g => ?_)
              · rw [if_neg (show ¬ (q1877.1 = 9) from g)] at h
                refine q_aload_n dX12_line_88 rfl rfl ?_
                obtain ⟨q1963, h1964, h⟩ := Option.bind_eq_some_iff.mp h
                refine q_callVv (as := []) (c := 70) dX12_line_89 ml_X12_237 rfl rfl (hL 70 (by decide)) sh_70 rfl rfl (Nat.le_of_ble_eq_true rfl) (M_shipLine_ok hL d _ _ h1964) rfl ?_
                cases h
                exact q_pick [1] rfl hk3863
              · rw [if_pos (show q1877.1 = 9 from g)] at h
                refine q_aload_n dX12_line_81 rfl rfl ?_
                obtain ⟨q1980, h1981, h⟩ := Option.bind_eq_some_iff.mp h
                refine q_callVv (as := []) (c := 70) dX12_line_82 ml_X12_234 rfl rfl (hL 70 (by decide)) sh_70 rfl rfl (Nat.le_of_ble_eq_true rfl) (M_gangsLine_ok hL d _ _ h1981) rfl ?_
                refine q_goto (pc' := 92) dX12_line_85 (by decide) ?_
                cases h
                exact q_pick [1] rfl hk3863
            · rw [if_pos (show q1877.1 = 8 from g)] at h
              refine q_aload_n dX12_line_68 rfl rfl ?_
              obtain ⟨q2006, h2007, h⟩ := Option.bind_eq_some_iff.mp h
              refine q_callVv (as := []) (c := 70) dX12_line_69 ml_X12_231 rfl rfl (hL 70 (by decide)) sh_70 rfl rfl (Nat.le_of_ble_eq_true rfl) (M_tideLine_ok hL d _ _ h2007) rfl ?_
              refine q_goto (pc' := 92) dX12_line_72 (by decide) ?_
              cases h
              exact q_pick [1] rfl hk3863
          · rw [if_pos (show q1877.1 = 7 from g)] at h
            refine q_aload_n dX12_line_55 rfl rfl ?_
            obtain ⟨q2023, h2024, h⟩ := Option.bind_eq_some_iff.mp h
            refine q_callVv (as := []) (c := 70) dX12_line_56 ml_X12_228 rfl rfl (hL 70 (by decide)) sh_70 rfl rfl (Nat.le_of_ble_eq_true rfl) (M_craneLine_ok hL d _ _ h2024) rfl ?_
            refine q_goto (pc' := 92) dX12_line_59 (by decide) ?_
            cases h
            exact q_pick [1] rfl hk3863
        · rw [if_pos (show q1877.1 = 6 from g)] at h
          refine q_aload_n dX12_line_42 rfl rfl ?_
          obtain ⟨q2041, h2042, h⟩ := Option.bind_eq_some_iff.mp h
          refine q_callVv (as := []) (c := 70) dX12_line_43 ml_X12_225 rfl rfl (hL 70 (by decide)) sh_70 rfl rfl (Nat.le_of_ble_eq_true rfl) (M_sectionLine_ok hL d _ _ h2042) rfl ?_
          refine q_goto (pc' := 92) dX12_line_46 (by decide) ?_
          cases h
          exact q_pick [1] rfl hk3863
      · rw [if_neg (show ¬ (6 ≤ q1877.1) from g)] at h
        refine q_aload_n dX12_line_28 rfl rfl ?_
        refine q_iload_n dX12_line_29 rfl rfl ?_
        obtain ⟨q2064, h2065, h⟩ := Option.bind_eq_some_iff.mp h
        refine q_callVv (as := [qi q1877.1]) (c := 70) dX12_line_30 ml_X12_222 rfl rfl (hL 70 (by decide)) sh_70 rfl rfl (Nat.le_of_ble_eq_true rfl) (M_plainLine_ok hL d q1877.1 _ _ h2065) rfl ?_
        refine q_goto (pc' := 92) dX12_line_33 (by decide) ?_
        cases h
        exact q_pick [1] rfl hk3863
    · rw [if_pos (show q1877.1 = (-1) from g)] at h
      refine q_aload_n dX12_line_10 rfl rfl ?_
      refine q_iconst dX12_line_11 rfl rfl ?_
      refine q_aload_n dX12_line_12 rfl rfl ?_
      refine q_getI dX12_line_13 fl_X12_117 (hL 70 (by decide)) sh_70 (by decide) rfl rfl ?_
      obtain ⟨q2066, h2067, h⟩ := Option.bind_eq_some_iff.mp h
      refine q_callVv (as := [qi 1, qi (q1877.2 70 8)]) (c := 70) dX12_line_16 ml_X12_153 rfl rfl (hL 70 (by decide)) sh_70 rfl rfl (Nat.le_of_ble_eq_true rfl) (M_fail_ok hL (d + 5) 1 (q1877.2 70 8) _ _ h2067) rfl ?_
      refine q_goto (pc' := 92) dX12_line_19 (by decide) ?_
      cases h
      exact q_pick [1] rfl hk3863
set_option maxRecDepth 20000 in
theorem M_depthBy_L8_ok {X : qX} (hL : ∀ c, c < 93 → c ∈ qLs X) (d : Nat) {Q : Option qV → qSto → Prop} : ∀ (n : Nat) (x1 : Int) (x2 : Int) (x3 : Int) (x4 : Int) (S : qSto) (o : (Int × qSto)), M_depthBy_L8 n x1 x2 x3 x4 S = some o → (qW X d yX12_depthBy cX12_depthBy 6 (some .int) 67 [(3, qi o.1)] [] o.2 Q) → qW X d yX12_depthBy cX12_depthBy 6 (some .int) 8 [(0, qr 70), (1, qi x1), (2, qi x2), (3, qi x3), (4, qi x4)] [] S Q := by
  intro n
  induction n with
  | zero =>
    intro x1 x2 x3 x4 S o h
    simp [M_depthBy_L8] at h
  | succ n ih =>
    intro x1 x2 x3 x4 S o h hE
    rw [M_depthBy_L8] at h
    refine q_iload dX12_depthBy_8 rfl rfl ?_
    refine q_aload_n dX12_depthBy_10 rfl rfl ?_
    refine q_getA dX12_depthBy_11 fl_X12_13 (hL 70 (by decide)) sh_70 (by decide) rfl rfl ?_
    refine q_bipush dX12_depthBy_14 (by decide) rfl ?_
    refine q_iaload dX12_depthBy_16 (hL 72 (by decide)) sh_72 (by decide) (by decide) rfl ?_
    obtain ⟨c2092, h⟩ := qk_some h
    obtain ⟨c2093, h⟩ := qk_some h
    refine q_icmp_ge (tgt := 67) dX12_depthBy_17 (by decide) rfl (qRb_R c2092) (qRb_R c2093) (fun g => ?_) (fun g => ?_)
    · rw [if_pos (show (S 72 6) ≤ x4 from g)] at h
      cases h
      exact q_pick [3] rfl (hE)
    · rw [if_neg (show ¬ ((S 72 6) ≤ x4) from g)] at h
      refine q_aload_n dX12_depthBy_20 rfl rfl ?_
      refine q_getA dX12_depthBy_21 fl_X12_13 (hL 70 (by decide)) sh_70 (by decide) rfl rfl ?_
      refine q_bipush dX12_depthBy_24 (by decide) rfl ?_
      refine q_iload dX12_depthBy_26 rfl rfl ?_
      refine q_iadd dX12_depthBy_28 rfl ?_
      obtain ⟨c2094, h⟩ := qk_some h
      refine q_iaload dX12_depthBy_29 (hL 72 (by decide)) sh_72 (qIx_0 c2094) (qIx_1 c2094) rfl ?_
      refine q_istore (lv' := [(5, qi (S 72 (Int.toNat (11 + x4)))), (0, qr 70), (1, qi x1), (2, qi x2), (3, qi x3), (4, qi x4)]) dX12_depthBy_30 (by decide) rfl rfl ?_
      refine q_iload dX12_depthBy_32 rfl rfl ?_
      refine q_iload_n dX12_depthBy_34 rfl rfl ?_
      refine q_jn (G := fun (t2100 : (Int × Int)) => qW X d yX12_depthBy cX12_depthBy 6 (some .int) 61 [(0, qr 70), (1, qi x1), (2, qi t2100.1), (3, qi t2100.2), (4, qi x4)] [] S Q) h (fun t2100 h => ?_) (fun t2100 h hk3865 => ?_)
      · try dsimp only at h
        refine q_iinc (lv' := [(4, qi (x4 + 1)), (0, qr 70), (1, qi x1), (2, qi t2100.1), (3, qi t2100.2)]) dX12_depthBy_61 (by decide) rfl rfl rfl ?_
        refine q_goto (pc' := 8) dX12_depthBy_64 (by decide) ?_
        exact q_pick [1, 2, 3, 4, 0] rfl (ih x1 t2100.1 t2100.2 (x4 + 1) _ _ h hE)
      · skip
        obtain ⟨c2095, h⟩ := qk_some h
        obtain ⟨c2096, h⟩ := qk_some h
        refine q_icmp_gt (tgt := 61) dX12_depthBy_35 (by decide) rfl (qRb_R c2095) (qRb_R c2096) (fun g => ?_) (fun g => ?_)
        · rw [if_pos (show x1 < (S 72 (Int.toNat (11 + x4))) from g)] at h
          cases h
          exact q_pick [1, 2, 3, 4, 5] rfl hk3865
        · rw [if_neg (show ¬ (x1 < (S 72 (Int.toNat (11 + x4)))) from g)] at h
          refine q_iload dX12_depthBy_38 rfl rfl ?_
          refine q_iload_n dX12_depthBy_40 rfl rfl ?_
          obtain ⟨c2097, h⟩ := qk_some h
          obtain ⟨c2098, h⟩ := qk_some h
          refine q_icmp_gt (tgt := 47) dX12_depthBy_41 (by decide) rfl (qRb_R c2097) (qRb_R c2098) (fun g => ?_) (fun g => ?_)
          · rw [if_pos (show x2 < (S 72 (Int.toNat (11 + x4))) from g)] at h
            refine q_iload dX12_depthBy_47 rfl rfl ?_
            refine q_istore_n (lv' := [(2, qi (S 72 (Int.toNat (11 + x4)))), (5, qi (S 72 (Int.toNat (11 + x4)))), (0, qr 70), (1, qi x1), (3, qi x3), (4, qi x4)]) dX12_depthBy_49 (by decide) rfl rfl ?_
            refine q_aload_n dX12_depthBy_50 rfl rfl ?_
            refine q_getA dX12_depthBy_51 fl_X12_13 (hL 70 (by decide)) sh_70 (by decide) rfl rfl ?_
            refine q_bipush dX12_depthBy_54 (by decide) rfl ?_
            refine q_iload dX12_depthBy_56 rfl rfl ?_
            refine q_iadd dX12_depthBy_58 rfl ?_
            obtain ⟨c2099, h⟩ := qk_some h
            refine q_iaload dX12_depthBy_59 (hL 72 (by decide)) sh_72 (qIx_0 c2099) (qIx_1 c2099) rfl ?_
            refine q_istore_n (lv' := [(3, qi (S 72 (Int.toNat (19 + x4)))), (2, qi (S 72 (Int.toNat (11 + x4)))), (5, qi (S 72 (Int.toNat (11 + x4)))), (0, qr 70), (1, qi x1), (4, qi x4)]) dX12_depthBy_60 (by decide) rfl rfl ?_
            cases h
            exact q_pick [3, 4, 1, 0, 5] rfl hk3865
          · rw [if_neg (show ¬ (x2 < (S 72 (Int.toNat (11 + x4)))) from g)] at h
            refine q_goto (pc' := 61) dX12_depthBy_44 (by decide) ?_
            cases h
            exact q_pick [1, 2, 3, 4, 5] rfl hk3865
set_option maxRecDepth 20000 in
theorem M_depthBy_ok {X : qX} (hL : ∀ c, c < 93 → c ∈ qLs X) (d : Nat) (a1 : Int) (S : qSto) (o : (Int × qSto)) (h : M_depthBy a1 S = some o) (Q : Option qV → qSto → Prop) (hQ : Q (some (qi o.1)) o.2) : qC X d yX12_depthBy cX12_depthBy 6 (some .int) [qr 70, qi a1] S Q := by
  refine q_entry (lv := [(0, qr 70), (1, qi a1)]) pn_X12 (Nat.le_of_ble_eq_true rfl) rfl ?_
  unfold M_depthBy at h
  refine q_iconst dX12_depthBy_0 rfl rfl ?_
  refine q_istore_n (lv' := [(2, qi (-1)), (0, qr 70), (1, qi a1)]) dX12_depthBy_1 (by decide) rfl rfl ?_
  refine q_bipush dX12_depthBy_2 (by decide) rfl ?_
  refine q_istore_n (lv' := [(3, qi 100), (2, qi (-1)), (0, qr 70), (1, qi a1)]) dX12_depthBy_4 (by decide) rfl rfl ?_
  refine q_iconst dX12_depthBy_5 rfl rfl ?_
  refine q_istore (lv' := [(4, qi 0), (3, qi 100), (2, qi (-1)), (0, qr 70), (1, qi a1)]) dX12_depthBy_6 (by decide) rfl rfl ?_
  obtain ⟨q2101, h2102, h⟩ := Option.bind_eq_some_iff.mp h
  refine q_pick [3, 4, 2, 1, 0] rfl (M_depthBy_L8_ok hL d qF a1 (-1) 100 0 _ _ h2102 ?_)
  refine q_iload_n dX12_depthBy_67 rfl rfl ?_
  cases h
  exact q_ireturn dX12_depthBy_68 rfl hQ
set_option maxRecDepth 20000 in
theorem M_levelBy_L7_ok {X : qX} (hL : ∀ c, c < 93 → c ∈ qLs X) (d : Nat) {Q : Option qV → qSto → Prop} : ∀ (n : Nat) (x1 : Int) (x2 : Int) (x3 : Int) (x4 : Int) (S : qSto) (o : (Int × Int × qSto)), M_levelBy_L7 n x1 x2 x3 x4 S = some o → (qW X d yX12_levelBy cX12_levelBy 8 (some .int) 93 [(0, qr 70), (1, qi x1), (2, qi o.1), (3, qi o.2.1)] [] o.2.2 Q) → qW X d yX12_levelBy cX12_levelBy 8 (some .int) 7 [(0, qr 70), (1, qi x1), (2, qi x2), (3, qi x3), (4, qi x4)] [] S Q := by
  intro n
  induction n with
  | zero =>
    intro x1 x2 x3 x4 S o h
    simp [M_levelBy_L7] at h
  | succ n ih =>
    intro x1 x2 x3 x4 S o h hE
    rw [M_levelBy_L7] at h
    refine q_iload dX12_levelBy_7 rfl rfl ?_
    refine q_aload_n dX12_levelBy_9 rfl rfl ?_
    refine q_getA dX12_levelBy_10 fl_X12_13 (hL 70 (by decide)) sh_70 (by decide) rfl rfl ?_
    refine q_bipush dX12_levelBy_13 (by decide) rfl ?_
    refine q_iaload dX12_levelBy_15 (hL 72 (by decide)) sh_72 (by decide) (by decide) rfl ?_
    obtain ⟨c2109, h⟩ := qk_some h
    obtain ⟨c2110, h⟩ := qk_some h
    refine q_icmp_ge (tgt := 93) dX12_levelBy_16 (by decide) rfl (qRb_R c2109) (qRb_R c2110) (fun g => ?_) (fun g => ?_)
    · rw [if_pos (show (S 72 8) ≤ x4 from g)] at h
      cases h
      exact q_pick [0, 1, 2, 3] rfl (hE)
    · rw [if_neg (show ¬ ((S 72 8) ≤ x4) from g)] at h
      refine q_aload_n dX12_levelBy_19 rfl rfl ?_
      refine q_getA dX12_levelBy_20 fl_X12_13 (hL 70 (by decide)) sh_70 (by decide) rfl rfl ?_
      refine q_bipush dX12_levelBy_23 (by decide) rfl ?_
      refine q_iload dX12_levelBy_25 rfl rfl ?_
      refine q_iadd dX12_levelBy_27 rfl ?_
      obtain ⟨c2111, h⟩ := qk_some h
      refine q_iaload dX12_levelBy_28 (hL 72 (by decide)) sh_72 (qIx_0 c2111) (qIx_1 c2111) rfl ?_
      refine q_istore (lv' := [(5, qi (S 72 (Int.toNat (43 + x4)))), (0, qr 70), (1, qi x1), (2, qi x2), (3, qi x3), (4, qi x4)]) dX12_levelBy_29 (by decide) rfl rfl ?_
      refine q_iload dX12_levelBy_31 rfl rfl ?_
      refine q_iload_n dX12_levelBy_33 rfl rfl ?_
      refine q_jn (G := fun (t2118 : Int) => qW X d yX12_levelBy cX12_levelBy 8 (some .int) 59 [(0, qr 70), (1, qi x1), (2, qi t2118), (3, qi x3), (4, qi x4), (5, qi (S 72 (Int.toNat (43 + x4))))] [] S Q) h (fun t2118 h => ?_) (fun t2118 h hk3866 => ?_)
      · try dsimp only at h
        refine q_iload dX12_levelBy_59 rfl rfl ?_
        refine q_iload_n dX12_levelBy_61 rfl rfl ?_
        refine q_jn (G := fun (t2125 : Int) => qW X d yX12_levelBy cX12_levelBy 8 (some .int) 87 [(0, qr 70), (1, qi x1), (2, qi t2118), (3, qi t2125), (4, qi x4)] [] S Q) h (fun t2125 h => ?_) (fun t2125 h hk3867 => ?_)
        · try dsimp only at h
          refine q_iinc (lv' := [(4, qi (x4 + 1)), (0, qr 70), (1, qi x1), (2, qi t2118), (3, qi t2125)]) dX12_levelBy_87 (by decide) rfl rfl rfl ?_
          refine q_goto (pc' := 7) dX12_levelBy_90 (by decide) ?_
          exact q_pick [1, 2, 3, 4, 0] rfl (ih x1 t2118 t2125 (x4 + 1) _ _ h hE)
        · skip
          obtain ⟨c2119, h⟩ := qk_some h
          obtain ⟨c2120, h⟩ := qk_some h
          refine q_icmp_le (tgt := 87) dX12_levelBy_62 (by decide) rfl (qRb_R c2119) (qRb_R c2120) (fun g => ?_) (fun g => ?_)
          · rw [if_pos (show (S 72 (Int.toNat (43 + x4))) ≤ x1 from g)] at h
            cases h
            exact q_pick [0, 1, 2, 3, 4] rfl hk3867
          · rw [if_neg (show ¬ ((S 72 (Int.toNat (43 + x4))) ≤ x1) from g)] at h
            refine q_iload_n dX12_levelBy_65 rfl rfl ?_
            refine q_iconst dX12_levelBy_66 rfl rfl ?_
            obtain ⟨c2121, h⟩ := qk_some h
            refine q_icmp_eq (tgt := 84) dX12_levelBy_67 (by decide) rfl (qRb_R c2121) ⟨by decide, by decide⟩ (fun g => ?_) (fun g => ?_)
            · rw [if_pos (show x3 = (-1) from g)] at h
              refine q_iload dX12_levelBy_84 rfl rfl ?_
              refine q_istore_n (lv' := [(3, qi x4), (0, qr 70), (1, qi x1), (2, qi t2118), (4, qi x4), (5, qi (S 72 (Int.toNat (43 + x4))))]) dX12_levelBy_86 (by decide) rfl rfl ?_
              cases h
              exact q_pick [1, 2, 3, 0, 4] rfl hk3867
            · rw [if_neg (show ¬ (x3 = (-1)) from g)] at h
              refine q_iload dX12_levelBy_70 rfl rfl ?_
              refine q_aload_n dX12_levelBy_72 rfl rfl ?_
              refine q_getA dX12_levelBy_73 fl_X12_13 (hL 70 (by decide)) sh_70 (by decide) rfl rfl ?_
              refine q_bipush dX12_levelBy_76 (by decide) rfl ?_
              refine q_iload_n dX12_levelBy_78 rfl rfl ?_
              refine q_iadd dX12_levelBy_79 rfl ?_
              obtain ⟨c2122, h⟩ := qk_some h
              refine q_iaload dX12_levelBy_80 (hL 72 (by decide)) sh_72 (qIx_0 c2122) (qIx_1 c2122) rfl ?_
              obtain ⟨c2123, h⟩ := qk_some h
              obtain ⟨c2124, h⟩ := qk_some h
              refine q_icmp_ge (tgt := 87) dX12_levelBy_81 (by decide) rfl (qRb_R c2123) (qRb_R c2124) (fun g => ?_) (fun g => ?_)
              · rw [if_pos (show (S 72 (Int.toNat (43 + x3))) ≤ (S 72 (Int.toNat (43 + x4))) from g)] at h
                cases h
                exact q_pick [0, 1, 2, 3, 4] rfl hk3867
              · rw [if_neg (show ¬ ((S 72 (Int.toNat (43 + x3))) ≤ (S 72 (Int.toNat (43 + x4)))) from g)] at h
                refine q_iload dX12_levelBy_84 rfl rfl ?_
                refine q_istore_n (lv' := [(3, qi x4), (0, qr 70), (1, qi x1), (2, qi t2118), (4, qi x4), (5, qi (S 72 (Int.toNat (43 + x4))))]) dX12_levelBy_86 (by decide) rfl rfl ?_
                cases h
                exact q_pick [1, 2, 3, 0, 4] rfl hk3867
      · skip
        obtain ⟨c2112, h⟩ := qk_some h
        obtain ⟨c2113, h⟩ := qk_some h
        refine q_icmp_gt (tgt := 59) dX12_levelBy_34 (by decide) rfl (qRb_R c2112) (qRb_R c2113) (fun g => ?_) (fun g => ?_)
        · rw [if_pos (show x1 < (S 72 (Int.toNat (43 + x4))) from g)] at h
          cases h
          exact q_pick [1, 2, 3, 4, 5, 0] rfl hk3866
        · rw [if_neg (show ¬ (x1 < (S 72 (Int.toNat (43 + x4)))) from g)] at h
          refine q_iload_n dX12_levelBy_37 rfl rfl ?_
          refine q_iconst dX12_levelBy_38 rfl rfl ?_
          obtain ⟨c2114, h⟩ := qk_some h
          refine q_icmp_eq (tgt := 56) dX12_levelBy_39 (by decide) rfl (qRb_R c2114) ⟨by decide, by decide⟩ (fun g => ?_) (fun g => ?_)
          · rw [if_pos (show x2 = (-1) from g)] at h
            refine q_iload dX12_levelBy_56 rfl rfl ?_
            refine q_istore_n (lv' := [(2, qi x4), (5, qi (S 72 (Int.toNat (43 + x4)))), (0, qr 70), (1, qi x1), (3, qi x3), (4, qi x4)]) dX12_levelBy_58 (by decide) rfl rfl ?_
            cases h
            exact q_pick [2, 3, 0, 4, 5, 1] rfl hk3866
          · rw [if_neg (show ¬ (x2 = (-1)) from g)] at h
            refine q_iload dX12_levelBy_42 rfl rfl ?_
            refine q_aload_n dX12_levelBy_44 rfl rfl ?_
            refine q_getA dX12_levelBy_45 fl_X12_13 (hL 70 (by decide)) sh_70 (by decide) rfl rfl ?_
            refine q_bipush dX12_levelBy_48 (by decide) rfl ?_
            refine q_iload_n dX12_levelBy_50 rfl rfl ?_
            refine q_iadd dX12_levelBy_51 rfl ?_
            obtain ⟨c2115, h⟩ := qk_some h
            refine q_iaload dX12_levelBy_52 (hL 72 (by decide)) sh_72 (qIx_0 c2115) (qIx_1 c2115) rfl ?_
            obtain ⟨c2116, h⟩ := qk_some h
            obtain ⟨c2117, h⟩ := qk_some h
            refine q_icmp_le (tgt := 59) dX12_levelBy_53 (by decide) rfl (qRb_R c2116) (qRb_R c2117) (fun g => ?_) (fun g => ?_)
            · rw [if_pos (show (S 72 (Int.toNat (43 + x4))) ≤ (S 72 (Int.toNat (43 + x2))) from g)] at h
              cases h
              exact q_pick [1, 2, 3, 4, 5, 0] rfl hk3866
            · rw [if_neg (show ¬ ((S 72 (Int.toNat (43 + x4))) ≤ (S 72 (Int.toNat (43 + x2)))) from g)] at h
              refine q_iload dX12_levelBy_56 rfl rfl ?_
              refine q_istore_n (lv' := [(2, qi x4), (5, qi (S 72 (Int.toNat (43 + x4)))), (0, qr 70), (1, qi x1), (3, qi x3), (4, qi x4)]) dX12_levelBy_58 (by decide) rfl rfl ?_
              cases h
              exact q_pick [2, 3, 0, 4, 5, 1] rfl hk3866
set_option maxRecDepth 20000 in
theorem M_levelBy_ok {X : qX} (hL : ∀ c, c < 93 → c ∈ qLs X) (d : Nat) (a1 : Int) (S : qSto) (o : (Int × qSto)) (h : M_levelBy a1 S = some o) (Q : Option qV → qSto → Prop) (hQ : Q (some (qi o.1)) o.2) : qC X d yX12_levelBy cX12_levelBy 8 (some .int) [qr 70, qi a1] S Q := by
  refine q_entry (lv := [(0, qr 70), (1, qi a1)]) pn_X12 (Nat.le_of_ble_eq_true rfl) rfl ?_
  unfold M_levelBy at h
  refine q_iconst dX12_levelBy_0 rfl rfl ?_
  refine q_istore_n (lv' := [(2, qi (-1)), (0, qr 70), (1, qi a1)]) dX12_levelBy_1 (by decide) rfl rfl ?_
  refine q_iconst dX12_levelBy_2 rfl rfl ?_
  refine q_istore_n (lv' := [(3, qi (-1)), (2, qi (-1)), (0, qr 70), (1, qi a1)]) dX12_levelBy_3 (by decide) rfl rfl ?_
  refine q_iconst dX12_levelBy_4 rfl rfl ?_
  refine q_istore (lv' := [(4, qi 0), (3, qi (-1)), (2, qi (-1)), (0, qr 70), (1, qi a1)]) dX12_levelBy_5 (by decide) rfl rfl ?_
  obtain ⟨q2126, h2127, h⟩ := Option.bind_eq_some_iff.mp h
  refine q_pick [3, 4, 2, 1, 0] rfl (M_levelBy_L7_ok hL d qF a1 (-1) (-1) 0 _ _ h2127 ?_)
  refine q_iload_n dX12_levelBy_93 rfl rfl ?_
  refine q_iconst dX12_levelBy_94 rfl rfl ?_
  obtain ⟨c2128, h⟩ := qk_some h
  refine q_icmp_ne (tgt := 117) dX12_levelBy_95 (by decide) rfl (qRb_R c2128) ⟨by decide, by decide⟩ (fun g => ?_) (fun g => ?_)
  · rw [if_neg (show ¬ (q2126.1 = (-1)) from g)] at h
    refine q_aload_n dX12_levelBy_117 rfl rfl ?_
    refine q_getA dX12_levelBy_118 fl_X12_13 (hL 70 (by decide)) sh_70 (by decide) rfl rfl ?_
    refine q_bipush dX12_levelBy_121 (by decide) rfl ?_
    refine q_iload_n dX12_levelBy_123 rfl rfl ?_
    refine q_iadd dX12_levelBy_124 rfl ?_
    obtain ⟨c2129, h⟩ := qk_some h
    refine q_iaload dX12_levelBy_125 (hL 72 (by decide)) sh_72 (qIx_0 c2129) (qIx_1 c2129) rfl ?_
    refine q_istore (lv' := [(4, qi (q2126.2.2 72 (Int.toNat (73 + q2126.1)))), (0, qr 70), (1, qi a1), (2, qi q2126.1), (3, qi q2126.2.1)]) dX12_levelBy_126 (by decide) rfl rfl ?_
    refine q_iload_n dX12_levelBy_128 rfl rfl ?_
    refine q_iconst dX12_levelBy_129 rfl rfl ?_
    obtain ⟨c2130, h⟩ := qk_some h
    refine q_icmp_ne (tgt := 136) dX12_levelBy_130 (by decide) rfl (qRb_R c2130) ⟨by decide, by decide⟩ (fun g => ?_) (fun g => ?_)
    · rw [if_neg (show ¬ (q2126.2.1 = (-1)) from g)] at h
      refine q_aload_n dX12_levelBy_136 rfl rfl ?_
      refine q_getA dX12_levelBy_137 fl_X12_13 (hL 70 (by decide)) sh_70 (by decide) rfl rfl ?_
      refine q_bipush dX12_levelBy_140 (by decide) rfl ?_
      refine q_iload_n dX12_levelBy_142 rfl rfl ?_
      refine q_iadd dX12_levelBy_143 rfl ?_
      obtain ⟨c2131, h⟩ := qk_some h
      refine q_iaload dX12_levelBy_144 (hL 72 (by decide)) sh_72 (qIx_0 c2131) (qIx_1 c2131) rfl ?_
      refine q_aload_n dX12_levelBy_145 rfl rfl ?_
      refine q_getA dX12_levelBy_146 fl_X12_13 (hL 70 (by decide)) sh_70 (by decide) rfl rfl ?_
      refine q_bipush dX12_levelBy_149 (by decide) rfl ?_
      refine q_iload_n dX12_levelBy_151 rfl rfl ?_
      refine q_iadd dX12_levelBy_152 rfl ?_
      obtain ⟨c2132, h⟩ := qk_some h
      refine q_iaload dX12_levelBy_153 (hL 72 (by decide)) sh_72 (qIx_0 c2132) (qIx_1 c2132) rfl ?_
      refine q_isub dX12_levelBy_154 rfl ?_
      refine q_istore (lv' := [(5, qi ((q2126.2.2 72 (Int.toNat (43 + q2126.2.1))) - (q2126.2.2 72 (Int.toNat (43 + q2126.1))))), (4, qi (q2126.2.2 72 (Int.toNat (73 + q2126.1)))), (0, qr 70), (1, qi a1), (2, qi q2126.1), (3, qi q2126.2.1)]) dX12_levelBy_155 (by decide) rfl rfl ?_
      refine q_aload_n dX12_levelBy_157 rfl rfl ?_
      refine q_getA dX12_levelBy_158 fl_X12_13 (hL 70 (by decide)) sh_70 (by decide) rfl rfl ?_
      refine q_bipush dX12_levelBy_161 (by decide) rfl ?_
      refine q_iload_n dX12_levelBy_163 rfl rfl ?_
      refine q_iadd dX12_levelBy_164 rfl ?_
      obtain ⟨c2133, h⟩ := qk_some h
      refine q_iaload dX12_levelBy_165 (hL 72 (by decide)) sh_72 (qIx_0 c2133) (qIx_1 c2133) rfl ?_
      refine q_iload dX12_levelBy_166 rfl rfl ?_
      refine q_isub dX12_levelBy_168 rfl ?_
      refine q_iload_n dX12_levelBy_169 rfl rfl ?_
      refine q_aload_n dX12_levelBy_170 rfl rfl ?_
      refine q_getA dX12_levelBy_171 fl_X12_13 (hL 70 (by decide)) sh_70 (by decide) rfl rfl ?_
      refine q_bipush dX12_levelBy_174 (by decide) rfl ?_
      refine q_iload_n dX12_levelBy_176 rfl rfl ?_
      refine q_iadd dX12_levelBy_177 rfl ?_
      obtain ⟨c2134, h⟩ := qk_some h
      refine q_iaload dX12_levelBy_178 (hL 72 (by decide)) sh_72 (qIx_0 c2134) (qIx_1 c2134) rfl ?_
      refine q_isub dX12_levelBy_179 rfl ?_
      refine q_imul dX12_levelBy_180 rfl ?_
      refine q_istore (lv' := [(6, qi (((q2126.2.2 72 (Int.toNat (73 + q2126.2.1))) - (q2126.2.2 72 (Int.toNat (73 + q2126.1)))) * (a1 - (q2126.2.2 72 (Int.toNat (43 + q2126.1)))))), (5, qi ((q2126.2.2 72 (Int.toNat (43 + q2126.2.1))) - (q2126.2.2 72 (Int.toNat (43 + q2126.1))))), (4, qi (q2126.2.2 72 (Int.toNat (73 + q2126.1)))), (0, qr 70), (1, qi a1), (2, qi q2126.1), (3, qi q2126.2.1)]) dX12_levelBy_181 (by decide) rfl rfl ?_
      refine q_iload dX12_levelBy_183 rfl rfl ?_
      refine q_iload dX12_levelBy_185 rfl rfl ?_
      obtain ⟨c2135, h⟩ := qk_some h
      obtain ⟨c2136, h⟩ := qk_some h
      obtain ⟨c2137, h⟩ := qk_some h
      refine q_idiv dX12_levelBy_187 (qRb_R c2135) (qRb_R c2136) (qNz_ne c2137) rfl ?_
      refine q_istore (lv' := [(7, qi (Int.tdiv (((q2126.2.2 72 (Int.toNat (73 + q2126.2.1))) - (q2126.2.2 72 (Int.toNat (73 + q2126.1)))) * (a1 - (q2126.2.2 72 (Int.toNat (43 + q2126.1))))) ((q2126.2.2 72 (Int.toNat (43 + q2126.2.1))) - (q2126.2.2 72 (Int.toNat (43 + q2126.1)))))), (6, qi (((q2126.2.2 72 (Int.toNat (73 + q2126.2.1))) - (q2126.2.2 72 (Int.toNat (73 + q2126.1)))) * (a1 - (q2126.2.2 72 (Int.toNat (43 + q2126.1)))))), (5, qi ((q2126.2.2 72 (Int.toNat (43 + q2126.2.1))) - (q2126.2.2 72 (Int.toNat (43 + q2126.1))))), (4, qi (q2126.2.2 72 (Int.toNat (73 + q2126.1)))), (0, qr 70), (1, qi a1), (2, qi q2126.1), (3, qi q2126.2.1)]) dX12_levelBy_188 (by decide) rfl rfl ?_
      refine q_iload dX12_levelBy_190 rfl rfl ?_
      refine q_iload dX12_levelBy_192 rfl rfl ?_
      refine q_iload dX12_levelBy_194 rfl rfl ?_
      refine q_imul dX12_levelBy_196 rfl ?_
      refine q_iload dX12_levelBy_197 rfl rfl ?_
      obtain ⟨c2138, h⟩ := qk_some h
      obtain ⟨c2139, h⟩ := qk_some h
      refine q_icmp_le (tgt := 209) dX12_levelBy_199 (by decide) rfl (qRb_R c2138) (qRb_R c2139) (fun g => ?_) (fun g => ?_)
      · rw [if_pos (show ((Int.tdiv (((q2126.2.2 72 (Int.toNat (73 + q2126.2.1))) - (q2126.2.2 72 (Int.toNat (73 + q2126.1)))) * (a1 - (q2126.2.2 72 (Int.toNat (43 + q2126.1))))) ((q2126.2.2 72 (Int.toNat (43 + q2126.2.1))) - (q2126.2.2 72 (Int.toNat (43 + q2126.1))))) * ((q2126.2.2 72 (Int.toNat (43 + q2126.2.1))) - (q2126.2.2 72 (Int.toNat (43 + q2126.1))))) ≤ (((q2126.2.2 72 (Int.toNat (73 + q2126.2.1))) - (q2126.2.2 72 (Int.toNat (73 + q2126.1)))) * (a1 - (q2126.2.2 72 (Int.toNat (43 + q2126.1))))) from g)] at h
        refine q_iload dX12_levelBy_209 rfl rfl ?_
        refine q_iadd dX12_levelBy_211 rfl ?_
        cases h
        exact q_ireturn dX12_levelBy_212 rfl hQ
      · rw [if_neg (show ¬ (((Int.tdiv (((q2126.2.2 72 (Int.toNat (73 + q2126.2.1))) - (q2126.2.2 72 (Int.toNat (73 + q2126.1)))) * (a1 - (q2126.2.2 72 (Int.toNat (43 + q2126.1))))) ((q2126.2.2 72 (Int.toNat (43 + q2126.2.1))) - (q2126.2.2 72 (Int.toNat (43 + q2126.1))))) * ((q2126.2.2 72 (Int.toNat (43 + q2126.2.1))) - (q2126.2.2 72 (Int.toNat (43 + q2126.1))))) ≤ (((q2126.2.2 72 (Int.toNat (73 + q2126.2.1))) - (q2126.2.2 72 (Int.toNat (73 + q2126.1)))) * (a1 - (q2126.2.2 72 (Int.toNat (43 + q2126.1)))))) from g)] at h
        refine q_iload dX12_levelBy_202 rfl rfl ?_
        refine q_iconst dX12_levelBy_204 rfl rfl ?_
        refine q_isub dX12_levelBy_205 rfl ?_
        refine q_goto (pc' := 211) dX12_levelBy_206 (by decide) ?_
        refine q_iadd dX12_levelBy_211 rfl ?_
        cases h
        exact q_ireturn dX12_levelBy_212 rfl hQ
    · rw [if_pos (show q2126.2.1 = (-1) from g)] at h
      refine q_iload dX12_levelBy_133 rfl rfl ?_
      cases h
      exact q_ireturn dX12_levelBy_135 rfl hQ
  · rw [if_pos (show q2126.1 = (-1) from g)] at h
    refine q_iload_n dX12_levelBy_98 rfl rfl ?_
    refine q_iconst dX12_levelBy_99 rfl rfl ?_
    obtain ⟨c2140, h⟩ := qk_some h
    refine q_icmp_ne (tgt := 107) dX12_levelBy_100 (by decide) rfl (qRb_R c2140) ⟨by decide, by decide⟩ (fun g => ?_) (fun g => ?_)
    · rw [if_neg (show ¬ (q2126.2.1 = (-1)) from g)] at h
      refine q_aload_n dX12_levelBy_107 rfl rfl ?_
      refine q_getA dX12_levelBy_108 fl_X12_13 (hL 70 (by decide)) sh_70 (by decide) rfl rfl ?_
      refine q_bipush dX12_levelBy_111 (by decide) rfl ?_
      refine q_iload_n dX12_levelBy_113 rfl rfl ?_
      refine q_iadd dX12_levelBy_114 rfl ?_
      obtain ⟨c2141, h⟩ := qk_some h
      refine q_iaload dX12_levelBy_115 (hL 72 (by decide)) sh_72 (qIx_0 c2141) (qIx_1 c2141) rfl ?_
      cases h
      exact q_ireturn dX12_levelBy_116 rfl hQ
    · rw [if_pos (show q2126.2.1 = (-1) from g)] at h
      refine q_iconst dX12_levelBy_103 rfl rfl ?_
      refine q_goto (pc' := 116) dX12_levelBy_104 (by decide) ?_
      cases h
      exact q_ireturn dX12_levelBy_116 rfl hQ
set_option maxRecDepth 20000 in
theorem M_stands_L2_ok {X : qX} (hL : ∀ c, c < 93 → c ∈ qLs X) (d : Nat) {Q : Option qV → qSto → Prop} : ∀ (n : Nat) (x1 : Int) (S : qSto) (o : qSto), M_stands_L2 n x1 S = some o → (qW X (d + 1) yX12_stands cX12_stands 2 none 27 [(0, qr 70)] [] o Q) → qW X (d + 1) yX12_stands cX12_stands 2 none 2 [(0, qr 70), (1, qi x1)] [] S Q := by
  intro n
  induction n with
  | zero =>
    intro x1 S o h
    simp [M_stands_L2] at h
  | succ n ih =>
    intro x1 S o h hE
    rw [M_stands_L2] at h
    refine q_iload_n dX12_stands_2 rfl rfl ?_
    refine q_sipush dX12_stands_3 (by decide) rfl ?_
    obtain ⟨c2081, h⟩ := qk_some h
    refine q_icmp_ge (tgt := 27) dX12_stands_6 (by decide) rfl (qRb_R c2081) ⟨by decide, by decide⟩ (fun g => ?_) (fun g => ?_)
    · rw [if_pos (show 250 ≤ x1 from g)] at h
      cases h
      exact q_pick [0] rfl (hE)
    · rw [if_neg (show ¬ (250 ≤ x1) from g)] at h
      refine q_aload_n dX12_stands_9 rfl rfl ?_
      refine q_getA dX12_stands_10 fl_X12_13 (hL 70 (by decide)) sh_70 (by decide) rfl rfl ?_
      refine q_iload_n dX12_stands_13 rfl rfl ?_
      refine q_aload_n dX12_stands_14 rfl rfl ?_
      refine q_getA dX12_stands_15 fl_X12_7 (hL 70 (by decide)) sh_70 (by decide) rfl rfl ?_
      refine q_iload_n dX12_stands_18 rfl rfl ?_
      obtain ⟨c2082, h⟩ := qk_some h
      refine q_iaload dX12_stands_19 (hL 71 (by decide)) sh_71 (qIx_0 c2082) (qIx_1 c2082) rfl ?_
      obtain ⟨c2083, h⟩ := qk_some h
      refine q_iastore dX12_stands_20 (hL 72 (by decide)) sh_72 (qIx_0 c2083) (qIx_1 c2083) rfl ?_
      refine q_iinc (lv' := [(1, qi (x1 + 1)), (0, qr 70)]) dX12_stands_21 (by decide) rfl rfl rfl ?_
      refine q_goto (pc' := 2) dX12_stands_24 (by decide) ?_
      exact q_pick [1, 0] rfl (ih (x1 + 1) _ _ h hE)
set_option maxRecDepth 20000 in
theorem M_stands_L29_ok {X : qX} (hL : ∀ c, c < 93 → c ∈ qLs X) (d : Nat) {Q : Option qV → qSto → Prop} : ∀ (n : Nat) (x1 : Int) (S : qSto) (o : qSto), M_stands_L29 n x1 S = some o → (qW X (d + 1) yX12_stands cX12_stands 2 none 53 [(0, qr 70)] [] o Q) → qW X (d + 1) yX12_stands cX12_stands 2 none 29 [(0, qr 70), (1, qi x1)] [] S Q := by
  intro n
  induction n with
  | zero =>
    intro x1 S o h
    simp [M_stands_L29] at h
  | succ n ih =>
    intro x1 S o h hE
    rw [M_stands_L29] at h
    refine q_iload_n dX12_stands_29 rfl rfl ?_
    refine q_bipush dX12_stands_30 (by decide) rfl ?_
    obtain ⟨c2086, h⟩ := qk_some h
    refine q_icmp_ge (tgt := 53) dX12_stands_32 (by decide) rfl (qRb_R c2086) ⟨by decide, by decide⟩ (fun g => ?_) (fun g => ?_)
    · rw [if_pos (show 14 ≤ x1 from g)] at h
      cases h
      exact q_pick [0] rfl (hE)
    · rw [if_neg (show ¬ (14 ≤ x1) from g)] at h
      refine q_aload_n dX12_stands_35 rfl rfl ?_
      refine q_getA dX12_stands_36 fl_X12_20 (hL 70 (by decide)) sh_70 (by decide) rfl rfl ?_
      refine q_iload_n dX12_stands_39 rfl rfl ?_
      refine q_aload_n dX12_stands_40 rfl rfl ?_
      refine q_getA dX12_stands_41 fl_X12_16 (hL 70 (by decide)) sh_70 (by decide) rfl rfl ?_
      refine q_iload_n dX12_stands_44 rfl rfl ?_
      obtain ⟨c2087, h⟩ := qk_some h
      refine q_laload dX12_stands_45 (hL 73 (by decide)) sh_73 (qIx_0 c2087) (qIx_1 c2087) rfl ?_
      obtain ⟨c2088, h⟩ := qk_some h
      refine q_lastore dX12_stands_46 (hL 74 (by decide)) sh_74 (qIx_0 c2088) (qIx_1 c2088) rfl ?_
      refine q_iinc (lv' := [(1, qi (x1 + 1)), (0, qr 70)]) dX12_stands_47 (by decide) rfl rfl rfl ?_
      refine q_goto (pc' := 29) dX12_stands_50 (by decide) ?_
      exact q_pick [1, 0] rfl (ih (x1 + 1) _ _ h hE)
set_option maxRecDepth 20000 in
theorem M_stands_L55_ok {X : qX} (hL : ∀ c, c < 93 → c ∈ qLs X) (d : Nat) {Q : Option qV → qSto → Prop} : ∀ (n : Nat) (x1 : Int) (S : qSto) (o : qSto), M_stands_L55 n x1 S = some o → (qW X (d + 1) yX12_stands cX12_stands 2 none 79 [(0, qr 70)] [] o Q) → qW X (d + 1) yX12_stands cX12_stands 2 none 55 [(0, qr 70), (1, qi x1)] [] S Q := by
  intro n
  induction n with
  | zero =>
    intro x1 S o h
    simp [M_stands_L55] at h
  | succ n ih =>
    intro x1 S o h hE
    rw [M_stands_L55] at h
    refine q_iload_n dX12_stands_55 rfl rfl ?_
    refine q_sipush dX12_stands_56 (by decide) rfl ?_
    obtain ⟨c2091, h⟩ := qk_some h
    refine q_icmp_gt (tgt := 79) dX12_stands_59 (by decide) rfl (qRb_R c2091) ⟨by decide, by decide⟩ (fun g => ?_) (fun g => ?_)
    · rw [if_pos (show 999 < x1 from g)] at h
      cases h
      exact q_pick [0] rfl (hE)
    · rw [if_neg (show ¬ (999 < x1) from g)] at h
      refine q_aload_n dX12_stands_62 rfl rfl ?_
      refine q_getA dX12_stands_63 fl_X12_30 (hL 70 (by decide)) sh_70 (by decide) rfl rfl ?_
      refine q_iload_n dX12_stands_66 rfl rfl ?_
      refine q_aload_n dX12_stands_67 rfl rfl ?_
      refine q_iload_n dX12_stands_68 rfl rfl ?_
      obtain ⟨q2103, h2104, h⟩ := Option.bind_eq_some_iff.mp h
      refine q_callVi (as := [qi x1]) (c := 70) dX12_stands_69 ml_X12_246 rfl rfl (hL 70 (by decide)) sh_70 rfl rfl (Nat.le_of_ble_eq_true rfl) (M_depthBy_ok hL d x1 _ _ h2104) rfl ?_
      obtain ⟨c2105, h⟩ := qk_some h
      refine q_iastore dX12_stands_72 (hL 76 (by decide)) sh_76 (qIx_0 c2105) (qIx_1 c2105) rfl ?_
      refine q_iinc (lv' := [(1, qi (x1 + 1)), (0, qr 70)]) dX12_stands_73 (by decide) rfl rfl rfl ?_
      refine q_goto (pc' := 55) dX12_stands_76 (by decide) ?_
      exact q_pick [1, 0] rfl (ih (x1 + 1) _ _ h hE)
set_option maxRecDepth 20000 in
theorem M_stands_L81_ok {X : qX} (hL : ∀ c, c < 93 → c ∈ qLs X) (d : Nat) {Q : Option qV → qSto → Prop} : ∀ (n : Nat) (x1 : Int) (S : qSto) (o : qSto), M_stands_L81 n x1 S = some o → (qW X (d + 1) yX12_stands cX12_stands 2 none 105 [(0, qr 70)] [] o Q) → qW X (d + 1) yX12_stands cX12_stands 2 none 81 [(0, qr 70), (1, qi x1)] [] S Q := by
  intro n
  induction n with
  | zero =>
    intro x1 S o h
    simp [M_stands_L81] at h
  | succ n ih =>
    intro x1 S o h hE
    rw [M_stands_L81] at h
    refine q_iload_n dX12_stands_81 rfl rfl ?_
    refine q_sipush dX12_stands_82 (by decide) rfl ?_
    obtain ⟨c2108, h⟩ := qk_some h
    refine q_icmp_ge (tgt := 105) dX12_stands_85 (by decide) rfl (qRb_R c2108) ⟨by decide, by decide⟩ (fun g => ?_) (fun g => ?_)
    · rw [if_pos (show 336 ≤ x1 from g)] at h
      cases h
      exact q_pick [0] rfl (hE)
    · rw [if_neg (show ¬ (336 ≤ x1) from g)] at h
      refine q_aload_n dX12_stands_88 rfl rfl ?_
      refine q_getA dX12_stands_89 fl_X12_33 (hL 70 (by decide)) sh_70 (by decide) rfl rfl ?_
      refine q_iload_n dX12_stands_92 rfl rfl ?_
      refine q_aload_n dX12_stands_93 rfl rfl ?_
      refine q_iload_n dX12_stands_94 rfl rfl ?_
      obtain ⟨q2142, h2143, h⟩ := Option.bind_eq_some_iff.mp h
      refine q_callVi (as := [qi x1]) (c := 70) dX12_stands_95 ml_X12_249 rfl rfl (hL 70 (by decide)) sh_70 rfl rfl (Nat.le_of_ble_eq_true rfl) (M_levelBy_ok hL d x1 _ _ h2143) rfl ?_
      obtain ⟨c2144, h⟩ := qk_some h
      refine q_iastore dX12_stands_98 (hL 77 (by decide)) sh_77 (qIx_0 c2144) (qIx_1 c2144) rfl ?_
      refine q_iinc (lv' := [(1, qi (x1 + 1)), (0, qr 70)]) dX12_stands_99 (by decide) rfl rfl rfl ?_
      refine q_goto (pc' := 81) dX12_stands_102 (by decide) ?_
      exact q_pick [1, 0] rfl (ih (x1 + 1) _ _ h hE)
set_option maxRecDepth 20000 in
theorem M_stands_L107_ok {X : qX} (hL : ∀ c, c < 93 → c ∈ qLs X) (d : Nat) {Q : Option qV → qSto → Prop} : ∀ (n : Nat) (x1 : Int) (S : qSto) (o : qSto), M_stands_L107 n x1 S = some o → (qW X (d + 1) yX12_stands cX12_stands 2 none 126 [(0, qr 70)] [] o Q) → qW X (d + 1) yX12_stands cX12_stands 2 none 107 [(0, qr 70), (1, qi x1)] [] S Q := by
  intro n
  induction n with
  | zero =>
    intro x1 S o h
    simp [M_stands_L107] at h
  | succ n ih =>
    intro x1 S o h hE
    rw [M_stands_L107] at h
    refine q_iload_n dX12_stands_107 rfl rfl ?_
    refine q_bipush dX12_stands_108 (by decide) rfl ?_
    obtain ⟨c2147, h⟩ := qk_some h
    refine q_icmp_ge (tgt := 126) dX12_stands_110 (by decide) rfl (qRb_R c2147) ⟨by decide, by decide⟩ (fun g => ?_) (fun g => ?_)
    · rw [if_pos (show 14 ≤ x1 from g)] at h
      cases h
      exact q_pick [0] rfl (hE)
    · rw [if_neg (show ¬ (14 ≤ x1) from g)] at h
      refine q_aload_n dX12_stands_113 rfl rfl ?_
      refine q_getA dX12_stands_114 fl_X12_42 (hL 70 (by decide)) sh_70 (by decide) rfl rfl ?_
      refine q_iload_n dX12_stands_117 rfl rfl ?_
      refine q_iconst dX12_stands_118 rfl rfl ?_
      obtain ⟨c2148, h⟩ := qk_some h
      refine q_iastore dX12_stands_119 (hL 80 (by decide)) sh_80 (qIx_0 c2148) (qIx_1 c2148) rfl ?_
      refine q_iinc (lv' := [(1, qi (x1 + 1)), (0, qr 70)]) dX12_stands_120 (by decide) rfl rfl rfl ?_
      refine q_goto (pc' := 107) dX12_stands_123 (by decide) ?_
      exact q_pick [1, 0] rfl (ih (x1 + 1) _ _ h hE)
set_option maxRecDepth 20000 in
theorem M_stands_L133_ok {X : qX} (hL : ∀ c, c < 93 → c ∈ qLs X) (d : Nat) {Q : Option qV → qSto → Prop} : ∀ (n : Nat) (x1 : Int) (S : qSto) (o : qSto), M_stands_L133 n x1 S = some o → (qW X (d + 1) yX12_stands cX12_stands 2 none 151 [] [] o Q) → qW X (d + 1) yX12_stands cX12_stands 2 none 133 [(0, qr 70), (1, qi x1)] [] S Q := by
  intro n
  induction n with
  | zero =>
    intro x1 S o h
    simp [M_stands_L133] at h
  | succ n ih =>
    intro x1 S o h hE
    rw [M_stands_L133] at h
    refine q_iload_n dX12_stands_133 rfl rfl ?_
    refine q_iconst dX12_stands_134 rfl rfl ?_
    obtain ⟨c2151, h⟩ := qk_some h
    refine q_icmp_ge (tgt := 151) dX12_stands_135 (by decide) rfl (qRb_R c2151) ⟨by decide, by decide⟩ (fun g => ?_) (fun g => ?_)
    · rw [if_pos (show 4 ≤ x1 from g)] at h
      cases h
      exact q_pick [] rfl (hE)
    · rw [if_neg (show ¬ (4 ≤ x1) from g)] at h
      refine q_aload_n dX12_stands_138 rfl rfl ?_
      refine q_getA dX12_stands_139 fl_X12_60 (hL 70 (by decide)) sh_70 (by decide) rfl rfl ?_
      refine q_iload_n dX12_stands_142 rfl rfl ?_
      refine q_iconst dX12_stands_143 rfl rfl ?_
      obtain ⟨c2152, h⟩ := qk_some h
      refine q_zastore dX12_stands_144 (hL 86 (by decide)) sh_86 (qIx_0 c2152) (qIx_1 c2152) (by decide) rfl ?_
      refine q_iinc (lv' := [(1, qi (x1 + 1)), (0, qr 70)]) dX12_stands_145 (by decide) rfl rfl rfl ?_
      refine q_goto (pc' := 133) dX12_stands_148 (by decide) ?_
      exact q_pick [1, 0] rfl (ih (x1 + 1) _ _ h hE)
set_option maxRecDepth 20000 in
theorem M_stands_ok {X : qX} (hL : ∀ c, c < 93 → c ∈ qLs X) (d : Nat) (S : qSto) (o : qSto) (h : M_stands S = some o) (Q : Option qV → qSto → Prop) (hQ : Q none o) : qC X (d + 1) yX12_stands cX12_stands 2 none [qr 70] S Q := by
  refine q_entry (lv := [(0, qr 70)]) pn_X12 (Nat.le_of_ble_eq_true rfl) rfl ?_
  unfold M_stands at h
  refine q_iconst dX12_stands_0 rfl rfl ?_
  refine q_istore_n (lv' := [(1, qi 0), (0, qr 70)]) dX12_stands_1 (by decide) rfl rfl ?_
  obtain ⟨q2084, h2085, h⟩ := Option.bind_eq_some_iff.mp h
  refine q_pick [1, 0] rfl (M_stands_L2_ok hL d qF 0 _ _ h2085 ?_)
  refine q_iconst dX12_stands_27 rfl rfl ?_
  refine q_istore_n (lv' := [(1, qi 0), (0, qr 70)]) dX12_stands_28 (by decide) rfl rfl ?_
  obtain ⟨q2089, h2090, h⟩ := Option.bind_eq_some_iff.mp h
  refine q_pick [1, 0] rfl (M_stands_L29_ok hL d qF 0 _ _ h2090 ?_)
  refine q_iconst dX12_stands_53 rfl rfl ?_
  refine q_istore_n (lv' := [(1, qi 0), (0, qr 70)]) dX12_stands_54 (by decide) rfl rfl ?_
  obtain ⟨q2106, h2107, h⟩ := Option.bind_eq_some_iff.mp h
  refine q_pick [1, 0] rfl (M_stands_L55_ok hL d qF 0 _ _ h2107 ?_)
  refine q_iconst dX12_stands_79 rfl rfl ?_
  refine q_istore_n (lv' := [(1, qi 0), (0, qr 70)]) dX12_stands_80 (by decide) rfl rfl ?_
  obtain ⟨q2145, h2146, h⟩ := Option.bind_eq_some_iff.mp h
  refine q_pick [1, 0] rfl (M_stands_L81_ok hL d qF 0 _ _ h2146 ?_)
  refine q_iconst dX12_stands_105 rfl rfl ?_
  refine q_istore_n (lv' := [(1, qi 0), (0, qr 70)]) dX12_stands_106 (by decide) rfl rfl ?_
  obtain ⟨q2149, h2150, h⟩ := Option.bind_eq_some_iff.mp h
  refine q_pick [1, 0] rfl (M_stands_L107_ok hL d qF 0 _ _ h2150 ?_)
  refine q_aload_n dX12_stands_126 rfl rfl ?_
  refine q_iconst dX12_stands_127 rfl rfl ?_
  refine q_putI dX12_stands_128 fl_X12_252 (hL 70 (by decide)) sh_70 (by decide) pf_12_31 pt_12_31 rfl rfl ?_
  refine q_iconst dX12_stands_131 rfl rfl ?_
  refine q_istore_n (lv' := [(1, qi 0), (0, qr 70)]) dX12_stands_132 (by decide) rfl rfl ?_
  obtain ⟨q2153, h2154, h⟩ := Option.bind_eq_some_iff.mp h
  refine q_pick [1, 0] rfl (M_stands_L133_ok hL d qF 0 _ _ h2154 ?_)
  cases h
  exact q_return dX12_stands_151 rfl hQ
set_option maxRecDepth 20000 in
theorem M_text_L48_ok {X : qX} (hL : ∀ c, c < 93 → c ∈ qLs X) (d : Nat) {Q : Option qV → qSto → Prop} : ∀ (n : Nat) (S : qSto) (o : qSto), M_text_L48 n S = some o → (qW X (d + 7) yX12_text cX12_text 2 (some .int) 70 [(0, qr 70)] [] o Q) → qW X (d + 7) yX12_text cX12_text 2 (some .int) 48 [(0, qr 70)] [] S Q := by
  intro n
  induction n with
  | zero =>
    intro S o h
    simp [M_text_L48] at h
  | succ n ih =>
    intro S o h hE
    rw [M_text_L48] at h
    refine q_aload_n dX12_text_48 rfl rfl ?_
    refine q_getI dX12_text_49 fl_X12_147 (hL 70 (by decide)) sh_70 (by decide) rfl rfl ?_
    obtain ⟨c1863, h⟩ := qk_some h
    refine q_if_ne (tgt := 70) dX12_text_52 (by decide) rfl (qRb_R c1863)  (fun g => ?_) (fun g => ?_)
    · rw [if_neg (show ¬ ((S 70 11) = 0) from g)] at h
      cases h
      exact q_pick [0] rfl (hE)
    · rw [if_pos (show (S 70 11) = 0 from g)] at h
      refine q_aload_n dX12_text_55 rfl rfl ?_
      refine q_getI dX12_text_56 fl_X12_120 (hL 70 (by decide)) sh_70 (by decide) rfl rfl ?_
      refine q_iconst dX12_text_59 rfl rfl ?_
      obtain ⟨c1864, h⟩ := qk_some h
      refine q_icmp_eq (tgt := 70) dX12_text_60 (by decide) rfl (qRb_R c1864) ⟨by decide, by decide⟩ (fun g => ?_) (fun g => ?_)
      · rw [if_pos (show (S 70 9) = 4 from g)] at h
        cases h
        exact q_pick [0] rfl (hE)
      · rw [if_neg (show ¬ ((S 70 9) = 4) from g)] at h
        refine q_aload_n dX12_text_63 rfl rfl ?_
        obtain ⟨q2076, h2077, h⟩ := Option.bind_eq_some_iff.mp h
        refine q_callVv (as := []) (c := 70) dX12_text_64 ml_X12_240 rfl rfl (hL 70 (by decide)) sh_70 rfl rfl (Nat.le_of_ble_eq_true rfl) (M_line_ok hL d _ _ h2077) rfl ?_
        refine q_goto (pc' := 48) dX12_text_67 (by decide) ?_
        exact q_pick [0] rfl (ih _ _ h hE)
set_option maxRecDepth 20000 in
theorem M_text_ok {X : qX} (hL : ∀ c, c < 93 → c ∈ qLs X) (d : Nat) (a1 : Int) (S : qSto) (o : (Int × qSto)) (h : M_text a1 S = some o) (Q : Option qV → qSto → Prop) (hQ : Q (some (qi o.1)) o.2) : qC X (d + 7) yX12_text cX12_text 2 (some .int) [qr 70, qi a1] S Q := by
  refine q_entry (lv := [(0, qr 70), (1, qi a1)]) pn_X12 (Nat.le_of_ble_eq_true rfl) rfl ?_
  unfold M_text at h
  refine q_iload_n dX12_text_0 rfl rfl ?_
  obtain ⟨c1775, h⟩ := qk_some h
  refine q_if_lt (tgt := 12) dX12_text_1 (by decide) rfl (qRb_R c1775)  (fun g => ?_) (fun g => ?_)
  · rw [if_pos (show a1 < 0 from g)] at h
    refine q_bipush dX12_text_12 (by decide) rfl ?_
    cases h
    exact q_ireturn dX12_text_14 rfl hQ
  · rw [if_neg (show ¬ (a1 < 0) from g)] at h
    refine q_iload_n dX12_text_4 rfl rfl ?_
    refine q_aload_n dX12_text_5 rfl rfl ?_
    refine q_getI dX12_text_6 fl_X12_88 (hL 70 (by decide)) sh_70 (by decide) rfl rfl ?_
    obtain ⟨c1776, h⟩ := qk_some h
    obtain ⟨c1777, h⟩ := qk_some h
    refine q_icmp_le (tgt := 15) dX12_text_9 (by decide) rfl (qRb_R c1776) (qRb_R c1777) (fun g => ?_) (fun g => ?_)
    · rw [if_pos (show a1 ≤ (S 70 5) from g)] at h
      refine q_aload_n dX12_text_15 rfl rfl ?_
      refine q_iload_n dX12_text_16 rfl rfl ?_
      refine q_putI dX12_text_17 fl_X12_107 (hL 70 (by decide)) sh_70 (by decide) pf_12_6 pt_12_6 rfl rfl ?_
      refine q_aload_n dX12_text_20 rfl rfl ?_
      refine q_iconst dX12_text_21 rfl rfl ?_
      refine q_putI dX12_text_22 fl_X12_88 (hL 70 (by decide)) sh_70 (by decide) pf_12_5 pt_12_5 rfl rfl ?_
      refine q_aload_n dX12_text_25 rfl rfl ?_
      refine q_iconst dX12_text_26 rfl rfl ?_
      refine q_putI dX12_text_27 fl_X12_110 (hL 70 (by decide)) sh_70 (by decide) pf_12_7 pt_12_7 rfl rfl ?_
      refine q_aload_n dX12_text_30 rfl rfl ?_
      refine q_iconst dX12_text_31 rfl rfl ?_
      refine q_putI dX12_text_32 fl_X12_147 (hL 70 (by decide)) sh_70 (by decide) pf_12_11 pt_12_11 rfl rfl ?_
      refine q_aload_n dX12_text_35 rfl rfl ?_
      refine q_iconst dX12_text_36 rfl rfl ?_
      refine q_putI dX12_text_37 fl_X12_150 (hL 70 (by decide)) sh_70 (by decide) pf_12_12 pt_12_12 rfl rfl ?_
      refine q_aload_n dX12_text_40 rfl rfl ?_
      obtain ⟨q1786, h1787, h⟩ := Option.bind_eq_some_iff.mp h
      refine q_callVv (as := []) (c := 70) dX12_text_41 ml_X12_82 rfl rfl (hL 70 (by decide)) sh_70 rfl rfl (Nat.le_of_ble_eq_true rfl) (M_blank_ok hL (d + 6) _ _ h1787) rfl ?_
      refine q_aload_n dX12_text_44 rfl rfl ?_
      obtain ⟨q1861, h1862, h⟩ := Option.bind_eq_some_iff.mp h
      refine q_callVv (as := []) (c := 70) dX12_text_45 ml_X12_160 rfl rfl (hL 70 (by decide)) sh_70 rfl rfl (Nat.le_of_ble_eq_true rfl) (M_goOn_ok hL (d + 3) _ _ h1862) rfl ?_
      obtain ⟨q2078, h2079, h⟩ := Option.bind_eq_some_iff.mp h
      refine q_pick [0] rfl (M_text_L48_ok hL d qF _ _ h2079 ?_)
      refine q_aload_n dX12_text_70 rfl rfl ?_
      refine q_aload_n dX12_text_71 rfl rfl ?_
      refine q_getI dX12_text_72 fl_X12_147 (hL 70 (by decide)) sh_70 (by decide) rfl rfl ?_
      refine q_putI dX12_text_75 fl_X12_243 (hL 70 (by decide)) sh_70 (by decide) pf_12_15 pt_12_15 rfl rfl ?_
      refine q_aload_n dX12_text_78 rfl rfl ?_
      refine q_aload_n dX12_text_79 rfl rfl ?_
      refine q_getI dX12_text_80 fl_X12_150 (hL 70 (by decide)) sh_70 (by decide) rfl rfl ?_
      refine q_putI dX12_text_83 fl_X12_26 (hL 70 (by decide)) sh_70 (by decide) pf_12_16 pt_12_16 rfl rfl ?_
      refine q_aload_n dX12_text_86 rfl rfl ?_
      refine q_getI dX12_text_87 fl_X12_147 (hL 70 (by decide)) sh_70 (by decide) rfl rfl ?_
      obtain ⟨c2080, h⟩ := qk_some h
      refine q_if_le (tgt := 95) dX12_text_90 (by decide) rfl (qRb_R c2080)  (fun g => ?_) (fun g => ?_)
      · rw [if_pos (show ((qup (qup q2078 70 15 (q2078 70 11)) 70 16 ((qup q2078 70 15 (q2078 70 11)) 70 12)) 70 11) ≤ 0 from g)] at h
        refine q_aload_n dX12_text_95 rfl rfl ?_
        obtain ⟨q2155, h2156, h⟩ := Option.bind_eq_some_iff.mp h
        refine q_callVv (as := []) (c := 70) dX12_text_96 ml_X12_85 rfl rfl (hL 70 (by decide)) sh_70 rfl rfl (Nat.le_of_ble_eq_true rfl) (M_stands_ok hL (d + 5) _ _ h2156) rfl ?_
        refine q_aload_n dX12_text_99 rfl rfl ?_
        refine q_getA dX12_text_100 fl_X12_13 (hL 70 (by decide)) sh_70 (by decide) rfl rfl ?_
        refine q_bipush dX12_text_103 (by decide) rfl ?_
        refine q_iaload dX12_text_105 (hL 72 (by decide)) sh_72 (by decide) (by decide) rfl ?_
        cases h
        exact q_ireturn dX12_text_106 rfl hQ
      · rw [if_neg (show ¬ (((qup (qup q2078 70 15 (q2078 70 11)) 70 16 ((qup q2078 70 15 (q2078 70 11)) 70 12)) 70 11) ≤ 0) from g)] at h
        refine q_iconst dX12_text_93 rfl rfl ?_
        cases h
        exact q_ireturn dX12_text_94 rfl hQ
    · rw [if_neg (show ¬ (a1 ≤ (S 70 5)) from g)] at h
      refine q_bipush dX12_text_12 (by decide) rfl ?_
      cases h
      exact q_ireturn dX12_text_14 rfl hQ
set_option maxRecDepth 20000 in
theorem M_fault_ok {X : qX} (hL : ∀ c, c < 93 → c ∈ qLs X) (d : Nat) (a1 : Int) (S : qSto) (o : (Int × qSto)) (h : M_fault a1 S = some o) (Q : Option qV → qSto → Prop) (hQ : Q (some (qi o.1)) o.2) : qC X d yX12_fault cX12_fault 2 (some .int) [qr 70, qi a1] S Q := by
  refine q_entry (lv := [(0, qr 70), (1, qi a1)]) pn_X12 (Nat.le_of_ble_eq_true rfl) rfl ?_
  unfold M_fault at h
  refine q_iload_n dX12_fault_0 rfl rfl ?_
  obtain ⟨c2157, h⟩ := qk_some h
  refine q_if_ne (tgt := 11) dX12_fault_1 (by decide) rfl (qRb_R c2157)  (fun g => ?_) (fun g => ?_)
  · rw [if_neg (show ¬ (a1 = 0) from g)] at h
    refine q_iload_n dX12_fault_11 rfl rfl ?_
    refine q_iconst dX12_fault_12 rfl rfl ?_
    obtain ⟨c2158, h⟩ := qk_some h
    refine q_icmp_ne (tgt := 23) dX12_fault_13 (by decide) rfl (qRb_R c2158) ⟨by decide, by decide⟩ (fun g => ?_) (fun g => ?_)
    · rw [if_neg (show ¬ (a1 = 1) from g)] at h
      refine q_iconst dX12_fault_23 rfl rfl ?_
      cases h
      exact q_ireturn dX12_fault_24 rfl hQ
    · rw [if_pos (show a1 = 1 from g)] at h
      refine q_aload_n dX12_fault_16 rfl rfl ?_
      refine q_getI dX12_fault_17 fl_X12_26 (hL 70 (by decide)) sh_70 (by decide) rfl rfl ?_
      refine q_goto (pc' := 24) dX12_fault_20 (by decide) ?_
      cases h
      exact q_ireturn dX12_fault_24 rfl hQ
  · rw [if_pos (show a1 = 0 from g)] at h
    refine q_aload_n dX12_fault_4 rfl rfl ?_
    refine q_getI dX12_fault_5 fl_X12_243 (hL 70 (by decide)) sh_70 (by decide) rfl rfl ?_
    refine q_goto (pc' := 24) dX12_fault_8 (by decide) ?_
    cases h
    exact q_ireturn dX12_fault_24 rfl hQ
set_option maxRecDepth 20000 in
theorem M_stays_ok {X : qX} (hL : ∀ c, c < 93 → c ∈ qLs X) (d : Nat) (a1 : Int) (S : qSto) (o : (Int × qSto)) (h : M_stays a1 S = some o) (Q : Option qV → qSto → Prop) (hQ : Q (some (qi o.1)) o.2) : qC X d yX12_stays cX12_stays 2 (some .boolean) [qr 70, qi a1] S Q := by
  refine q_entry (lv := [(0, qr 70), (1, qi a1)]) pn_X12 (Nat.le_of_ble_eq_true rfl) rfl ?_
  unfold M_stays at h
  refine q_aload_n dX12_stays_0 rfl rfl ?_
  refine q_getA dX12_stays_1 fl_X12_42 (hL 70 (by decide)) sh_70 (by decide) rfl rfl ?_
  refine q_iload_n dX12_stays_4 rfl rfl ?_
  obtain ⟨c2162, h⟩ := qk_some h
  refine q_iaload dX12_stays_5 (hL 80 (by decide)) sh_80 (qIx_0 c2162) (qIx_1 c2162) rfl ?_
  obtain ⟨c2163, h⟩ := qk_some h
  refine q_if_le (tgt := 13) dX12_stays_6 (by decide) rfl (qRb_R c2163)  (fun g => ?_) (fun g => ?_)
  · rw [if_pos (show (S 80 (Int.toNat a1)) ≤ 0 from g)] at h
    refine q_iconst dX12_stays_13 rfl rfl ?_
    cases h
    exact q_zreturn dX12_stays_14 rfl (by decide) hQ
  · rw [if_neg (show ¬ ((S 80 (Int.toNat a1)) ≤ 0) from g)] at h
    refine q_iconst dX12_stays_9 rfl rfl ?_
    refine q_goto (pc' := 14) dX12_stays_10 (by decide) ?_
    cases h
    exact q_zreturn dX12_stays_14 rfl (by decide) hQ
set_option maxRecDepth 20000 in
theorem M_staying_L4_ok {X : qX} (hL : ∀ c, c < 93 → c ∈ qLs X) (d : Nat) {Q : Option qV → qSto → Prop} : ∀ (n : Nat) (x1 : Int) (x2 : Int) (S : qSto) (o : (Int × qSto)), M_staying_L4 n x1 x2 S = some o → (qW X (d + 1) yX12_staying cX12_staying 3 (some .int) 37 [(1, qi o.1)] [] o.2 Q) → qW X (d + 1) yX12_staying cX12_staying 3 (some .int) 4 [(0, qr 70), (1, qi x1), (2, qi x2)] [] S Q := by
  intro n
  induction n with
  | zero =>
    intro x1 x2 S o h
    simp [M_staying_L4] at h
  | succ n ih =>
    intro x1 x2 S o h hE
    rw [M_staying_L4] at h
    refine q_iload_n dX12_staying_4 rfl rfl ?_
    refine q_aload_n dX12_staying_5 rfl rfl ?_
    refine q_getA dX12_staying_6 fl_X12_13 (hL 70 (by decide)) sh_70 (by decide) rfl rfl ?_
    refine q_bipush dX12_staying_9 (by decide) rfl ?_
    refine q_iaload dX12_staying_11 (hL 72 (by decide)) sh_72 (by decide) (by decide) rfl ?_
    obtain ⟨c2160, h⟩ := qk_some h
    obtain ⟨c2161, h⟩ := qk_some h
    refine q_icmp_ge (tgt := 37) dX12_staying_12 (by decide) rfl (qRb_R c2160) (qRb_R c2161) (fun g => ?_) (fun g => ?_)
    · rw [if_pos (show (S 72 9) ≤ x2 from g)] at h
      cases h
      exact q_pick [1] rfl (hE)
    · rw [if_neg (show ¬ ((S 72 9) ≤ x2) from g)] at h
      refine q_aload_n dX12_staying_15 rfl rfl ?_
      refine q_iload_n dX12_staying_16 rfl rfl ?_
      obtain ⟨q2164, h2165, h⟩ := Option.bind_eq_some_iff.mp h
      refine q_callVi (as := [qi x2]) (c := 70) dX12_staying_17 ml_X12_326 rfl rfl (hL 70 (by decide)) sh_70 rfl rfl (Nat.le_of_ble_eq_true rfl) (M_stays_ok hL d x2 _ _ h2165) rfl ?_
      refine q_jn (G := fun (t2167 : Int) => qW X (d + 1) yX12_staying cX12_staying 3 (some .int) 30 [(0, qr 70), (2, qi x2)] [qi t2167] q2164.2 Q) h (fun t2167 h => ?_) (fun t2167 h hk3868 => ?_)
      · try dsimp only at h
        refine q_istore_n (lv' := [(1, qi t2167), (0, qr 70), (2, qi x2)]) dX12_staying_30 (by decide) rfl rfl ?_
        refine q_iinc (lv' := [(2, qi (x2 + 1)), (1, qi t2167), (0, qr 70)]) dX12_staying_31 (by decide) rfl rfl rfl ?_
        refine q_goto (pc' := 4) dX12_staying_34 (by decide) ?_
        exact q_pick [2, 1, 0] rfl (ih t2167 (x2 + 1) _ _ h hE)
      · skip
        obtain ⟨c2166, h⟩ := qk_some h
        refine q_if_eq (tgt := 29) dX12_staying_20 (by decide) rfl (qRb_R c2166)  (fun g => ?_) (fun g => ?_)
        · rw [if_pos (show q2164.1 = 0 from g)] at h
          refine q_iload_n dX12_staying_29 rfl rfl ?_
          cases h
          exact q_pick [0, 2] rfl hk3868
        · rw [if_neg (show ¬ (q2164.1 = 0) from g)] at h
          refine q_iload_n dX12_staying_23 rfl rfl ?_
          refine q_iconst dX12_staying_24 rfl rfl ?_
          refine q_iadd dX12_staying_25 rfl ?_
          refine q_goto (pc' := 30) dX12_staying_26 (by decide) ?_
          cases h
          exact q_pick [0, 2] rfl hk3868
set_option maxRecDepth 20000 in
theorem M_staying_ok {X : qX} (hL : ∀ c, c < 93 → c ∈ qLs X) (d : Nat) (S : qSto) (o : (Int × qSto)) (h : M_staying S = some o) (Q : Option qV → qSto → Prop) (hQ : Q (some (qi o.1)) o.2) : qC X (d + 1) yX12_staying cX12_staying 3 (some .int) [qr 70] S Q := by
  refine q_entry (lv := [(0, qr 70)]) pn_X12 (Nat.le_of_ble_eq_true rfl) rfl ?_
  unfold M_staying at h
  refine q_iconst dX12_staying_0 rfl rfl ?_
  refine q_istore_n (lv' := [(1, qi 0), (0, qr 70)]) dX12_staying_1 (by decide) rfl rfl ?_
  refine q_iconst dX12_staying_2 rfl rfl ?_
  refine q_istore_n (lv' := [(2, qi 0), (1, qi 0), (0, qr 70)]) dX12_staying_3 (by decide) rfl rfl ?_
  obtain ⟨q2168, h2169, h⟩ := Option.bind_eq_some_iff.mp h
  refine q_pick [2, 1, 0] rfl (M_staying_L4_ok hL d qF 0 0 _ _ h2169 ?_)
  refine q_iload_n dX12_staying_37 rfl rfl ?_
  cases h
  exact q_ireturn dX12_staying_38 rfl hQ
set_option maxRecDepth 20000 in
theorem M_made_L4_ok {X : qX} (hL : ∀ c, c < 93 → c ∈ qLs X) (d : Nat) {Q : Option qV → qSto → Prop} : ∀ (n : Nat) (x1 : Int) (x2 : Int) (S : qSto) (o : (Int × qSto)), M_made_L4 n x1 x2 S = some o → (qW X d yX12_made cX12_made 3 (some .int) 32 [(1, qi o.1)] [] o.2 Q) → qW X d yX12_made cX12_made 3 (some .int) 4 [(0, qr 70), (1, qi x1), (2, qi x2)] [] S Q := by
  intro n
  induction n with
  | zero =>
    intro x1 x2 S o h
    simp [M_made_L4] at h
  | succ n ih =>
    intro x1 x2 S o h hE
    rw [M_made_L4] at h
    refine q_iload_n dX12_made_4 rfl rfl ?_
    refine q_iconst dX12_made_5 rfl rfl ?_
    obtain ⟨c2172, h⟩ := qk_some h
    refine q_icmp_ge (tgt := 32) dX12_made_6 (by decide) rfl (qRb_R c2172) ⟨by decide, by decide⟩ (fun g => ?_) (fun g => ?_)
    · rw [if_pos (show 4 ≤ x2 from g)] at h
      cases h
      exact q_pick [1] rfl (hE)
    · rw [if_neg (show ¬ (4 ≤ x2) from g)] at h
      refine q_aload_n dX12_made_9 rfl rfl ?_
      refine q_getA dX12_made_10 fl_X12_60 (hL 70 (by decide)) sh_70 (by decide) rfl rfl ?_
      refine q_iload_n dX12_made_13 rfl rfl ?_
      obtain ⟨c2173, h⟩ := qk_some h
      refine q_zaload dX12_made_14 (hL 86 (by decide)) sh_86 (qIx_0 c2173) (qIx_1 c2173) rfl ?_
      refine q_jn (G := fun (t2175 : Int) => qW X d yX12_made cX12_made 3 (some .int) 25 [(0, qr 70), (2, qi x2)] [qi t2175] S Q) h (fun t2175 h => ?_) (fun t2175 h hk3869 => ?_)
      · try dsimp only at h
        refine q_istore_n (lv' := [(1, qi t2175), (0, qr 70), (2, qi x2)]) dX12_made_25 (by decide) rfl rfl ?_
        refine q_iinc (lv' := [(2, qi (x2 + 1)), (1, qi t2175), (0, qr 70)]) dX12_made_26 (by decide) rfl rfl rfl ?_
        refine q_goto (pc' := 4) dX12_made_29 (by decide) ?_
        exact q_pick [2, 1, 0] rfl (ih t2175 (x2 + 1) _ _ h hE)
      · skip
        obtain ⟨c2174, h⟩ := qk_some h
        refine q_if_eq (tgt := 24) dX12_made_15 (by decide) rfl (qRb_R c2174)  (fun g => ?_) (fun g => ?_)
        · rw [if_pos (show (S 86 (Int.toNat x2)) = 0 from g)] at h
          refine q_iload_n dX12_made_24 rfl rfl ?_
          cases h
          exact q_pick [0, 2] rfl hk3869
        · rw [if_neg (show ¬ ((S 86 (Int.toNat x2)) = 0) from g)] at h
          refine q_iload_n dX12_made_18 rfl rfl ?_
          refine q_iconst dX12_made_19 rfl rfl ?_
          refine q_iadd dX12_made_20 rfl ?_
          refine q_goto (pc' := 25) dX12_made_21 (by decide) ?_
          cases h
          exact q_pick [0, 2] rfl hk3869
set_option maxRecDepth 20000 in
theorem M_made_ok {X : qX} (hL : ∀ c, c < 93 → c ∈ qLs X) (d : Nat) (S : qSto) (o : (Int × qSto)) (h : M_made S = some o) (Q : Option qV → qSto → Prop) (hQ : Q (some (qi o.1)) o.2) : qC X d yX12_made cX12_made 3 (some .int) [qr 70] S Q := by
  refine q_entry (lv := [(0, qr 70)]) pn_X12 (Nat.le_of_ble_eq_true rfl) rfl ?_
  unfold M_made at h
  refine q_iconst dX12_made_0 rfl rfl ?_
  refine q_istore_n (lv' := [(1, qi 0), (0, qr 70)]) dX12_made_1 (by decide) rfl rfl ?_
  refine q_iconst dX12_made_2 rfl rfl ?_
  refine q_istore_n (lv' := [(2, qi 0), (1, qi 0), (0, qr 70)]) dX12_made_3 (by decide) rfl rfl ?_
  obtain ⟨q2176, h2177, h⟩ := Option.bind_eq_some_iff.mp h
  refine q_pick [2, 1, 0] rfl (M_made_L4_ok hL d qF 0 0 _ _ h2177 ?_)
  refine q_iload_n dX12_made_32 rfl rfl ?_
  cases h
  exact q_ireturn dX12_made_33 rfl hQ
set_option maxRecDepth 20000 in
theorem M_of_ok {X : qX} (hL : ∀ c, c < 93 → c ∈ qLs X) (d : Nat) (a1 : Int) (a2 : Int) (S : qSto) (o : (Int × qSto)) (h : M_of a1 a2 S = some o) (Q : Option qV → qSto → Prop) (hQ : Q (some (qi o.1)) o.2) : qC X d yX12_of cX12_of 3 (some .int) [qr 70, qi a1, qi a2] S Q := by
  refine q_entry (lv := [(0, qr 70), (1, qi a1), (2, qi a2)]) pn_X12 (Nat.le_of_ble_eq_true rfl) rfl ?_
  unfold M_of at h
  refine q_aload_n dX12_of_0 rfl rfl ?_
  refine q_getA dX12_of_1 fl_X12_13 (hL 70 (by decide)) sh_70 (by decide) rfl rfl ?_
  refine q_bipush dX12_of_4 (by decide) rfl ?_
  refine q_bipush dX12_of_6 (by decide) rfl ?_
  refine q_iload_n dX12_of_8 rfl rfl ?_
  refine q_imul dX12_of_9 rfl ?_
  refine q_iadd dX12_of_10 rfl ?_
  refine q_iload_n dX12_of_11 rfl rfl ?_
  refine q_iadd dX12_of_12 rfl ?_
  obtain ⟨c2186, h⟩ := qk_some h
  refine q_iaload dX12_of_13 (hL 72 (by decide)) sh_72 (qIx_0 c2186) (qIx_1 c2186) rfl ?_
  cases h
  exact q_ireturn dX12_of_14 rfl hQ
set_option maxRecDepth 20000 in
theorem M_lateOf_ok {X : qX} (hL : ∀ c, c < 93 → c ∈ qLs X) (d : Nat) (a1 : Int) (S : qSto) (o : (Int × qSto)) (h : M_lateOf a1 S = some o) (Q : Option qV → qSto → Prop) (hQ : Q (some (qi o.1)) o.2) : qC X (d + 1) yX12_lateOf cX12_lateOf 3 (some .int) [qr 70, qi a1] S Q := by
  refine q_entry (lv := [(0, qr 70), (1, qi a1)]) pn_X12 (Nat.le_of_ble_eq_true rfl) rfl ?_
  unfold M_lateOf at h
  refine q_aload_n dX12_lateOf_0 rfl rfl ?_
  refine q_getA dX12_lateOf_1 fl_X12_48 (hL 70 (by decide)) sh_70 (by decide) rfl rfl ?_
  refine q_iload_n dX12_lateOf_4 rfl rfl ?_
  obtain ⟨c2185, h⟩ := qk_some h
  refine q_iaload dX12_lateOf_5 (hL 82 (by decide)) sh_82 (qIx_0 c2185) (qIx_1 c2185) rfl ?_
  refine q_aload_n dX12_lateOf_6 rfl rfl ?_
  refine q_iload_n dX12_lateOf_7 rfl rfl ?_
  refine q_iconst dX12_lateOf_8 rfl rfl ?_
  obtain ⟨q2187, h2188, h⟩ := Option.bind_eq_some_iff.mp h
  refine q_callVi (as := [qi a1, qi 5]) (c := 70) dX12_lateOf_9 ml_X12_316 rfl rfl (hL 70 (by decide)) sh_70 rfl rfl (Nat.le_of_ble_eq_true rfl) (M_of_ok hL d a1 5 _ _ h2188) rfl ?_
  refine q_isub dX12_lateOf_12 rfl ?_
  refine q_istore_n (lv' := [(2, qi ((S 82 (Int.toNat a1)) - q2187.1)), (0, qr 70), (1, qi a1)]) dX12_lateOf_13 (by decide) rfl rfl ?_
  refine q_iload_n dX12_lateOf_14 rfl rfl ?_
  obtain ⟨c2189, h⟩ := qk_some h
  refine q_if_ge (tgt := 22) dX12_lateOf_15 (by decide) rfl (qRb_R c2189)  (fun g => ?_) (fun g => ?_)
  · rw [if_pos (show 0 ≤ ((S 82 (Int.toNat a1)) - q2187.1) from g)] at h
    refine q_iload_n dX12_lateOf_22 rfl rfl ?_
    cases h
    exact q_ireturn dX12_lateOf_23 rfl hQ
  · rw [if_neg (show ¬ (0 ≤ ((S 82 (Int.toNat a1)) - q2187.1)) from g)] at h
    refine q_iconst dX12_lateOf_18 rfl rfl ?_
    refine q_goto (pc' := 23) dX12_lateOf_19 (by decide) ?_
    cases h
    exact q_ireturn dX12_lateOf_23 rfl hQ
set_option maxRecDepth 20000 in
theorem M_costOf_ok {X : qX} (hL : ∀ c, c < 93 → c ∈ qLs X) (d : Nat) (a1 : Int) (S : qSto) (o : (Int × qSto)) (h : M_costOf a1 S = some o) (Q : Option qV → qSto → Prop) (hQ : Q (some (qi o.1)) o.2) : qC X (d + 2) yX12_costOf cX12_costOf 2 (some .int) [qr 70, qi a1] S Q := by
  refine q_entry (lv := [(0, qr 70), (1, qi a1)]) pn_X12 (Nat.le_of_ble_eq_true rfl) rfl ?_
  unfold M_costOf at h
  refine q_aload_n dX12_costOf_0 rfl rfl ?_
  refine q_iload_n dX12_costOf_1 rfl rfl ?_
  obtain ⟨q2190, h2191, h⟩ := Option.bind_eq_some_iff.mp h
  refine q_callVi (as := [qi a1]) (c := 70) dX12_costOf_2 ml_X12_329 rfl rfl (hL 70 (by decide)) sh_70 rfl rfl (Nat.le_of_ble_eq_true rfl) (M_lateOf_ok hL d a1 _ _ h2191) rfl ?_
  refine q_bipush dX12_costOf_5 (by decide) rfl ?_
  refine q_aload_n dX12_costOf_7 rfl rfl ?_
  refine q_iload_n dX12_costOf_8 rfl rfl ?_
  refine q_bipush dX12_costOf_9 (by decide) rfl ?_
  obtain ⟨q2192, h2193, h⟩ := Option.bind_eq_some_iff.mp h
  refine q_callVi (as := [qi a1, qi 6]) (c := 70) dX12_costOf_11 ml_X12_316 rfl rfl (hL 70 (by decide)) sh_70 rfl rfl (Nat.le_of_ble_eq_true rfl) (M_of_ok hL (d + 1) a1 6 _ _ h2193) rfl ?_
  refine q_ishr dX12_costOf_14 rfl ?_
  refine q_imul dX12_costOf_15 rfl ?_
  cases h
  exact q_ireturn dX12_costOf_16 rfl hQ
set_option maxRecDepth 20000 in
theorem M_costOfAll_L4_ok {X : qX} (hL : ∀ c, c < 93 → c ∈ qLs X) (d : Nat) {Q : Option qV → qSto → Prop} : ∀ (n : Nat) (x1 : Int) (x2 : Int) (S : qSto) (o : (Int × qSto)), M_costOfAll_L4 n x1 x2 S = some o → (qW X (d + 3) yX12_costOfAll cX12_costOfAll 3 (some .int) 41 [(1, qi o.1)] [] o.2 Q) → qW X (d + 3) yX12_costOfAll cX12_costOfAll 3 (some .int) 4 [(0, qr 70), (1, qi x1), (2, qi x2)] [] S Q := by
  intro n
  induction n with
  | zero =>
    intro x1 x2 S o h
    simp [M_costOfAll_L4] at h
  | succ n ih =>
    intro x1 x2 S o h hE
    rw [M_costOfAll_L4] at h
    refine q_iload_n dX12_costOfAll_4 rfl rfl ?_
    refine q_aload_n dX12_costOfAll_5 rfl rfl ?_
    refine q_getA dX12_costOfAll_6 fl_X12_13 (hL 70 (by decide)) sh_70 (by decide) rfl rfl ?_
    refine q_bipush dX12_costOfAll_9 (by decide) rfl ?_
    refine q_iaload dX12_costOfAll_11 (hL 72 (by decide)) sh_72 (by decide) (by decide) rfl ?_
    obtain ⟨c2180, h⟩ := qk_some h
    obtain ⟨c2181, h⟩ := qk_some h
    refine q_icmp_ge (tgt := 41) dX12_costOfAll_12 (by decide) rfl (qRb_R c2180) (qRb_R c2181) (fun g => ?_) (fun g => ?_)
    · rw [if_pos (show (S 72 9) ≤ x2 from g)] at h
      cases h
      exact q_pick [1] rfl (hE)
    · rw [if_neg (show ¬ ((S 72 9) ≤ x2) from g)] at h
      refine q_aload_n dX12_costOfAll_15 rfl rfl ?_
      refine q_iload_n dX12_costOfAll_16 rfl rfl ?_
      obtain ⟨q2182, h2183, h⟩ := Option.bind_eq_some_iff.mp h
      refine q_callVi (as := [qi x2]) (c := 70) dX12_costOfAll_17 ml_X12_326 rfl rfl (hL 70 (by decide)) sh_70 rfl rfl (Nat.le_of_ble_eq_true rfl) (M_stays_ok hL (d + 2) x2 _ _ h2183) rfl ?_
      refine q_jn (G := fun (t2196 : (Int × qSto)) => qW X (d + 3) yX12_costOfAll cX12_costOfAll 3 (some .int) 34 [(0, qr 70), (2, qi x2)] [qi t2196.1] t2196.2 Q) h (fun t2196 h => ?_) (fun t2196 h hk3870 => ?_)
      · try dsimp only at h
        refine q_istore_n (lv' := [(1, qi t2196.1), (0, qr 70), (2, qi x2)]) dX12_costOfAll_34 (by decide) rfl rfl ?_
        refine q_iinc (lv' := [(2, qi (x2 + 1)), (1, qi t2196.1), (0, qr 70)]) dX12_costOfAll_35 (by decide) rfl rfl rfl ?_
        refine q_goto (pc' := 4) dX12_costOfAll_38 (by decide) ?_
        exact q_pick [2, 1, 0] rfl (ih t2196.1 (x2 + 1) _ _ h hE)
      · skip
        obtain ⟨c2184, h⟩ := qk_some h
        refine q_if_eq (tgt := 33) dX12_costOfAll_20 (by decide) rfl (qRb_R c2184)  (fun g => ?_) (fun g => ?_)
        · rw [if_pos (show q2182.1 = 0 from g)] at h
          refine q_iload_n dX12_costOfAll_33 rfl rfl ?_
          cases h
          exact q_pick [0, 2] rfl hk3870
        · rw [if_neg (show ¬ (q2182.1 = 0) from g)] at h
          refine q_iload_n dX12_costOfAll_23 rfl rfl ?_
          refine q_aload_n dX12_costOfAll_24 rfl rfl ?_
          refine q_iload_n dX12_costOfAll_25 rfl rfl ?_
          obtain ⟨q2194, h2195, h⟩ := Option.bind_eq_some_iff.mp h
          refine q_callVi (as := [qi x2]) (c := 70) dX12_costOfAll_26 ml_X12_332 rfl rfl (hL 70 (by decide)) sh_70 rfl rfl (Nat.le_of_ble_eq_true rfl) (M_costOf_ok hL d x2 _ _ h2195) rfl ?_
          refine q_iadd dX12_costOfAll_29 rfl ?_
          refine q_goto (pc' := 34) dX12_costOfAll_30 (by decide) ?_
          cases h
          exact q_pick [0, 2] rfl hk3870
set_option maxRecDepth 20000 in
theorem M_costOfAll_ok {X : qX} (hL : ∀ c, c < 93 → c ∈ qLs X) (d : Nat) (S : qSto) (o : (Int × qSto)) (h : M_costOfAll S = some o) (Q : Option qV → qSto → Prop) (hQ : Q (some (qi o.1)) o.2) : qC X (d + 3) yX12_costOfAll cX12_costOfAll 3 (some .int) [qr 70] S Q := by
  refine q_entry (lv := [(0, qr 70)]) pn_X12 (Nat.le_of_ble_eq_true rfl) rfl ?_
  unfold M_costOfAll at h
  refine q_iconst dX12_costOfAll_0 rfl rfl ?_
  refine q_istore_n (lv' := [(1, qi 0), (0, qr 70)]) dX12_costOfAll_1 (by decide) rfl rfl ?_
  refine q_iconst dX12_costOfAll_2 rfl rfl ?_
  refine q_istore_n (lv' := [(2, qi 0), (1, qi 0), (0, qr 70)]) dX12_costOfAll_3 (by decide) rfl rfl ?_
  obtain ⟨q2197, h2198, h⟩ := Option.bind_eq_some_iff.mp h
  refine q_pick [2, 1, 0] rfl (M_costOfAll_L4_ok hL d qF 0 0 _ _ h2198 ?_)
  refine q_iload_n dX12_costOfAll_41 rfl rfl ?_
  cases h
  exact q_ireturn dX12_costOfAll_42 rfl hQ
set_option maxRecDepth 20000 in
theorem M_workOfAll_L4_ok {X : qX} (hL : ∀ c, c < 93 → c ∈ qLs X) (d : Nat) {Q : Option qV → qSto → Prop} : ∀ (n : Nat) (x1 : Int) (x2 : Int) (S : qSto) (o : (Int × qSto)), M_workOfAll_L4 n x1 x2 S = some o → (qW X (d + 1) yX12_workOfAll cX12_workOfAll 3 (some .int) 49 [(1, qi o.1)] [] o.2 Q) → qW X (d + 1) yX12_workOfAll cX12_workOfAll 3 (some .int) 4 [(0, qr 70), (1, qi x1), (2, qi x2)] [] S Q := by
  intro n
  induction n with
  | zero =>
    intro x1 x2 S o h
    simp [M_workOfAll_L4] at h
  | succ n ih =>
    intro x1 x2 S o h hE
    rw [M_workOfAll_L4] at h
    refine q_iload_n dX12_workOfAll_4 rfl rfl ?_
    refine q_aload_n dX12_workOfAll_5 rfl rfl ?_
    refine q_getA dX12_workOfAll_6 fl_X12_13 (hL 70 (by decide)) sh_70 (by decide) rfl rfl ?_
    refine q_bipush dX12_workOfAll_9 (by decide) rfl ?_
    refine q_iaload dX12_workOfAll_11 (hL 72 (by decide)) sh_72 (by decide) (by decide) rfl ?_
    obtain ⟨c2201, h⟩ := qk_some h
    obtain ⟨c2202, h⟩ := qk_some h
    refine q_icmp_ge (tgt := 49) dX12_workOfAll_12 (by decide) rfl (qRb_R c2201) (qRb_R c2202) (fun g => ?_) (fun g => ?_)
    · rw [if_pos (show (S 72 9) ≤ x2 from g)] at h
      cases h
      exact q_pick [1] rfl (hE)
    · rw [if_neg (show ¬ ((S 72 9) ≤ x2) from g)] at h
      refine q_aload_n dX12_workOfAll_15 rfl rfl ?_
      refine q_iload_n dX12_workOfAll_16 rfl rfl ?_
      obtain ⟨q2203, h2204, h⟩ := Option.bind_eq_some_iff.mp h
      refine q_callVi (as := [qi x2]) (c := 70) dX12_workOfAll_17 ml_X12_326 rfl rfl (hL 70 (by decide)) sh_70 rfl rfl (Nat.le_of_ble_eq_true rfl) (M_stays_ok hL d x2 _ _ h2204) rfl ?_
      refine q_jn (G := fun (t2208 : Int) => qW X (d + 1) yX12_workOfAll cX12_workOfAll 3 (some .int) 42 [(0, qr 70), (2, qi x2)] [qi t2208] q2203.2 Q) h (fun t2208 h => ?_) (fun t2208 h hk3871 => ?_)
      · try dsimp only at h
        refine q_istore_n (lv' := [(1, qi t2208), (0, qr 70), (2, qi x2)]) dX12_workOfAll_42 (by decide) rfl rfl ?_
        refine q_iinc (lv' := [(2, qi (x2 + 1)), (1, qi t2208), (0, qr 70)]) dX12_workOfAll_43 (by decide) rfl rfl rfl ?_
        refine q_goto (pc' := 4) dX12_workOfAll_46 (by decide) ?_
        exact q_pick [2, 1, 0] rfl (ih t2208 (x2 + 1) _ _ h hE)
      · skip
        obtain ⟨c2205, h⟩ := qk_some h
        refine q_if_eq (tgt := 41) dX12_workOfAll_20 (by decide) rfl (qRb_R c2205)  (fun g => ?_) (fun g => ?_)
        · rw [if_pos (show q2203.1 = 0 from g)] at h
          refine q_iload_n dX12_workOfAll_41 rfl rfl ?_
          cases h
          exact q_pick [0, 2] rfl hk3871
        · rw [if_neg (show ¬ (q2203.1 = 0) from g)] at h
          refine q_iload_n dX12_workOfAll_23 rfl rfl ?_
          refine q_aload_n dX12_workOfAll_24 rfl rfl ?_
          refine q_getA dX12_workOfAll_25 fl_X12_42 (hL 70 (by decide)) sh_70 (by decide) rfl rfl ?_
          refine q_iload_n dX12_workOfAll_28 rfl rfl ?_
          obtain ⟨c2206, h⟩ := qk_some h
          refine q_iaload dX12_workOfAll_29 (hL 80 (by decide)) sh_80 (qIx_0 c2206) (qIx_1 c2206) rfl ?_
          refine q_aload_n dX12_workOfAll_30 rfl rfl ?_
          refine q_getA dX12_workOfAll_31 fl_X12_45 (hL 70 (by decide)) sh_70 (by decide) rfl rfl ?_
          refine q_iload_n dX12_workOfAll_34 rfl rfl ?_
          obtain ⟨c2207, h⟩ := qk_some h
          refine q_iaload dX12_workOfAll_35 (hL 81 (by decide)) sh_81 (qIx_0 c2207) (qIx_1 c2207) rfl ?_
          refine q_imul dX12_workOfAll_36 rfl ?_
          refine q_iadd dX12_workOfAll_37 rfl ?_
          refine q_goto (pc' := 42) dX12_workOfAll_38 (by decide) ?_
          cases h
          exact q_pick [0, 2] rfl hk3871
set_option maxRecDepth 20000 in
theorem M_workOfAll_ok {X : qX} (hL : ∀ c, c < 93 → c ∈ qLs X) (d : Nat) (S : qSto) (o : (Int × qSto)) (h : M_workOfAll S = some o) (Q : Option qV → qSto → Prop) (hQ : Q (some (qi o.1)) o.2) : qC X (d + 1) yX12_workOfAll cX12_workOfAll 3 (some .int) [qr 70] S Q := by
  refine q_entry (lv := [(0, qr 70)]) pn_X12 (Nat.le_of_ble_eq_true rfl) rfl ?_
  unfold M_workOfAll at h
  refine q_iconst dX12_workOfAll_0 rfl rfl ?_
  refine q_istore_n (lv' := [(1, qi 0), (0, qr 70)]) dX12_workOfAll_1 (by decide) rfl rfl ?_
  refine q_iconst dX12_workOfAll_2 rfl rfl ?_
  refine q_istore_n (lv' := [(2, qi 0), (1, qi 0), (0, qr 70)]) dX12_workOfAll_3 (by decide) rfl rfl ?_
  obtain ⟨q2209, h2210, h⟩ := Option.bind_eq_some_iff.mp h
  refine q_pick [2, 1, 0] rfl (M_workOfAll_L4_ok hL d qF 0 0 _ _ h2210 ?_)
  refine q_iload_n dX12_workOfAll_49 rfl rfl ?_
  cases h
  exact q_ireturn dX12_workOfAll_50 rfl hQ
set_option maxRecDepth 20000 in
theorem M_count_ok {X : qX} (hL : ∀ c, c < 93 → c ∈ qLs X) (d : Nat) (a1 : Int) (S : qSto) (o : (Int × qSto)) (h : M_count a1 S = some o) (Q : Option qV → qSto → Prop) (hQ : Q (some (qi o.1)) o.2) : qC X (d + 4) yX12_count cX12_count 2 (some .int) [qr 70, qi a1] S Q := by
  refine q_entry (lv := [(0, qr 70), (1, qi a1)]) pn_X12 (Nat.le_of_ble_eq_true rfl) rfl ?_
  unfold M_count at h
  refine q_iload_n dX12_count_0 rfl rfl ?_
  obtain ⟨c2159, h⟩ := qk_some h
  by_cases e3872 : a1 = 10
  · rw [if_pos e3872] at h
    refine q_tsw (tgt := 70) dX12_count_1 (qRb_R c2159) (by decide) (fun g => absurd g (by rw [e3872]; decide)) (fun _ _ => ⟨39, 40, by rw [e3872]; rfl, by decide, ?_⟩)
    refine q_aload_n dX12_count_40 rfl rfl ?_
    obtain ⟨q2170, h2171, h⟩ := Option.bind_eq_some_iff.mp h
    refine q_callVi (as := []) (c := 70) dX12_count_41 ml_X12_263 rfl rfl (hL 70 (by decide)) sh_70 rfl rfl (Nat.le_of_ble_eq_true rfl) (M_staying_ok hL (d + 2) _ _ h2171) rfl ?_
    cases h
    exact q_ireturn dX12_count_44 rfl hQ
  · rw [if_neg e3872] at h
    by_cases e3873 : a1 = 11
    · rw [if_pos e3873] at h
      refine q_tsw (tgt := 70) dX12_count_1 (qRb_R c2159) (by decide) (fun g => absurd g (by rw [e3873]; decide)) (fun _ _ => ⟨44, 45, by rw [e3873]; rfl, by decide, ?_⟩)
      refine q_aload_n dX12_count_45 rfl rfl ?_
      refine q_getI dX12_count_46 fl_X12_252 (hL 70 (by decide)) sh_70 (by decide) rfl rfl ?_
      cases h
      exact q_ireturn dX12_count_49 rfl hQ
    · rw [if_neg e3873] at h
      by_cases e3874 : a1 = 12
      · rw [if_pos e3874] at h
        refine q_tsw (tgt := 70) dX12_count_1 (qRb_R c2159) (by decide) (fun g => absurd g (by rw [e3874]; decide)) (fun _ _ => ⟨49, 50, by rw [e3874]; rfl, by decide, ?_⟩)
        refine q_aload_n dX12_count_50 rfl rfl ?_
        obtain ⟨q2178, h2179, h⟩ := Option.bind_eq_some_iff.mp h
        refine q_callVi (as := []) (c := 70) dX12_count_51 ml_X12_266 rfl rfl (hL 70 (by decide)) sh_70 rfl rfl (Nat.le_of_ble_eq_true rfl) (M_made_ok hL (d + 3) _ _ h2179) rfl ?_
        cases h
        exact q_ireturn dX12_count_54 rfl hQ
      · rw [if_neg e3874] at h
        by_cases e3875 : a1 = 13
        · rw [if_pos e3875] at h
          refine q_tsw (tgt := 70) dX12_count_1 (qRb_R c2159) (by decide) (fun g => absurd g (by rw [e3875]; decide)) (fun _ _ => ⟨54, 55, by rw [e3875]; rfl, by decide, ?_⟩)
          refine q_aload_n dX12_count_55 rfl rfl ?_
          refine q_getI dX12_count_56 fl_X12_88 (hL 70 (by decide)) sh_70 (by decide) rfl rfl ?_
          cases h
          exact q_ireturn dX12_count_59 rfl hQ
        · rw [if_neg e3875] at h
          by_cases e3876 : a1 = 14
          · rw [if_pos e3876] at h
            refine q_tsw (tgt := 70) dX12_count_1 (qRb_R c2159) (by decide) (fun g => absurd g (by rw [e3876]; decide)) (fun _ _ => ⟨59, 60, by rw [e3876]; rfl, by decide, ?_⟩)
            refine q_aload_n dX12_count_60 rfl rfl ?_
            obtain ⟨q2199, h2200, h⟩ := Option.bind_eq_some_iff.mp h
            refine q_callVi (as := []) (c := 70) dX12_count_61 ml_X12_269 rfl rfl (hL 70 (by decide)) sh_70 rfl rfl (Nat.le_of_ble_eq_true rfl) (M_costOfAll_ok hL d _ _ h2200) rfl ?_
            cases h
            exact q_ireturn dX12_count_64 rfl hQ
          · rw [if_neg e3876] at h
            by_cases e3877 : a1 = 15
            · rw [if_pos e3877] at h
              refine q_tsw (tgt := 70) dX12_count_1 (qRb_R c2159) (by decide) (fun g => absurd g (by rw [e3877]; decide)) (fun _ _ => ⟨64, 65, by rw [e3877]; rfl, by decide, ?_⟩)
              refine q_aload_n dX12_count_65 rfl rfl ?_
              obtain ⟨q2211, h2212, h⟩ := Option.bind_eq_some_iff.mp h
              refine q_callVi (as := []) (c := 70) dX12_count_66 ml_X12_272 rfl rfl (hL 70 (by decide)) sh_70 rfl rfl (Nat.le_of_ble_eq_true rfl) (M_workOfAll_ok hL (d + 2) _ _ h2212) rfl ?_
              cases h
              exact q_ireturn dX12_count_69 rfl hQ
            · rw [if_neg e3877] at h
              refine q_tsw (tgt := 70) dX12_count_1 (qRb_R c2159) (by decide) (fun _ => ?_) (fun g1 g2 => absurd g1 (by omega))
              refine q_iload_n dX12_count_70 rfl rfl ?_
              obtain ⟨c2213, h⟩ := qk_some h
              refine q_i2l dX12_count_71 (qRb_R c2213) rfl ?_
              refine q_lconst (v := 0) dX12_count_72 rfl rfl ?_
              refine q_ldc2 (v := 9) dX12_count_73 qw_1637 rfl ?_
              obtain ⟨q2214, h2215, h⟩ := Option.bind_eq_some_iff.mp h
              refine q_callSi (as := [ql a1, ql 0, ql 9]) dX12_count_76 ml_X12_99 rfl rfl (Nat.le_of_ble_eq_true rfl) (M_in_ok hL (d + 3) a1 0 9 _ _ h2215) rfl ?_
              obtain ⟨c2216, h⟩ := qk_some h
              refine q_if_eq (tgt := 91) dX12_count_79 (by decide) rfl (qRb_R c2216)  (fun g => ?_) (fun g => ?_)
              · rw [if_pos (show q2214.1 = 0 from g)] at h
                refine q_iconst dX12_count_91 rfl rfl ?_
                cases h
                exact q_ireturn dX12_count_92 rfl hQ
              · rw [if_neg (show ¬ (q2214.1 = 0) from g)] at h
                refine q_aload_n dX12_count_82 rfl rfl ?_
                refine q_getA dX12_count_83 fl_X12_13 (hL 70 (by decide)) sh_70 (by decide) rfl rfl ?_
                refine q_iload_n dX12_count_86 rfl rfl ?_
                obtain ⟨c2217, h⟩ := qk_some h
                refine q_iaload dX12_count_87 (hL 72 (by decide)) sh_72 (qIx_0 c2217) (qIx_1 c2217) rfl ?_
                refine q_goto (pc' := 92) dX12_count_88 (by decide) ?_
                cases h
                exact q_ireturn dX12_count_92 rfl hQ
set_option maxRecDepth 20000 in
theorem M_isMetre_ok {X : qX} (hL : ∀ c, c < 93 → c ∈ qLs X) (d : Nat) (a1 : Int) (S : qSto) (o : (Int × qSto)) (h : M_isMetre a1 S = some o) (Q : Option qV → qSto → Prop) (hQ : Q (some (qi o.1)) o.2) : qC X (d + 1) yX12_isMetre cX12_isMetre 2 (some .boolean) [qr 70, qi a1] S Q := by
  refine q_entry (lv := [(0, qr 70), (1, qi a1)]) pn_X12 (Nat.le_of_ble_eq_true rfl) rfl ?_
  unfold M_isMetre at h
  refine q_iload_n dX12_isMetre_0 rfl rfl ?_
  obtain ⟨c2218, h⟩ := qk_some h
  refine q_i2l dX12_isMetre_1 (qRb_R c2218) rfl ?_
  refine q_lconst (v := 0) dX12_isMetre_2 rfl rfl ?_
  refine q_aload_n dX12_isMetre_3 rfl rfl ?_
  refine q_getA dX12_isMetre_4 fl_X12_13 (hL 70 (by decide)) sh_70 (by decide) rfl rfl ?_
  refine q_iconst dX12_isMetre_7 rfl rfl ?_
  refine q_iaload dX12_isMetre_8 (hL 72 (by decide)) sh_72 (by decide) (by decide) rfl ?_
  refine q_iconst dX12_isMetre_9 rfl rfl ?_
  refine q_isub dX12_isMetre_10 rfl ?_
  obtain ⟨c2219, h⟩ := qk_some h
  refine q_i2l dX12_isMetre_11 (qRb_R c2219) rfl ?_
  obtain ⟨q2220, h2221, h⟩ := Option.bind_eq_some_iff.mp h
  refine q_callSi (as := [ql a1, ql 0, ql ((S 72 0) - 1)]) dX12_isMetre_12 ml_X12_99 rfl rfl (Nat.le_of_ble_eq_true rfl) (M_in_ok hL d a1 0 ((S 72 0) - 1) _ _ h2221) rfl ?_
  obtain ⟨c2222, h⟩ := qk_some h
  cases h
  exact q_zreturn dX12_isMetre_15 rfl (qZb_Z c2222) hQ
set_option maxRecDepth 20000 in
theorem M_depth_ok {X : qX} (hL : ∀ c, c < 93 → c ∈ qLs X) (d : Nat) (a1 : Int) (S : qSto) (o : (Int × qSto)) (h : M_depth a1 S = some o) (Q : Option qV → qSto → Prop) (hQ : Q (some (qi o.1)) o.2) : qC X (d + 2) yX12_depth cX12_depth 2 (some .int) [qr 70, qi a1] S Q := by
  refine q_entry (lv := [(0, qr 70), (1, qi a1)]) pn_X12 (Nat.le_of_ble_eq_true rfl) rfl ?_
  unfold M_depth at h
  refine q_aload_n dX12_depth_0 rfl rfl ?_
  refine q_iload_n dX12_depth_1 rfl rfl ?_
  obtain ⟨q2223, h2224, h⟩ := Option.bind_eq_some_iff.mp h
  refine q_callVi (as := [qi a1]) (c := 70) dX12_depth_2 ml_X12_277 rfl rfl (hL 70 (by decide)) sh_70 rfl rfl (Nat.le_of_ble_eq_true rfl) (M_isMetre_ok hL d a1 _ _ h2224) rfl ?_
  obtain ⟨c2225, h⟩ := qk_some h
  refine q_if_eq (tgt := 17) dX12_depth_5 (by decide) rfl (qRb_R c2225)  (fun g => ?_) (fun g => ?_)
  · rw [if_pos (show q2223.1 = 0 from g)] at h
    refine q_iconst dX12_depth_17 rfl rfl ?_
    cases h
    exact q_ireturn dX12_depth_18 rfl hQ
  · rw [if_neg (show ¬ (q2223.1 = 0) from g)] at h
    refine q_aload_n dX12_depth_8 rfl rfl ?_
    refine q_getA dX12_depth_9 fl_X12_30 (hL 70 (by decide)) sh_70 (by decide) rfl rfl ?_
    refine q_iload_n dX12_depth_12 rfl rfl ?_
    obtain ⟨c2226, h⟩ := qk_some h
    refine q_iaload dX12_depth_13 (hL 76 (by decide)) sh_76 (qIx_0 c2226) (qIx_1 c2226) rfl ?_
    refine q_goto (pc' := 18) dX12_depth_14 (by decide) ?_
    cases h
    exact q_ireturn dX12_depth_18 rfl hQ
set_option maxRecDepth 20000 in
theorem M_leastDepth_L12_ok {X : qX} (hL : ∀ c, c < 93 → c ∈ qLs X) (d : Nat) {Q : Option qV → qSto → Prop} : ∀ (n : Nat) (x2 : Int) (x3 : Int) (x4 : Int) (S : qSto) (o : (Int × qSto)), M_leastDepth_L12 n x2 x3 x4 S = some o → (qW X d yX12_leastDepth cX12_leastDepth 5 (some .int) 47 [(3, qi o.1)] [] o.2 Q) → qW X d yX12_leastDepth cX12_leastDepth 5 (some .int) 12 [(0, qr 70), (2, qi x2), (3, qi x3), (4, qi x4)] [] S Q := by
  intro n
  induction n with
  | zero =>
    intro x2 x3 x4 S o h
    simp [M_leastDepth_L12] at h
  | succ n ih =>
    intro x2 x3 x4 S o h hE
    rw [M_leastDepth_L12] at h
    refine q_iload dX12_leastDepth_12 rfl rfl ?_
    refine q_iload_n dX12_leastDepth_14 rfl rfl ?_
    obtain ⟨c2236, h⟩ := qk_some h
    obtain ⟨c2237, h⟩ := qk_some h
    refine q_icmp_gt (tgt := 47) dX12_leastDepth_15 (by decide) rfl (qRb_R c2236) (qRb_R c2237) (fun g => ?_) (fun g => ?_)
    · rw [if_pos (show x2 < x4 from g)] at h
      cases h
      exact q_pick [2] rfl (hE)
    · rw [if_neg (show ¬ (x2 < x4) from g)] at h
      refine q_aload_n dX12_leastDepth_18 rfl rfl ?_
      refine q_getA dX12_leastDepth_19 fl_X12_30 (hL 70 (by decide)) sh_70 (by decide) rfl rfl ?_
      refine q_iload dX12_leastDepth_22 rfl rfl ?_
      obtain ⟨c2238, h⟩ := qk_some h
      refine q_iaload dX12_leastDepth_24 (hL 76 (by decide)) sh_76 (qIx_0 c2238) (qIx_1 c2238) rfl ?_
      refine q_iload_n dX12_leastDepth_25 rfl rfl ?_
      refine q_jn (G := fun (t2242 : Int) => qW X d yX12_leastDepth cX12_leastDepth 5 (some .int) 40 [(0, qr 70), (2, qi x2), (4, qi x4)] [qi t2242] S Q) h (fun t2242 h => ?_) (fun t2242 h hk3878 => ?_)
      · try dsimp only at h
        refine q_istore_n (lv' := [(3, qi t2242), (0, qr 70), (2, qi x2), (4, qi x4)]) dX12_leastDepth_40 (by decide) rfl rfl ?_
        refine q_iinc (lv' := [(4, qi (x4 + 1)), (3, qi t2242), (0, qr 70), (2, qi x2)]) dX12_leastDepth_41 (by decide) rfl rfl rfl ?_
        refine q_goto (pc' := 12) dX12_leastDepth_44 (by decide) ?_
        exact q_pick [2, 3, 1, 0] rfl (ih x2 t2242 (x4 + 1) _ _ h hE)
      · skip
        obtain ⟨c2239, h⟩ := qk_some h
        obtain ⟨c2240, h⟩ := qk_some h
        refine q_icmp_ge (tgt := 39) dX12_leastDepth_26 (by decide) rfl (qRb_R c2239) (qRb_R c2240) (fun g => ?_) (fun g => ?_)
        · rw [if_pos (show x3 ≤ (S 76 (Int.toNat x4)) from g)] at h
          refine q_iload_n dX12_leastDepth_39 rfl rfl ?_
          cases h
          exact q_pick [0, 1, 3] rfl hk3878
        · rw [if_neg (show ¬ (x3 ≤ (S 76 (Int.toNat x4))) from g)] at h
          refine q_aload_n dX12_leastDepth_29 rfl rfl ?_
          refine q_getA dX12_leastDepth_30 fl_X12_30 (hL 70 (by decide)) sh_70 (by decide) rfl rfl ?_
          refine q_iload dX12_leastDepth_33 rfl rfl ?_
          obtain ⟨c2241, h⟩ := qk_some h
          refine q_iaload dX12_leastDepth_35 (hL 76 (by decide)) sh_76 (qIx_0 c2241) (qIx_1 c2241) rfl ?_
          refine q_goto (pc' := 40) dX12_leastDepth_36 (by decide) ?_
          cases h
          exact q_pick [0, 1, 3] rfl hk3878
set_option maxRecDepth 20000 in
theorem M_leastDepth_ok {X : qX} (hL : ∀ c, c < 93 → c ∈ qLs X) (d : Nat) (a1 : Int) (a2 : Int) (S : qSto) (o : (Int × qSto)) (h : M_leastDepth a1 a2 S = some o) (Q : Option qV → qSto → Prop) (hQ : Q (some (qi o.1)) o.2) : qC X d yX12_leastDepth cX12_leastDepth 5 (some .int) [qr 70, qi a1, qi a2] S Q := by
  refine q_entry (lv := [(0, qr 70), (1, qi a1), (2, qi a2)]) pn_X12 (Nat.le_of_ble_eq_true rfl) rfl ?_
  unfold M_leastDepth at h
  refine q_aload_n dX12_leastDepth_0 rfl rfl ?_
  refine q_getA dX12_leastDepth_1 fl_X12_30 (hL 70 (by decide)) sh_70 (by decide) rfl rfl ?_
  refine q_iload_n dX12_leastDepth_4 rfl rfl ?_
  obtain ⟨c2235, h⟩ := qk_some h
  refine q_iaload dX12_leastDepth_5 (hL 76 (by decide)) sh_76 (qIx_0 c2235) (qIx_1 c2235) rfl ?_
  refine q_istore_n (lv' := [(3, qi (S 76 (Int.toNat a1))), (0, qr 70), (1, qi a1), (2, qi a2)]) dX12_leastDepth_6 (by decide) rfl rfl ?_
  refine q_iload_n dX12_leastDepth_7 rfl rfl ?_
  refine q_iconst dX12_leastDepth_8 rfl rfl ?_
  refine q_iadd dX12_leastDepth_9 rfl ?_
  refine q_istore (lv' := [(4, qi (a1 + 1)), (3, qi (S 76 (Int.toNat a1))), (0, qr 70), (1, qi a1), (2, qi a2)]) dX12_leastDepth_10 (by decide) rfl rfl ?_
  obtain ⟨q2243, h2244, h⟩ := Option.bind_eq_some_iff.mp h
  refine q_pick [2, 4, 1, 0] rfl (M_leastDepth_L12_ok hL d qF a2 (S 76 (Int.toNat a1)) (a1 + 1) _ _ h2244 ?_)
  refine q_iload_n dX12_leastDepth_47 rfl rfl ?_
  cases h
  exact q_ireturn dX12_leastDepth_48 rfl hQ
