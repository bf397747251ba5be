set_option maxRecDepth 20000 in
theorem M_lateOf_ok {X : qX} (hL : ∀ c, c < 93 → c ∈ qLs X) (d : Nat) (a1 : Int) (S : qSto) (o : (Int × qSto)) (h : M_lateOf a1 S = some o) (Q : Option qV → qSto → Prop) (hQ : Q (some (qi o.1)) o.2) : qC X (d + 1) yX12_lateOf cX12_lateOf 3 (some .int) [qr 70, qi a1] S Q := by
  refine q_entry (lv := [(0, qr 70), (1, qi a1)]) pn_X12 (Nat.le_of_ble_eq_true rfl) rfl ?_
  unfold M_lateOf at h
  refine q_aload_n dX12_lateOf_0 rfl rfl ?_
  refine q_getA dX12_lateOf_1 fl_X12_48 (hL 70 (by decide)) sh_70 (by decide) rfl rfl ?_
  refine q_iload_n dX12_lateOf_4 rfl rfl ?_
  obtain ⟨c2495, h⟩ := qk_some h
  refine q_iaload dX12_lateOf_5 (hL 82 (by decide)) sh_82 (qIx_0 c2495) (qIx_1 c2495) rfl ?_
  refine q_aload_n dX12_lateOf_6 rfl rfl ?_
  refine q_iload_n dX12_lateOf_7 rfl rfl ?_
  refine q_iconst dX12_lateOf_8 rfl rfl ?_
  obtain ⟨q2497, h2498, h⟩ := Option.bind_eq_some_iff.mp h
  refine q_callVi (as := [qi a1, qi 5]) (c := 70) dX12_lateOf_9 ml_X12_316 rfl rfl (hL 70 (by decide)) sh_70 rfl rfl (Nat.le_of_ble_eq_true rfl) (M_of_ok hL d a1 5 _ _ h2498) rfl ?_
  refine q_isub dX12_lateOf_12 rfl ?_
  refine q_istore_n (lv' := [(2, qi ((S 82 (Int.toNat a1)) - q2497.1)), (0, qr 70), (1, qi a1)]) dX12_lateOf_13 (by decide) rfl rfl ?_
  refine q_iload_n dX12_lateOf_14 rfl rfl ?_
  obtain ⟨c2499, h⟩ := qk_some h
  refine q_if_ge (tgt := 22) dX12_lateOf_15 (by decide) rfl (qRb_R c2499)  (fun g => ?_) (fun g => ?_)
  · rw [if_pos (show 0 ≤ ((S 82 (Int.toNat a1)) - q2497.1) from g)] at h
    refine q_iload_n dX12_lateOf_22 rfl rfl ?_
    cases h
    exact q_ireturn dX12_lateOf_23 rfl hQ
  · rw [if_neg (show ¬ (0 ≤ ((S 82 (Int.toNat a1)) - q2497.1)) from g)] at h
    refine q_iconst dX12_lateOf_18 rfl rfl ?_
    refine q_goto (pc' := 23) dX12_lateOf_19 (by decide) ?_
    cases h
    exact q_ireturn dX12_lateOf_23 rfl hQ
set_option maxRecDepth 20000 in
theorem M_costOf_ok {X : qX} (hL : ∀ c, c < 93 → c ∈ qLs X) (d : Nat) (a1 : Int) (S : qSto) (o : (Int × qSto)) (h : M_costOf a1 S = some o) (Q : Option qV → qSto → Prop) (hQ : Q (some (qi o.1)) o.2) : qC X (d + 2) yX12_costOf cX12_costOf 2 (some .int) [qr 70, qi a1] S Q := by
  refine q_entry (lv := [(0, qr 70), (1, qi a1)]) pn_X12 (Nat.le_of_ble_eq_true rfl) rfl ?_
  unfold M_costOf at h
  refine q_aload_n dX12_costOf_0 rfl rfl ?_
  refine q_iload_n dX12_costOf_1 rfl rfl ?_
  obtain ⟨q2500, h2501, h⟩ := Option.bind_eq_some_iff.mp h
  refine q_callVi (as := [qi a1]) (c := 70) dX12_costOf_2 ml_X12_329 rfl rfl (hL 70 (by decide)) sh_70 rfl rfl (Nat.le_of_ble_eq_true rfl) (M_lateOf_ok hL d a1 _ _ h2501) rfl ?_
  refine q_bipush dX12_costOf_5 (by decide) rfl ?_
  refine q_aload_n dX12_costOf_7 rfl rfl ?_
  refine q_iload_n dX12_costOf_8 rfl rfl ?_
  refine q_bipush dX12_costOf_9 (by decide) rfl ?_
  obtain ⟨q2502, h2503, h⟩ := Option.bind_eq_some_iff.mp h
  refine q_callVi (as := [qi a1, qi 6]) (c := 70) dX12_costOf_11 ml_X12_316 rfl rfl (hL 70 (by decide)) sh_70 rfl rfl (Nat.le_of_ble_eq_true rfl) (M_of_ok hL (d + 1) a1 6 _ _ h2503) rfl ?_
  refine q_ishr dX12_costOf_14 rfl ?_
  refine q_imul dX12_costOf_15 rfl ?_
  cases h
  exact q_ireturn dX12_costOf_16 rfl hQ
set_option maxRecDepth 20000 in
theorem M_costOfAll_L4_ok {X : qX} (hL : ∀ c, c < 93 → c ∈ qLs X) (d : Nat) {Q : Option qV → qSto → Prop} : ∀ (n : Nat) (x1 : Int) (x2 : Int) (S : qSto) (o : (Int × qSto)), M_costOfAll_L4 n x1 x2 S = some o → (qW X (d + 3) yX12_costOfAll cX12_costOfAll 3 (some .int) 41 [(1, qi o.1)] [] o.2 Q) → qW X (d + 3) yX12_costOfAll cX12_costOfAll 3 (some .int) 4 [(0, qr 70), (1, qi x1), (2, qi x2)] [] S Q := by
  intro n
  induction n with
  | zero =>
    intro x1 x2 S o h
    simp [M_costOfAll_L4] at h
  | succ n ih =>
    intro x1 x2 S o h hE
    rw [M_costOfAll_L4] at h
    refine q_iload_n dX12_costOfAll_4 rfl rfl ?_
    refine q_aload_n dX12_costOfAll_5 rfl rfl ?_
    refine q_getA dX12_costOfAll_6 fl_X12_13 (hL 70 (by decide)) sh_70 (by decide) rfl rfl ?_
    refine q_bipush dX12_costOfAll_9 (by decide) rfl ?_
    refine q_iaload dX12_costOfAll_11 (hL 72 (by decide)) sh_72 (by decide) (by decide) rfl ?_
    obtain ⟨c2490, h⟩ := qk_some h
    obtain ⟨c2491, h⟩ := qk_some h
    refine q_icmp_ge (tgt := 41) dX12_costOfAll_12 (by decide) rfl (qRb_R c2490) (qRb_R c2491) (fun g => ?_) (fun g => ?_)
    · rw [if_pos (show (S 72 9) ≤ x2 from g)] at h
      cases h
      exact q_pick [1] rfl (hE)
    · rw [if_neg (show ¬ ((S 72 9) ≤ x2) from g)] at h
      refine q_aload_n dX12_costOfAll_15 rfl rfl ?_
      refine q_iload_n dX12_costOfAll_16 rfl rfl ?_
      obtain ⟨q2492, h2493, h⟩ := Option.bind_eq_some_iff.mp h
      refine q_callVi (as := [qi x2]) (c := 70) dX12_costOfAll_17 ml_X12_326 rfl rfl (hL 70 (by decide)) sh_70 rfl rfl (Nat.le_of_ble_eq_true rfl) (M_stays_ok hL (d + 2) x2 _ _ h2493) rfl ?_
      refine q_jn (G := fun (t2506 : (Int × qSto)) => qW X (d + 3) yX12_costOfAll cX12_costOfAll 3 (some .int) 34 [(0, qr 70), (2, qi x2)] [qi t2506.1] t2506.2 Q) h (fun t2506 h => ?_) (fun t2506 h hk4210 => ?_)
      · try dsimp only at h
        refine q_istore_n (lv' := [(1, qi t2506.1), (0, qr 70), (2, qi x2)]) dX12_costOfAll_34 (by decide) rfl rfl ?_
        refine q_iinc (lv' := [(2, qi (x2 + 1)), (1, qi t2506.1), (0, qr 70)]) dX12_costOfAll_35 (by decide) rfl rfl rfl ?_
        refine q_goto (pc' := 4) dX12_costOfAll_38 (by decide) ?_
        exact q_pick [2, 1, 0] rfl (ih t2506.1 (x2 + 1) _ _ h hE)
      · skip
        obtain ⟨c2494, h⟩ := qk_some h
        refine q_if_eq (tgt := 33) dX12_costOfAll_20 (by decide) rfl (qRb_R c2494)  (fun g => ?_) (fun g => ?_)
        · rw [if_pos (show q2492.1 = 0 from g)] at h
          refine q_iload_n dX12_costOfAll_33 rfl rfl ?_
          cases h
          exact q_pick [0, 2] rfl hk4210
        · rw [if_neg (show ¬ (q2492.1 = 0) from g)] at h
          refine q_iload_n dX12_costOfAll_23 rfl rfl ?_
          refine q_aload_n dX12_costOfAll_24 rfl rfl ?_
          refine q_iload_n dX12_costOfAll_25 rfl rfl ?_
          obtain ⟨q2504, h2505, h⟩ := Option.bind_eq_some_iff.mp h
          refine q_callVi (as := [qi x2]) (c := 70) dX12_costOfAll_26 ml_X12_332 rfl rfl (hL 70 (by decide)) sh_70 rfl rfl (Nat.le_of_ble_eq_true rfl) (M_costOf_ok hL d x2 _ _ h2505) rfl ?_
          refine q_iadd dX12_costOfAll_29 rfl ?_
          refine q_goto (pc' := 34) dX12_costOfAll_30 (by decide) ?_
          cases h
          exact q_pick [0, 2] rfl hk4210
set_option maxRecDepth 20000 in
theorem M_costOfAll_ok {X : qX} (hL : ∀ c, c < 93 → c ∈ qLs X) (d : Nat) (S : qSto) (o : (Int × qSto)) (h : M_costOfAll S = some o) (Q : Option qV → qSto → Prop) (hQ : Q (some (qi o.1)) o.2) : qC X (d + 3) yX12_costOfAll cX12_costOfAll 3 (some .int) [qr 70] S Q := by
  refine q_entry (lv := [(0, qr 70)]) pn_X12 (Nat.le_of_ble_eq_true rfl) rfl ?_
  unfold M_costOfAll at h
  refine q_iconst dX12_costOfAll_0 rfl rfl ?_
  refine q_istore_n (lv' := [(1, qi 0), (0, qr 70)]) dX12_costOfAll_1 (by decide) rfl rfl ?_
  refine q_iconst dX12_costOfAll_2 rfl rfl ?_
  refine q_istore_n (lv' := [(2, qi 0), (1, qi 0), (0, qr 70)]) dX12_costOfAll_3 (by decide) rfl rfl ?_
  obtain ⟨q2507, h2508, h⟩ := Option.bind_eq_some_iff.mp h
  refine q_pick [2, 1, 0] rfl (M_costOfAll_L4_ok hL d qF 0 0 _ _ h2508 ?_)
  refine q_iload_n dX12_costOfAll_41 rfl rfl ?_
  cases h
  exact q_ireturn dX12_costOfAll_42 rfl hQ
set_option maxRecDepth 20000 in
theorem M_workOfAll_L4_ok {X : qX} (hL : ∀ c, c < 93 → c ∈ qLs X) (d : Nat) {Q : Option qV → qSto → Prop} : ∀ (n : Nat) (x1 : Int) (x2 : Int) (S : qSto) (o : (Int × qSto)), M_workOfAll_L4 n x1 x2 S = some o → (qW X (d + 1) yX12_workOfAll cX12_workOfAll 3 (some .int) 49 [(1, qi o.1)] [] o.2 Q) → qW X (d + 1) yX12_workOfAll cX12_workOfAll 3 (some .int) 4 [(0, qr 70), (1, qi x1), (2, qi x2)] [] S Q := by
  intro n
  induction n with
  | zero =>
    intro x1 x2 S o h
    simp [M_workOfAll_L4] at h
  | succ n ih =>
    intro x1 x2 S o h hE
    rw [M_workOfAll_L4] at h
    refine q_iload_n dX12_workOfAll_4 rfl rfl ?_
    refine q_aload_n dX12_workOfAll_5 rfl rfl ?_
    refine q_getA dX12_workOfAll_6 fl_X12_13 (hL 70 (by decide)) sh_70 (by decide) rfl rfl ?_
    refine q_bipush dX12_workOfAll_9 (by decide) rfl ?_
    refine q_iaload dX12_workOfAll_11 (hL 72 (by decide)) sh_72 (by decide) (by decide) rfl ?_
    obtain ⟨c2511, h⟩ := qk_some h
    obtain ⟨c2512, h⟩ := qk_some h
    refine q_icmp_ge (tgt := 49) dX12_workOfAll_12 (by decide) rfl (qRb_R c2511) (qRb_R c2512) (fun g => ?_) (fun g => ?_)
    · rw [if_pos (show (S 72 9) ≤ x2 from g)] at h
      cases h
      exact q_pick [1] rfl (hE)
    · rw [if_neg (show ¬ ((S 72 9) ≤ x2) from g)] at h
      refine q_aload_n dX12_workOfAll_15 rfl rfl ?_
      refine q_iload_n dX12_workOfAll_16 rfl rfl ?_
      obtain ⟨q2513, h2514, h⟩ := Option.bind_eq_some_iff.mp h
      refine q_callVi (as := [qi x2]) (c := 70) dX12_workOfAll_17 ml_X12_326 rfl rfl (hL 70 (by decide)) sh_70 rfl rfl (Nat.le_of_ble_eq_true rfl) (M_stays_ok hL d x2 _ _ h2514) rfl ?_
      refine q_jn (G := fun (t2518 : Int) => qW X (d + 1) yX12_workOfAll cX12_workOfAll 3 (some .int) 42 [(0, qr 70), (2, qi x2)] [qi t2518] q2513.2 Q) h (fun t2518 h => ?_) (fun t2518 h hk4211 => ?_)
      · try dsimp only at h
        refine q_istore_n (lv' := [(1, qi t2518), (0, qr 70), (2, qi x2)]) dX12_workOfAll_42 (by decide) rfl rfl ?_
        refine q_iinc (lv' := [(2, qi (x2 + 1)), (1, qi t2518), (0, qr 70)]) dX12_workOfAll_43 (by decide) rfl rfl rfl ?_
        refine q_goto (pc' := 4) dX12_workOfAll_46 (by decide) ?_
        exact q_pick [2, 1, 0] rfl (ih t2518 (x2 + 1) _ _ h hE)
      · skip
        obtain ⟨c2515, h⟩ := qk_some h
        refine q_if_eq (tgt := 41) dX12_workOfAll_20 (by decide) rfl (qRb_R c2515)  (fun g => ?_) (fun g => ?_)
        · rw [if_pos (show q2513.1 = 0 from g)] at h
          refine q_iload_n dX12_workOfAll_41 rfl rfl ?_
          cases h
          exact q_pick [0, 2] rfl hk4211
        · rw [if_neg (show ¬ (q2513.1 = 0) from g)] at h
          refine q_iload_n dX12_workOfAll_23 rfl rfl ?_
          refine q_aload_n dX12_workOfAll_24 rfl rfl ?_
          refine q_getA dX12_workOfAll_25 fl_X12_42 (hL 70 (by decide)) sh_70 (by decide) rfl rfl ?_
          refine q_iload_n dX12_workOfAll_28 rfl rfl ?_
          obtain ⟨c2516, h⟩ := qk_some h
          refine q_iaload dX12_workOfAll_29 (hL 80 (by decide)) sh_80 (qIx_0 c2516) (qIx_1 c2516) rfl ?_
          refine q_aload_n dX12_workOfAll_30 rfl rfl ?_
          refine q_getA dX12_workOfAll_31 fl_X12_45 (hL 70 (by decide)) sh_70 (by decide) rfl rfl ?_
          refine q_iload_n dX12_workOfAll_34 rfl rfl ?_
          obtain ⟨c2517, h⟩ := qk_some h
          refine q_iaload dX12_workOfAll_35 (hL 81 (by decide)) sh_81 (qIx_0 c2517) (qIx_1 c2517) rfl ?_
          refine q_imul dX12_workOfAll_36 rfl ?_
          refine q_iadd dX12_workOfAll_37 rfl ?_
          refine q_goto (pc' := 42) dX12_workOfAll_38 (by decide) ?_
          cases h
          exact q_pick [0, 2] rfl hk4211
set_option maxRecDepth 20000 in
theorem M_workOfAll_ok {X : qX} (hL : ∀ c, c < 93 → c ∈ qLs X) (d : Nat) (S : qSto) (o : (Int × qSto)) (h : M_workOfAll S = some o) (Q : Option qV → qSto → Prop) (hQ : Q (some (qi o.1)) o.2) : qC X (d + 1) yX12_workOfAll cX12_workOfAll 3 (some .int) [qr 70] S Q := by
  refine q_entry (lv := [(0, qr 70)]) pn_X12 (Nat.le_of_ble_eq_true rfl) rfl ?_
  unfold M_workOfAll at h
  refine q_iconst dX12_workOfAll_0 rfl rfl ?_
  refine q_istore_n (lv' := [(1, qi 0), (0, qr 70)]) dX12_workOfAll_1 (by decide) rfl rfl ?_
  refine q_iconst dX12_workOfAll_2 rfl rfl ?_
  refine q_istore_n (lv' := [(2, qi 0), (1, qi 0), (0, qr 70)]) dX12_workOfAll_3 (by decide) rfl rfl ?_
  obtain ⟨q2519, h2520, h⟩ := Option.bind_eq_some_iff.mp h
  refine q_pick [2, 1, 0] rfl (M_workOfAll_L4_ok hL d qF 0 0 _ _ h2520 ?_)
  refine q_iload_n dX12_workOfAll_49 rfl rfl ?_
  cases h
  exact q_ireturn dX12_workOfAll_50 rfl hQ
set_option maxRecDepth 20000 in
theorem M_count_ok {X : qX} (hL : ∀ c, c < 93 → c ∈ qLs X) (d : Nat) (a1 : Int) (S : qSto) (o : (Int × qSto)) (h : M_count a1 S = some o) (Q : Option qV → qSto → Prop) (hQ : Q (some (qi o.1)) o.2) : qC X (d + 4) yX12_count cX12_count 2 (some .int) [qr 70, qi a1] S Q := by
  refine q_entry (lv := [(0, qr 70), (1, qi a1)]) pn_X12 (Nat.le_of_ble_eq_true rfl) rfl ?_
  unfold M_count at h
  refine q_iload_n dX12_count_0 rfl rfl ?_
  obtain ⟨c2469, h⟩ := qk_some h
  by_cases e4212 : a1 = 10
  · rw [if_pos e4212] at h
    refine q_tsw (tgt := 70) dX12_count_1 (qRb_R c2469) (by decide) (fun g => absurd g (by rw [e4212]; decide)) (fun _ _ => ⟨39, 40, by rw [e4212]; rfl, by decide, ?_⟩)
    refine q_aload_n dX12_count_40 rfl rfl ?_
    obtain ⟨q2480, h2481, h⟩ := Option.bind_eq_some_iff.mp h
    refine q_callVi (as := []) (c := 70) dX12_count_41 ml_X12_263 rfl rfl (hL 70 (by decide)) sh_70 rfl rfl (Nat.le_of_ble_eq_true rfl) (M_staying_ok hL (d + 2) _ _ h2481) rfl ?_
    cases h
    exact q_ireturn dX12_count_44 rfl hQ
  · rw [if_neg e4212] at h
    by_cases e4213 : a1 = 11
    · rw [if_pos e4213] at h
      refine q_tsw (tgt := 70) dX12_count_1 (qRb_R c2469) (by decide) (fun g => absurd g (by rw [e4213]; decide)) (fun _ _ => ⟨44, 45, by rw [e4213]; rfl, by decide, ?_⟩)
      refine q_aload_n dX12_count_45 rfl rfl ?_
      refine q_getI dX12_count_46 fl_X12_252 (hL 70 (by decide)) sh_70 (by decide) rfl rfl ?_
      cases h
      exact q_ireturn dX12_count_49 rfl hQ
    · rw [if_neg e4213] at h
      by_cases e4214 : a1 = 12
      · rw [if_pos e4214] at h
        refine q_tsw (tgt := 70) dX12_count_1 (qRb_R c2469) (by decide) (fun g => absurd g (by rw [e4214]; decide)) (fun _ _ => ⟨49, 50, by rw [e4214]; rfl, by decide, ?_⟩)
        refine q_aload_n dX12_count_50 rfl rfl ?_
        obtain ⟨q2488, h2489, h⟩ := Option.bind_eq_some_iff.mp h
        refine q_callVi (as := []) (c := 70) dX12_count_51 ml_X12_266 rfl rfl (hL 70 (by decide)) sh_70 rfl rfl (Nat.le_of_ble_eq_true rfl) (M_made_ok hL (d + 3) _ _ h2489) rfl ?_
        cases h
        exact q_ireturn dX12_count_54 rfl hQ
      · rw [if_neg e4214] at h
        by_cases e4215 : a1 = 13
        · rw [if_pos e4215] at h
          refine q_tsw (tgt := 70) dX12_count_1 (qRb_R c2469) (by decide) (fun g => absurd g (by rw [e4215]; decide)) (fun _ _ => ⟨54, 55, by rw [e4215]; rfl, by decide, ?_⟩)
          refine q_aload_n dX12_count_55 rfl rfl ?_
          refine q_getI dX12_count_56 fl_X12_88 (hL 70 (by decide)) sh_70 (by decide) rfl rfl ?_
          cases h
          exact q_ireturn dX12_count_59 rfl hQ
        · rw [if_neg e4215] at h
          by_cases e4216 : a1 = 14
          · rw [if_pos e4216] at h
            refine q_tsw (tgt := 70) dX12_count_1 (qRb_R c2469) (by decide) (fun g => absurd g (by rw [e4216]; decide)) (fun _ _ => ⟨59, 60, by rw [e4216]; rfl, by decide, ?_⟩)
            refine q_aload_n dX12_count_60 rfl rfl ?_
            obtain ⟨q2509, h2510, h⟩ := Option.bind_eq_some_iff.mp h
            refine q_callVi (as := []) (c := 70) dX12_count_61 ml_X12_269 rfl rfl (hL 70 (by decide)) sh_70 rfl rfl (Nat.le_of_ble_eq_true rfl) (M_costOfAll_ok hL d _ _ h2510) rfl ?_
            cases h
            exact q_ireturn dX12_count_64 rfl hQ
          · rw [if_neg e4216] at h
            by_cases e4217 : a1 = 15
            · rw [if_pos e4217] at h
              refine q_tsw (tgt := 70) dX12_count_1 (qRb_R c2469) (by decide) (fun g => absurd g (by rw [e4217]; decide)) (fun _ _ => ⟨64, 65, by rw [e4217]; rfl, by decide, ?_⟩)
              refine q_aload_n dX12_count_65 rfl rfl ?_
              obtain ⟨q2521, h2522, h⟩ := Option.bind_eq_some_iff.mp h
              refine q_callVi (as := []) (c := 70) dX12_count_66 ml_X12_272 rfl rfl (hL 70 (by decide)) sh_70 rfl rfl (Nat.le_of_ble_eq_true rfl) (M_workOfAll_ok hL (d + 2) _ _ h2522) rfl ?_
              cases h
              exact q_ireturn dX12_count_69 rfl hQ
            · rw [if_neg e4217] at h
              refine q_tsw (tgt := 70) dX12_count_1 (qRb_R c2469) (by decide) (fun _ => ?_) (fun g1 g2 => absurd g1 (by omega))
              refine q_iload_n dX12_count_70 rfl rfl ?_
              obtain ⟨c2523, h⟩ := qk_some h
              refine q_i2l dX12_count_71 (qRb_R c2523) rfl ?_
              refine q_lconst (v := 0) dX12_count_72 rfl rfl ?_
              refine q_ldc2 (v := 9) dX12_count_73 qw_1637 rfl ?_
              obtain ⟨q2524, h2525, h⟩ := Option.bind_eq_some_iff.mp h
              refine q_callSi (as := [ql a1, ql 0, ql 9]) dX12_count_76 ml_X12_99 rfl rfl (Nat.le_of_ble_eq_true rfl) (M_in_ok hL (d + 3) a1 0 9 _ _ h2525) rfl ?_
              obtain ⟨c2526, h⟩ := qk_some h
              refine q_if_eq (tgt := 91) dX12_count_79 (by decide) rfl (qRb_R c2526)  (fun g => ?_) (fun g => ?_)
              · rw [if_pos (show q2524.1 = 0 from g)] at h
                refine q_iconst dX12_count_91 rfl rfl ?_
                cases h
                exact q_ireturn dX12_count_92 rfl hQ
              · rw [if_neg (show ¬ (q2524.1 = 0) from g)] at h
                refine q_aload_n dX12_count_82 rfl rfl ?_
                refine q_getA dX12_count_83 fl_X12_13 (hL 70 (by decide)) sh_70 (by decide) rfl rfl ?_
                refine q_iload_n dX12_count_86 rfl rfl ?_
                obtain ⟨c2527, h⟩ := qk_some h
                refine q_iaload dX12_count_87 (hL 72 (by decide)) sh_72 (qIx_0 c2527) (qIx_1 c2527) rfl ?_
                refine q_goto (pc' := 92) dX12_count_88 (by decide) ?_
                cases h
                exact q_ireturn dX12_count_92 rfl hQ
set_option maxRecDepth 20000 in
theorem M_isMetre_ok {X : qX} (hL : ∀ c, c < 93 → c ∈ qLs X) (d : Nat) (a1 : Int) (S : qSto) (o : (Int × qSto)) (h : M_isMetre a1 S = some o) (Q : Option qV → qSto → Prop) (hQ : Q (some (qi o.1)) o.2) : qC X (d + 1) yX12_isMetre cX12_isMetre 2 (some .boolean) [qr 70, qi a1] S Q := by
  refine q_entry (lv := [(0, qr 70), (1, qi a1)]) pn_X12 (Nat.le_of_ble_eq_true rfl) rfl ?_
  unfold M_isMetre at h
  refine q_iload_n dX12_isMetre_0 rfl rfl ?_
  obtain ⟨c2528, h⟩ := qk_some h
  refine q_i2l dX12_isMetre_1 (qRb_R c2528) rfl ?_
  refine q_lconst (v := 0) dX12_isMetre_2 rfl rfl ?_
  refine q_aload_n dX12_isMetre_3 rfl rfl ?_
  refine q_getA dX12_isMetre_4 fl_X12_13 (hL 70 (by decide)) sh_70 (by decide) rfl rfl ?_
  refine q_iconst dX12_isMetre_7 rfl rfl ?_
  refine q_iaload dX12_isMetre_8 (hL 72 (by decide)) sh_72 (by decide) (by decide) rfl ?_
  refine q_iconst dX12_isMetre_9 rfl rfl ?_
  refine q_isub dX12_isMetre_10 rfl ?_
  obtain ⟨c2529, h⟩ := qk_some h
  refine q_i2l dX12_isMetre_11 (qRb_R c2529) rfl ?_
  obtain ⟨q2530, h2531, h⟩ := Option.bind_eq_some_iff.mp h
  refine q_callSi (as := [ql a1, ql 0, ql ((S 72 0) - 1)]) dX12_isMetre_12 ml_X12_99 rfl rfl (Nat.le_of_ble_eq_true rfl) (M_in_ok hL d a1 0 ((S 72 0) - 1) _ _ h2531) rfl ?_
  obtain ⟨c2532, h⟩ := qk_some h
  cases h
  exact q_zreturn dX12_isMetre_15 rfl (qZb_Z c2532) hQ
set_option maxRecDepth 20000 in
theorem M_depth_ok {X : qX} (hL : ∀ c, c < 93 → c ∈ qLs X) (d : Nat) (a1 : Int) (S : qSto) (o : (Int × qSto)) (h : M_depth a1 S = some o) (Q : Option qV → qSto → Prop) (hQ : Q (some (qi o.1)) o.2) : qC X (d + 2) yX12_depth cX12_depth 2 (some .int) [qr 70, qi a1] S Q := by
  refine q_entry (lv := [(0, qr 70), (1, qi a1)]) pn_X12 (Nat.le_of_ble_eq_true rfl) rfl ?_
  unfold M_depth at h
  refine q_aload_n dX12_depth_0 rfl rfl ?_
  refine q_iload_n dX12_depth_1 rfl rfl ?_
  obtain ⟨q2533, h2534, h⟩ := Option.bind_eq_some_iff.mp h
  refine q_callVi (as := [qi a1]) (c := 70) dX12_depth_2 ml_X12_277 rfl rfl (hL 70 (by decide)) sh_70 rfl rfl (Nat.le_of_ble_eq_true rfl) (M_isMetre_ok hL d a1 _ _ h2534) rfl ?_
  obtain ⟨c2535, h⟩ := qk_some h
  refine q_if_eq (tgt := 17) dX12_depth_5 (by decide) rfl (qRb_R c2535)  (fun g => ?_) (fun g => ?_)
  · rw [if_pos (show q2533.1 = 0 from g)] at h
    refine q_iconst dX12_depth_17 rfl rfl ?_
    cases h
    exact q_ireturn dX12_depth_18 rfl hQ
  · rw [if_neg (show ¬ (q2533.1 = 0) from g)] at h
    refine q_aload_n dX12_depth_8 rfl rfl ?_
    refine q_getA dX12_depth_9 fl_X12_30 (hL 70 (by decide)) sh_70 (by decide) rfl rfl ?_
    refine q_iload_n dX12_depth_12 rfl rfl ?_
    obtain ⟨c2536, h⟩ := qk_some h
    refine q_iaload dX12_depth_13 (hL 76 (by decide)) sh_76 (qIx_0 c2536) (qIx_1 c2536) rfl ?_
    refine q_goto (pc' := 18) dX12_depth_14 (by decide) ?_
    cases h
    exact q_ireturn dX12_depth_18 rfl hQ
set_option maxRecDepth 20000 in
theorem M_leastDepth_L12_ok {X : qX} (hL : ∀ c, c < 93 → c ∈ qLs X) (d : Nat) {Q : Option qV → qSto → Prop} : ∀ (n : Nat) (x2 : Int) (x3 : Int) (x4 : Int) (S : qSto) (o : (Int × qSto)), M_leastDepth_L12 n x2 x3 x4 S = some o → (qW X d yX12_leastDepth cX12_leastDepth 5 (some .int) 47 [(3, qi o.1)] [] o.2 Q) → qW X d yX12_leastDepth cX12_leastDepth 5 (some .int) 12 [(0, qr 70), (2, qi x2), (3, qi x3), (4, qi x4)] [] S Q := by
  intro n
  induction n with
  | zero =>
    intro x2 x3 x4 S o h
    simp [M_leastDepth_L12] at h
  | succ n ih =>
    intro x2 x3 x4 S o h hE
    rw [M_leastDepth_L12] at h
    refine q_iload dX12_leastDepth_12 rfl rfl ?_
    refine q_iload_n dX12_leastDepth_14 rfl rfl ?_
    obtain ⟨c2546, h⟩ := qk_some h
    obtain ⟨c2547, h⟩ := qk_some h
    refine q_icmp_gt (tgt := 47) dX12_leastDepth_15 (by decide) rfl (qRb_R c2546) (qRb_R c2547) (fun g => ?_) (fun g => ?_)
    · rw [if_pos (show x2 < x4 from g)] at h
      cases h
      exact q_pick [2] rfl (hE)
    · rw [if_neg (show ¬ (x2 < x4) from g)] at h
      refine q_aload_n dX12_leastDepth_18 rfl rfl ?_
      refine q_getA dX12_leastDepth_19 fl_X12_30 (hL 70 (by decide)) sh_70 (by decide) rfl rfl ?_
      refine q_iload dX12_leastDepth_22 rfl rfl ?_
      obtain ⟨c2548, h⟩ := qk_some h
      refine q_iaload dX12_leastDepth_24 (hL 76 (by decide)) sh_76 (qIx_0 c2548) (qIx_1 c2548) rfl ?_
      refine q_iload_n dX12_leastDepth_25 rfl rfl ?_
      refine q_jn (G := fun (t2552 : Int) => qW X d yX12_leastDepth cX12_leastDepth 5 (some .int) 40 [(0, qr 70), (2, qi x2), (4, qi x4)] [qi t2552] S Q) h (fun t2552 h => ?_) (fun t2552 h hk4218 => ?_)
      · try dsimp only at h
        refine q_istore_n (lv' := [(3, qi t2552), (0, qr 70), (2, qi x2), (4, qi x4)]) dX12_leastDepth_40 (by decide) rfl rfl ?_
        refine q_iinc (lv' := [(4, qi (x4 + 1)), (3, qi t2552), (0, qr 70), (2, qi x2)]) dX12_leastDepth_41 (by decide) rfl rfl rfl ?_
        refine q_goto (pc' := 12) dX12_leastDepth_44 (by decide) ?_
        exact q_pick [2, 3, 1, 0] rfl (ih x2 t2552 (x4 + 1) _ _ h hE)
      · skip
        obtain ⟨c2549, h⟩ := qk_some h
        obtain ⟨c2550, h⟩ := qk_some h
        refine q_icmp_ge (tgt := 39) dX12_leastDepth_26 (by decide) rfl (qRb_R c2549) (qRb_R c2550) (fun g => ?_) (fun g => ?_)
        · rw [if_pos (show x3 ≤ (S 76 (Int.toNat x4)) from g)] at h
          refine q_iload_n dX12_leastDepth_39 rfl rfl ?_
          cases h
          exact q_pick [0, 1, 3] rfl hk4218
        · rw [if_neg (show ¬ (x3 ≤ (S 76 (Int.toNat x4))) from g)] at h
          refine q_aload_n dX12_leastDepth_29 rfl rfl ?_
          refine q_getA dX12_leastDepth_30 fl_X12_30 (hL 70 (by decide)) sh_70 (by decide) rfl rfl ?_
          refine q_iload dX12_leastDepth_33 rfl rfl ?_
          obtain ⟨c2551, h⟩ := qk_some h
          refine q_iaload dX12_leastDepth_35 (hL 76 (by decide)) sh_76 (qIx_0 c2551) (qIx_1 c2551) rfl ?_
          refine q_goto (pc' := 40) dX12_leastDepth_36 (by decide) ?_
          cases h
          exact q_pick [0, 1, 3] rfl hk4218
set_option maxRecDepth 20000 in
theorem M_leastDepth_ok {X : qX} (hL : ∀ c, c < 93 → c ∈ qLs X) (d : Nat) (a1 : Int) (a2 : Int) (S : qSto) (o : (Int × qSto)) (h : M_leastDepth a1 a2 S = some o) (Q : Option qV → qSto → Prop) (hQ : Q (some (qi o.1)) o.2) : qC X d yX12_leastDepth cX12_leastDepth 5 (some .int) [qr 70, qi a1, qi a2] S Q := by
  refine q_entry (lv := [(0, qr 70), (1, qi a1), (2, qi a2)]) pn_X12 (Nat.le_of_ble_eq_true rfl) rfl ?_
  unfold M_leastDepth at h
  refine q_aload_n dX12_leastDepth_0 rfl rfl ?_
  refine q_getA dX12_leastDepth_1 fl_X12_30 (hL 70 (by decide)) sh_70 (by decide) rfl rfl ?_
  refine q_iload_n dX12_leastDepth_4 rfl rfl ?_
  obtain ⟨c2545, h⟩ := qk_some h
  refine q_iaload dX12_leastDepth_5 (hL 76 (by decide)) sh_76 (qIx_0 c2545) (qIx_1 c2545) rfl ?_
  refine q_istore_n (lv' := [(3, qi (S 76 (Int.toNat a1))), (0, qr 70), (1, qi a1), (2, qi a2)]) dX12_leastDepth_6 (by decide) rfl rfl ?_
  refine q_iload_n dX12_leastDepth_7 rfl rfl ?_
  refine q_iconst dX12_leastDepth_8 rfl rfl ?_
  refine q_iadd dX12_leastDepth_9 rfl ?_
  refine q_istore (lv' := [(4, qi (a1 + 1)), (3, qi (S 76 (Int.toNat a1))), (0, qr 70), (1, qi a1), (2, qi a2)]) dX12_leastDepth_10 (by decide) rfl rfl ?_
  obtain ⟨q2553, h2554, h⟩ := Option.bind_eq_some_iff.mp h
  refine q_pick [2, 4, 1, 0] rfl (M_leastDepth_L12_ok hL d qF a2 (S 76 (Int.toNat a1)) (a1 + 1) _ _ h2554 ?_)
  refine q_iload_n dX12_leastDepth_47 rfl rfl ?_
  cases h
  exact q_ireturn dX12_leastDepth_48 rfl hQ
set_option maxRecDepth 20000 in
theorem M_shallow_ok {X : qX} (hL : ∀ c, c < 93 → c ∈ qLs X) (d : Nat) (a1 : Int) (a2 : Int) (S : qSto) (o : (Int × qSto)) (h : M_shallow a1 a2 S = some o) (Q : Option qV → qSto → Prop) (hQ : Q (some (qi o.1)) o.2) : qC X (d + 2) yX12_shallow cX12_shallow 3 (some .int) [qr 70, qi a1, qi a2] S Q := by
  refine q_entry (lv := [(0, qr 70), (1, qi a1), (2, qi a2)]) pn_X12 (Nat.le_of_ble_eq_true rfl) rfl ?_
  unfold M_shallow at h
  refine q_aload_n dX12_shallow_0 rfl rfl ?_
  refine q_iload_n dX12_shallow_1 rfl rfl ?_
  obtain ⟨q2537, h2538, h⟩ := Option.bind_eq_some_iff.mp h
  refine q_callVi (as := [qi a1]) (c := 70) dX12_shallow_2 ml_X12_277 rfl rfl (hL 70 (by decide)) sh_70 rfl rfl (Nat.le_of_ble_eq_true rfl) (M_isMetre_ok hL d a1 _ _ h2538) rfl ?_
  obtain ⟨c2539, h⟩ := qk_some h
  refine q_if_eq (tgt := 21) dX12_shallow_5 (by decide) rfl (qRb_R c2539)  (fun g => ?_) (fun g => ?_)
  · rw [if_pos (show q2537.1 = 0 from g)] at h
    refine q_iconst dX12_shallow_21 rfl rfl ?_
    cases h
    exact q_ireturn dX12_shallow_22 rfl hQ
  · rw [if_neg (show ¬ (q2537.1 = 0) from g)] at h
    refine q_aload_n dX12_shallow_8 rfl rfl ?_
    refine q_iload_n dX12_shallow_9 rfl rfl ?_
    obtain ⟨q2540, h2541, h⟩ := Option.bind_eq_some_iff.mp h
    refine q_callVi (as := [qi a2]) (c := 70) dX12_shallow_10 ml_X12_277 rfl rfl (hL 70 (by decide)) sh_70 rfl rfl (Nat.le_of_ble_eq_true rfl) (M_isMetre_ok hL d a2 _ _ h2541) rfl ?_
    obtain ⟨c2542, h⟩ := qk_some h
    refine q_if_eq (tgt := 21) dX12_shallow_13 (by decide) rfl (qRb_R c2542)  (fun g => ?_) (fun g => ?_)
    · rw [if_pos (show q2540.1 = 0 from g)] at h
      refine q_iconst dX12_shallow_21 rfl rfl ?_
      cases h
      exact q_ireturn dX12_shallow_22 rfl hQ
    · rw [if_neg (show ¬ (q2540.1 = 0) from g)] at h
      refine q_iload_n dX12_shallow_16 rfl rfl ?_
      refine q_iload_n dX12_shallow_17 rfl rfl ?_
      obtain ⟨c2543, h⟩ := qk_some h
      obtain ⟨c2544, h⟩ := qk_some h
      refine q_icmp_ge (tgt := 23) dX12_shallow_18 (by decide) rfl (qRb_R c2543) (qRb_R c2544) (fun g => ?_) (fun g => ?_)
      · rw [if_pos (show a1 ≤ a2 from g)] at h
        refine q_aload_n dX12_shallow_23 rfl rfl ?_
        refine q_iload_n dX12_shallow_24 rfl rfl ?_
        refine q_iload_n dX12_shallow_25 rfl rfl ?_
        obtain ⟨q2555, h2556, h⟩ := Option.bind_eq_some_iff.mp h
        refine q_callVi (as := [qi a1, qi a2]) (c := 70) dX12_shallow_26 ml_X12_280 rfl rfl (hL 70 (by decide)) sh_70 rfl rfl (Nat.le_of_ble_eq_true rfl) (M_leastDepth_ok hL (d + 1) a1 a2 _ _ h2556) rfl ?_
        cases h
        exact q_ireturn dX12_shallow_29 rfl hQ
      · rw [if_neg (show ¬ (a1 ≤ a2) from g)] at h
        refine q_iconst dX12_shallow_21 rfl rfl ?_
        cases h
        exact q_ireturn dX12_shallow_22 rfl hQ
set_option maxRecDepth 20000 in
theorem M_isSlot_ok {X : qX} (hL : ∀ c, c < 93 → c ∈ qLs X) (d : Nat) (a0 : Int) (S : qSto) (o : (Int × qSto)) (h : M_isSlot a0 S = some o) (Q : Option qV → qSto → Prop) (hQ : Q (some (qi o.1)) o.2) : qC X (d + 1) yX12_isSlot cX12_isSlot 1 (some .boolean) [qi a0] S Q := by
  refine q_entry (lv := [(0, qi a0)]) pn_X12 (Nat.le_of_ble_eq_true rfl) rfl ?_
  unfold M_isSlot at h
  refine q_iload_n dX12_isSlot_0 rfl rfl ?_
  obtain ⟨c2557, h⟩ := qk_some h
  refine q_i2l dX12_isSlot_1 (qRb_R c2557) rfl ?_
  refine q_lconst (v := 0) dX12_isSlot_2 rfl rfl ?_
  refine q_ldc2 (v := 335) dX12_isSlot_3 qw_1661 rfl ?_
  obtain ⟨q2558, h2559, h⟩ := Option.bind_eq_some_iff.mp h
  refine q_callSi (as := [ql a0, ql 0, ql 335]) dX12_isSlot_6 ml_X12_99 rfl rfl (Nat.le_of_ble_eq_true rfl) (M_in_ok hL d a0 0 335 _ _ h2559) rfl ?_
  obtain ⟨c2560, h⟩ := qk_some h
  cases h
  exact q_zreturn dX12_isSlot_9 rfl (qZb_Z c2560) hQ
set_option maxRecDepth 20000 in
theorem M_level_ok {X : qX} (hL : ∀ c, c < 93 → c ∈ qLs X) (d : Nat) (a1 : Int) (S : qSto) (o : (Int × qSto)) (h : M_level a1 S = some o) (Q : Option qV → qSto → Prop) (hQ : Q (some (qi o.1)) o.2) : qC X (d + 2) yX12_level cX12_level 2 (some .int) [qr 70, qi a1] S Q := by
  refine q_entry (lv := [(0, qr 70), (1, qi a1)]) pn_X12 (Nat.le_of_ble_eq_true rfl) rfl ?_
  unfold M_level at h
  refine q_iload_n dX12_level_0 rfl rfl ?_
  obtain ⟨q2561, h2562, h⟩ := Option.bind_eq_some_iff.mp h
  refine q_callSi (as := [qi a1]) dX12_level_1 ml_X12_283 rfl rfl (Nat.le_of_ble_eq_true rfl) (M_isSlot_ok hL d a1 _ _ h2562) rfl ?_
  obtain ⟨c2563, h⟩ := qk_some h
  refine q_if_eq (tgt := 16) dX12_level_4 (by decide) rfl (qRb_R c2563)  (fun g => ?_) (fun g => ?_)
  · rw [if_pos (show q2561.1 = 0 from g)] at h
    refine q_iconst dX12_level_16 rfl rfl ?_
    cases h
    exact q_ireturn dX12_level_17 rfl hQ
  · rw [if_neg (show ¬ (q2561.1 = 0) from g)] at h
    refine q_aload_n dX12_level_7 rfl rfl ?_
    refine q_getA dX12_level_8 fl_X12_33 (hL 70 (by decide)) sh_70 (by decide) rfl rfl ?_
    refine q_iload_n dX12_level_11 rfl rfl ?_
    obtain ⟨c2564, h⟩ := qk_some h
    refine q_iaload dX12_level_12 (hL 77 (by decide)) sh_77 (qIx_0 c2564) (qIx_1 c2564) rfl ?_
    refine q_goto (pc' := 17) dX12_level_13 (by decide) ?_
    cases h
    exact q_ireturn dX12_level_17 rfl hQ
set_option maxRecDepth 20000 in
theorem M_isShift_ok {X : qX} (hL : ∀ c, c < 93 → c ∈ qLs X) (d : Nat) (a0 : Int) (a1 : Int) (S : qSto) (o : (Int × qSto)) (h : M_isShift a0 a1 S = some o) (Q : Option qV → qSto → Prop) (hQ : Q (some (qi o.1)) o.2) : qC X (d + 1) yX12_isShift cX12_isShift 2 (some .boolean) [qi a0, qi a1] S Q := by
  refine q_entry (lv := [(0, qi a0), (1, qi a1)]) pn_X12 (Nat.le_of_ble_eq_true rfl) rfl ?_
  unfold M_isShift at h
  refine q_iload_n dX12_isShift_0 rfl rfl ?_
  obtain ⟨c2565, h⟩ := qk_some h
  refine q_i2l dX12_isShift_1 (qRb_R c2565) rfl ?_
  refine q_lconst (v := 0) dX12_isShift_2 rfl rfl ?_
  refine q_ldc2 (v := 6) dX12_isShift_3 qw_1669 rfl ?_
  obtain ⟨q2566, h2567, h⟩ := Option.bind_eq_some_iff.mp h
  refine q_callSi (as := [ql a0, ql 0, ql 6]) dX12_isShift_6 ml_X12_99 rfl rfl (Nat.le_of_ble_eq_true rfl) (M_in_ok hL d a0 0 6 _ _ h2567) rfl ?_
  obtain ⟨c2568, h⟩ := qk_some h
  refine q_if_eq (tgt := 28) dX12_isShift_9 (by decide) rfl (qRb_R c2568)  (fun g => ?_) (fun g => ?_)
  · rw [if_pos (show q2566.1 = 0 from g)] at h
    refine q_iconst dX12_isShift_28 rfl rfl ?_
    cases h
    exact q_zreturn dX12_isShift_29 rfl (by decide) hQ
  · rw [if_neg (show ¬ (q2566.1 = 0) from g)] at h
    refine q_iload_n dX12_isShift_12 rfl rfl ?_
    obtain ⟨c2569, h⟩ := qk_some h
    refine q_i2l dX12_isShift_13 (qRb_R c2569) rfl ?_
    refine q_lconst (v := 0) dX12_isShift_14 rfl rfl ?_
    refine q_ldc2 (v := 2) dX12_isShift_15 qw_1670 rfl ?_
    obtain ⟨q2570, h2571, h⟩ := Option.bind_eq_some_iff.mp h
    refine q_callSi (as := [ql a1, ql 0, ql 2]) dX12_isShift_18 ml_X12_99 rfl rfl (Nat.le_of_ble_eq_true rfl) (M_in_ok hL d a1 0 2 _ _ h2571) rfl ?_
    obtain ⟨c2572, h⟩ := qk_some h
    refine q_if_eq (tgt := 28) dX12_isShift_21 (by decide) rfl (qRb_R c2572)  (fun g => ?_) (fun g => ?_)
    · rw [if_pos (show q2570.1 = 0 from g)] at h
      refine q_iconst dX12_isShift_28 rfl rfl ?_
      cases h
      exact q_zreturn dX12_isShift_29 rfl (by decide) hQ
    · rw [if_neg (show ¬ (q2570.1 = 0) from g)] at h
      refine q_iconst dX12_isShift_24 rfl rfl ?_
      refine q_goto (pc' := 29) dX12_isShift_25 (by decide) ?_
      cases h
      exact q_zreturn dX12_isShift_29 rfl (by decide) hQ
set_option maxRecDepth 20000 in
theorem M_gangsBy_ok {X : qX} (hL : ∀ c, c < 93 → c ∈ qLs X) (d : Nat) (a1 : Int) (S : qSto) (o : (Int × qSto)) (h : M_gangsBy a1 S = some o) (Q : Option qV → qSto → Prop) (hQ : Q (some (qi o.1)) o.2) : qC X d yX12_gangsBy cX12_gangsBy 3 (some .int) [qr 70, qi a1] S Q := by
  refine q_entry (lv := [(0, qr 70), (1, qi a1)]) pn_X12 (Nat.le_of_ble_eq_true rfl) rfl ?_
  unfold M_gangsBy at h
  refine q_aload_n dX12_gangsBy_0 rfl rfl ?_
  refine q_getA dX12_gangsBy_1 fl_X12_13 (hL 70 (by decide)) sh_70 (by decide) rfl rfl ?_
  refine q_bipush dX12_gangsBy_4 (by decide) rfl ?_
  refine q_iload_n dX12_gangsBy_6 rfl rfl ?_
  refine q_iadd dX12_gangsBy_7 rfl ?_
  obtain ⟨c2576, h⟩ := qk_some h
  refine q_iaload dX12_gangsBy_8 (hL 72 (by decide)) sh_72 (qIx_0 c2576) (qIx_1 c2576) rfl ?_
  refine q_istore_n (lv' := [(2, qi (S 72 (Int.toNat (103 + a1)))), (0, qr 70), (1, qi a1)]) dX12_gangsBy_9 (by decide) rfl rfl ?_
  refine q_iload_n dX12_gangsBy_10 rfl rfl ?_
  refine q_iconst dX12_gangsBy_11 rfl rfl ?_
  obtain ⟨c2577, h⟩ := qk_some h
  refine q_icmp_ne (tgt := 25) dX12_gangsBy_12 (by decide) rfl (qRb_R c2577) ⟨by decide, by decide⟩ (fun g => ?_) (fun g => ?_)
  · rw [if_neg (show ¬ ((S 72 (Int.toNat (103 + a1))) = (-1)) from g)] at h
    refine q_iload_n dX12_gangsBy_25 rfl rfl ?_
    cases h
    exact q_ireturn dX12_gangsBy_26 rfl hQ
  · rw [if_pos (show (S 72 (Int.toNat (103 + a1))) = (-1) from g)] at h
    refine q_aload_n dX12_gangsBy_15 rfl rfl ?_
    refine q_getA dX12_gangsBy_16 fl_X12_13 (hL 70 (by decide)) sh_70 (by decide) rfl rfl ?_
    refine q_bipush dX12_gangsBy_19 (by decide) rfl ?_
    refine q_iaload dX12_gangsBy_21 (hL 72 (by decide)) sh_72 (by decide) (by decide) rfl ?_
    refine q_goto (pc' := 26) dX12_gangsBy_22 (by decide) ?_
    cases h
    exact q_ireturn dX12_gangsBy_26 rfl hQ
set_option maxRecDepth 20000 in
theorem M_gangs_ok {X : qX} (hL : ∀ c, c < 93 → c ∈ qLs X) (d : Nat) (a1 : Int) (a2 : Int) (S : qSto) (o : (Int × qSto)) (h : M_gangs a1 a2 S = some o) (Q : Option qV → qSto → Prop) (hQ : Q (some (qi o.1)) o.2) : qC X (d + 2) yX12_gangs cX12_gangs 3 (some .int) [qr 70, qi a1, qi a2] S Q := by
  refine q_entry (lv := [(0, qr 70), (1, qi a1), (2, qi a2)]) pn_X12 (Nat.le_of_ble_eq_true rfl) rfl ?_
  unfold M_gangs at h
  refine q_iload_n dX12_gangs_0 rfl rfl ?_
  refine q_iload_n dX12_gangs_1 rfl rfl ?_
  obtain ⟨q2573, h2574, h⟩ := Option.bind_eq_some_iff.mp h
  refine q_callSi (as := [qi a1, qi a2]) dX12_gangs_2 ml_X12_286 rfl rfl (Nat.le_of_ble_eq_true rfl) (M_isShift_ok hL d a1 a2 _ _ h2574) rfl ?_
  obtain ⟨c2575, h⟩ := qk_some h
  refine q_if_eq (tgt := 20) dX12_gangs_5 (by decide) rfl (qRb_R c2575)  (fun g => ?_) (fun g => ?_)
  · rw [if_pos (show q2573.1 = 0 from g)] at h
    refine q_iconst dX12_gangs_20 rfl rfl ?_
    cases h
    exact q_ireturn dX12_gangs_21 rfl hQ
  · rw [if_neg (show ¬ (q2573.1 = 0) from g)] at h
    refine q_aload_n dX12_gangs_8 rfl rfl ?_
    refine q_iconst dX12_gangs_9 rfl rfl ?_
    refine q_iload_n dX12_gangs_10 rfl rfl ?_
    refine q_imul dX12_gangs_11 rfl ?_
    refine q_iload_n dX12_gangs_12 rfl rfl ?_
    refine q_iadd dX12_gangs_13 rfl ?_
    obtain ⟨q2578, h2579, h⟩ := Option.bind_eq_some_iff.mp h
    refine q_callVi (as := [qi ((3 * a1) + a2)]) (c := 70) dX12_gangs_14 ml_X12_289 rfl rfl (hL 70 (by decide)) sh_70 rfl rfl (Nat.le_of_ble_eq_true rfl) (M_gangsBy_ok hL (d + 1) ((3 * a1) + a2) _ _ h2579) rfl ?_
    refine q_goto (pc' := 21) dX12_gangs_17 (by decide) ?_
    cases h
    exact q_ireturn dX12_gangs_21 rfl hQ
set_option maxRecDepth 20000 in
theorem M_crane_ok {X : qX} (hL : ∀ c, c < 93 → c ∈ qLs X) (d : Nat) (a1 : Int) (a2 : Int) (S : qSto) (o : (Int × qSto)) (h : M_crane a1 a2 S = some o) (Q : Option qV → qSto → Prop) (hQ : Q (some (qi o.1)) o.2) : qC X (d + 1) yX12_crane cX12_crane 3 (some .int) [qr 70, qi a1, qi a2] S Q := by
  refine q_entry (lv := [(0, qr 70), (1, qi a1), (2, qi a2)]) pn_X12 (Nat.le_of_ble_eq_true rfl) rfl ?_
  unfold M_crane at h
  refine q_iload_n dX12_crane_0 rfl rfl ?_
  obtain ⟨c2580, h⟩ := qk_some h
  refine q_i2l dX12_crane_1 (qRb_R c2580) rfl ?_
  refine q_lconst (v := 0) dX12_crane_2 rfl rfl ?_
  refine q_aload_n dX12_crane_3 rfl rfl ?_
  refine q_getA dX12_crane_4 fl_X12_13 (hL 70 (by decide)) sh_70 (by decide) rfl rfl ?_
  refine q_bipush dX12_crane_7 (by decide) rfl ?_
  refine q_iaload dX12_crane_9 (hL 72 (by decide)) sh_72 (by decide) (by decide) rfl ?_
  refine q_iconst dX12_crane_10 rfl rfl ?_
  refine q_isub dX12_crane_11 rfl ?_
  obtain ⟨c2581, h⟩ := qk_some h
  refine q_i2l dX12_crane_12 (qRb_R c2581) rfl ?_
  obtain ⟨q2582, h2583, h⟩ := Option.bind_eq_some_iff.mp h
  refine q_callSi (as := [ql a1, ql 0, ql ((S 72 7) - 1)]) dX12_crane_13 ml_X12_99 rfl rfl (Nat.le_of_ble_eq_true rfl) (M_in_ok hL d a1 0 ((S 72 7) - 1) _ _ h2583) rfl ?_
  obtain ⟨c2584, h⟩ := qk_some h
  refine q_if_eq (tgt := 29) dX12_crane_16 (by decide) rfl (qRb_R c2584)  (fun g => ?_) (fun g => ?_)
  · rw [if_pos (show q2582.1 = 0 from g)] at h
    refine q_iconst dX12_crane_29 rfl rfl ?_
    cases h
    exact q_ireturn dX12_crane_30 rfl hQ
  · rw [if_neg (show ¬ (q2582.1 = 0) from g)] at h
    refine q_iload_n dX12_crane_19 rfl rfl ?_
    obtain ⟨c2585, h⟩ := qk_some h
    refine q_i2l dX12_crane_20 (qRb_R c2585) rfl ?_
    refine q_lconst (v := 0) dX12_crane_21 rfl rfl ?_
    refine q_lconst (v := 1) dX12_crane_22 rfl rfl ?_
    obtain ⟨q2586, h2587, h⟩ := Option.bind_eq_some_iff.mp h
    refine q_callSi (as := [ql a2, ql 0, ql 1]) dX12_crane_23 ml_X12_99 rfl rfl (Nat.le_of_ble_eq_true rfl) (M_in_ok hL d a2 0 1 _ _ h2587) rfl ?_
    obtain ⟨c2588, h⟩ := qk_some h
    refine q_if_ne (tgt := 31) dX12_crane_26 (by decide) rfl (qRb_R c2588)  (fun g => ?_) (fun g => ?_)
    · rw [if_neg (show ¬ (q2586.1 = 0) from g)] at h
      refine q_iload_n dX12_crane_31 rfl rfl ?_
      obtain ⟨c2589, h⟩ := qk_some h
      refine q_if_ne (tgt := 47) dX12_crane_32 (by decide) rfl (qRb_R c2589)  (fun g => ?_) (fun g => ?_)
      · rw [if_neg (show ¬ (a2 = 0) from g)] at h
        refine q_aload_n dX12_crane_47 rfl rfl ?_
        refine q_getA dX12_crane_48 fl_X12_13 (hL 70 (by decide)) sh_70 (by decide) rfl rfl ?_
        refine q_bipush dX12_crane_51 (by decide) rfl ?_
        refine q_iload_n dX12_crane_53 rfl rfl ?_
        refine q_iadd dX12_crane_54 rfl ?_
        obtain ⟨c2590, h⟩ := qk_some h
        refine q_iaload dX12_crane_55 (hL 72 (by decide)) sh_72 (qIx_0 c2590) (qIx_1 c2590) rfl ?_
        cases h
        exact q_ireturn dX12_crane_56 rfl hQ
      · rw [if_pos (show a2 = 0 from g)] at h
        refine q_aload_n dX12_crane_35 rfl rfl ?_
        refine q_getA dX12_crane_36 fl_X12_13 (hL 70 (by decide)) sh_70 (by decide) rfl rfl ?_
        refine q_bipush dX12_crane_39 (by decide) rfl ?_
        refine q_iload_n dX12_crane_41 rfl rfl ?_
        refine q_iadd dX12_crane_42 rfl ?_
        obtain ⟨c2591, h⟩ := qk_some h
        refine q_iaload dX12_crane_43 (hL 72 (by decide)) sh_72 (qIx_0 c2591) (qIx_1 c2591) rfl ?_
        refine q_goto (pc' := 56) dX12_crane_44 (by decide) ?_
        cases h
        exact q_ireturn dX12_crane_56 rfl hQ
    · rw [if_pos (show q2586.1 = 0 from g)] at h
      refine q_iconst dX12_crane_29 rfl rfl ?_
      cases h
      exact q_ireturn dX12_crane_30 rfl hQ
set_option maxRecDepth 20000 in
theorem M_isShip_ok {X : qX} (hL : ∀ c, c < 93 → c ∈ qLs X) (d : Nat) (a1 : Int) (S : qSto) (o : (Int × qSto)) (h : M_isShip a1 S = some o) (Q : Option qV → qSto → Prop) (hQ : Q (some (qi o.1)) o.2) : qC X (d + 1) yX12_isShip cX12_isShip 2 (some .boolean) [qr 70, qi a1] S Q := by
  refine q_entry (lv := [(0, qr 70), (1, qi a1)]) pn_X12 (Nat.le_of_ble_eq_true rfl) rfl ?_
  unfold M_isShip at h
  refine q_iload_n dX12_isShip_0 rfl rfl ?_
  obtain ⟨c2592, h⟩ := qk_some h
  refine q_i2l dX12_isShip_1 (qRb_R c2592) rfl ?_
  refine q_lconst (v := 0) dX12_isShip_2 rfl rfl ?_
  refine q_aload_n dX12_isShip_3 rfl rfl ?_
  refine q_getA dX12_isShip_4 fl_X12_13 (hL 70 (by decide)) sh_70 (by decide) rfl rfl ?_
  refine q_bipush dX12_isShip_7 (by decide) rfl ?_
  refine q_iaload dX12_isShip_9 (hL 72 (by decide)) sh_72 (by decide) (by decide) rfl ?_
  refine q_iconst dX12_isShip_10 rfl rfl ?_
  refine q_isub dX12_isShip_11 rfl ?_
  obtain ⟨c2593, h⟩ := qk_some h
  refine q_i2l dX12_isShip_12 (qRb_R c2593) rfl ?_
  obtain ⟨q2594, h2595, h⟩ := Option.bind_eq_some_iff.mp h
  refine q_callSi (as := [ql a1, ql 0, ql ((S 72 9) - 1)]) dX12_isShip_13 ml_X12_99 rfl rfl (Nat.le_of_ble_eq_true rfl) (M_in_ok hL d a1 0 ((S 72 9) - 1) _ _ h2595) rfl ?_
  obtain ⟨c2596, h⟩ := qk_some h
  cases h
  exact q_zreturn dX12_isShip_16 rfl (qZb_Z c2596) hQ
set_option maxRecDepth 20000 in
theorem M_ship_ok {X : qX} (hL : ∀ c, c < 93 → c ∈ qLs X) (d : Nat) (a1 : Int) (a2 : Int) (S : qSto) (o : (Int × qSto)) (h : M_ship a1 a2 S = some o) (Q : Option qV → qSto → Prop) (hQ : Q (some (qi o.1)) o.2) : qC X (d + 3) yX12_ship cX12_ship 3 (some .int) [qr 70, qi a1, qi a2] S Q := by
  refine q_entry (lv := [(0, qr 70), (1, qi a1), (2, qi a2)]) pn_X12 (Nat.le_of_ble_eq_true rfl) rfl ?_
  unfold M_ship at h
  refine q_aload_n dX12_ship_0 rfl rfl ?_
  refine q_iload_n dX12_ship_1 rfl rfl ?_
  obtain ⟨q2597, h2598, h⟩ := Option.bind_eq_some_iff.mp h
  refine q_callVi (as := [qi a1]) (c := 70) dX12_ship_2 ml_X12_297 rfl rfl (hL 70 (by decide)) sh_70 rfl rfl (Nat.le_of_ble_eq_true rfl) (M_isShip_ok hL (d + 1) a1 _ _ h2598) rfl ?_
  obtain ⟨c2599, h⟩ := qk_some h
  refine q_if_eq (tgt := 20) dX12_ship_5 (by decide) rfl (qRb_R c2599)  (fun g => ?_) (fun g => ?_)
  · rw [if_pos (show q2597.1 = 0 from g)] at h
    refine q_iconst dX12_ship_20 rfl rfl ?_
    cases h
    exact q_ireturn dX12_ship_21 rfl hQ
  · rw [if_neg (show ¬ (q2597.1 = 0) from g)] at h
    refine q_iload_n dX12_ship_8 rfl rfl ?_
    obtain ⟨c2600, h⟩ := qk_some h
    refine q_i2l dX12_ship_9 (qRb_R c2600) rfl ?_
    refine q_lconst (v := 0) dX12_ship_10 rfl rfl ?_
    refine q_ldc2 (v := 17) dX12_ship_11 qw_1734 rfl ?_
    obtain ⟨q2601, h2602, h⟩ := Option.bind_eq_some_iff.mp h
    refine q_callSi (as := [ql a2, ql 0, ql 17]) dX12_ship_14 ml_X12_99 rfl rfl (Nat.le_of_ble_eq_true rfl) (M_in_ok hL (d + 2) a2 0 17 _ _ h2602) rfl ?_
    obtain ⟨c2603, h⟩ := qk_some h
    refine q_if_ne (tgt := 22) dX12_ship_17 (by decide) rfl (qRb_R c2603)  (fun g => ?_) (fun g => ?_)
    · rw [if_neg (show ¬ (q2601.1 = 0) from g)] at h
      refine q_iload_n dX12_ship_22 rfl rfl ?_
      refine q_bipush dX12_ship_23 (by decide) rfl ?_
      obtain ⟨c2604, h⟩ := qk_some h
      refine q_icmp_ge (tgt := 35) dX12_ship_25 (by decide) rfl (qRb_R c2604) ⟨by decide, by decide⟩ (fun g => ?_) (fun g => ?_)
      · rw [if_pos (show 9 ≤ a2 from g)] at h
        refine q_aload_n dX12_ship_35 rfl rfl ?_
        refine q_iload_n dX12_ship_36 rfl rfl ?_
        obtain ⟨q2605, h2606, h⟩ := Option.bind_eq_some_iff.mp h
        refine q_callVi (as := [qi a1]) (c := 70) dX12_ship_37 ml_X12_326 rfl rfl (hL 70 (by decide)) sh_70 rfl rfl (Nat.le_of_ble_eq_true rfl) (M_stays_ok hL (d + 2) a1 _ _ h2606) rfl ?_
        obtain ⟨c2607, h⟩ := qk_some h
        refine q_if_ne (tgt := 46) dX12_ship_40 (by decide) rfl (qRb_R c2607)  (fun g => ?_) (fun g => ?_)
        · rw [if_neg (show ¬ (q2605.1 = 0) from g)] at h
          refine q_iload_n dX12_ship_46 rfl rfl ?_
          obtain ⟨c2608, h⟩ := qk_some h
          by_cases e4219 : a2 = 9
          · rw [if_pos e4219] at h
            refine q_tsw (tgt := 168) dX12_ship_47 (qRb_R c2608) (by decide) (fun g => absurd g (by rw [e4219]; decide)) (fun _ _ => ⟨45, 92, by rw [e4219]; rfl, by decide, ?_⟩)
            refine q_aload_n dX12_ship_92 rfl rfl ?_
            refine q_getA dX12_ship_93 fl_X12_36 (hL 70 (by decide)) sh_70 (by decide) rfl rfl ?_
            refine q_iload_n dX12_ship_96 rfl rfl ?_
            obtain ⟨c2609, h⟩ := qk_some h
            refine q_iaload dX12_ship_97 (hL 78 (by decide)) sh_78 (qIx_0 c2609) (qIx_1 c2609) rfl ?_
            cases h
            exact q_ireturn dX12_ship_98 rfl hQ
          · rw [if_neg e4219] at h
            by_cases e4220 : a2 = 10
            · rw [if_pos e4220] at h
              refine q_tsw (tgt := 168) dX12_ship_47 (qRb_R c2608) (by decide) (fun g => absurd g (by rw [e4220]; decide)) (fun _ _ => ⟨52, 99, by rw [e4220]; rfl, by decide, ?_⟩)
              refine q_aload_n dX12_ship_99 rfl rfl ?_
              refine q_getA dX12_ship_100 fl_X12_39 (hL 70 (by decide)) sh_70 (by decide) rfl rfl ?_
              refine q_iload_n dX12_ship_103 rfl rfl ?_
              obtain ⟨c2610, h⟩ := qk_some h
              refine q_iaload dX12_ship_104 (hL 79 (by decide)) sh_79 (qIx_0 c2610) (qIx_1 c2610) rfl ?_
              cases h
              exact q_ireturn dX12_ship_105 rfl hQ
            · rw [if_neg e4220] at h
              by_cases e4221 : a2 = 11
              · rw [if_pos e4221] at h
                refine q_tsw (tgt := 168) dX12_ship_47 (qRb_R c2608) (by decide) (fun g => absurd g (by rw [e4221]; decide)) (fun _ _ => ⟨59, 106, by rw [e4221]; rfl, by decide, ?_⟩)
                refine q_aload_n dX12_ship_106 rfl rfl ?_
                refine q_getA dX12_ship_107 fl_X12_42 (hL 70 (by decide)) sh_70 (by decide) rfl rfl ?_
                refine q_iload_n dX12_ship_110 rfl rfl ?_
                obtain ⟨c2611, h⟩ := qk_some h
                refine q_iaload dX12_ship_111 (hL 80 (by decide)) sh_80 (qIx_0 c2611) (qIx_1 c2611) rfl ?_
                cases h
                exact q_ireturn dX12_ship_112 rfl hQ
              · rw [if_neg e4221] at h
                by_cases e4222 : a2 = 12
                · rw [if_pos e4222] at h
                  refine q_tsw (tgt := 168) dX12_ship_47 (qRb_R c2608) (by decide) (fun g => absurd g (by rw [e4222]; decide)) (fun _ _ => ⟨66, 113, by rw [e4222]; rfl, by decide, ?_⟩)
                  refine q_aload_n dX12_ship_113 rfl rfl ?_
                  refine q_getA dX12_ship_114 fl_X12_45 (hL 70 (by decide)) sh_70 (by decide) rfl rfl ?_
                  refine q_iload_n dX12_ship_117 rfl rfl ?_
                  obtain ⟨c2612, h⟩ := qk_some h
                  refine q_iaload dX12_ship_118 (hL 81 (by decide)) sh_81 (qIx_0 c2612) (qIx_1 c2612) rfl ?_
                  cases h
                  exact q_ireturn dX12_ship_119 rfl hQ
                · rw [if_neg e4222] at h
                  by_cases e4223 : a2 = 13
                  · rw [if_pos e4223] at h
                    refine q_tsw (tgt := 168) dX12_ship_47 (qRb_R c2608) (by decide) (fun g => absurd g (by rw [e4223]; decide)) (fun _ _ => ⟨73, 120, by rw [e4223]; rfl, by decide, ?_⟩)
                    refine q_aload_n dX12_ship_120 rfl rfl ?_
                    refine q_getA dX12_ship_121 fl_X12_48 (hL 70 (by decide)) sh_70 (by decide) rfl rfl ?_
                    refine q_iload_n dX12_ship_124 rfl rfl ?_
                    obtain ⟨c2613, h⟩ := qk_some h
                    refine q_iaload dX12_ship_125 (hL 82 (by decide)) sh_82 (qIx_0 c2613) (qIx_1 c2613) rfl ?_
                    cases h
                    exact q_ireturn dX12_ship_126 rfl hQ
                  · rw [if_neg e4223] at h
                    by_cases e4224 : a2 = 14
                    · rw [if_pos e4224] at h
                      refine q_tsw (tgt := 168) dX12_ship_47 (qRb_R c2608) (by decide) (fun g => absurd g (by rw [e4224]; decide)) (fun _ _ => ⟨80, 127, by rw [e4224]; rfl, by decide, ?_⟩)
                      refine q_aload_n dX12_ship_127 rfl rfl ?_
                      refine q_getA dX12_ship_128 fl_X12_39 (hL 70 (by decide)) sh_70 (by decide) rfl rfl ?_
                      refine q_iload_n dX12_ship_131 rfl rfl ?_
                      obtain ⟨c2614, h⟩ := qk_some h
                      refine q_iaload dX12_ship_132 (hL 79 (by decide)) sh_79 (qIx_0 c2614) (qIx_1 c2614) rfl ?_
                      refine q_aload_n dX12_ship_133 rfl rfl ?_
                      refine q_iload_n dX12_ship_134 rfl rfl ?_
                      refine q_iconst dX12_ship_135 rfl rfl ?_
                      obtain ⟨q2615, h2616, h⟩ := Option.bind_eq_some_iff.mp h
                      refine q_callVi (as := [qi a1, qi 4]) (c := 70) dX12_ship_136 ml_X12_316 rfl rfl (hL 70 (by decide)) sh_70 rfl rfl (Nat.le_of_ble_eq_true rfl) (M_of_ok hL (d + 2) a1 4 _ _ h2616) rfl ?_
                      refine q_isub dX12_ship_139 rfl ?_
                      cases h
                      exact q_ireturn dX12_ship_140 rfl hQ
                    · rw [if_neg e4224] at h
                      by_cases e4225 : a2 = 15
                      · rw [if_pos e4225] at h
                        refine q_tsw (tgt := 168) dX12_ship_47 (qRb_R c2608) (by decide) (fun g => absurd g (by rw [e4225]; decide)) (fun _ _ => ⟨94, 141, by rw [e4225]; rfl, by decide, ?_⟩)
                        refine q_aload_n dX12_ship_141 rfl rfl ?_
                        refine q_getA dX12_ship_142 fl_X12_48 (hL 70 (by decide)) sh_70 (by decide) rfl rfl ?_
                        refine q_iload_n dX12_ship_145 rfl rfl ?_
                        obtain ⟨c2617, h⟩ := qk_some h
                        refine q_iaload dX12_ship_146 (hL 82 (by decide)) sh_82 (qIx_0 c2617) (qIx_1 c2617) rfl ?_
                        refine q_aload_n dX12_ship_147 rfl rfl ?_
                        refine q_getA dX12_ship_148 fl_X12_39 (hL 70 (by decide)) sh_70 (by decide) rfl rfl ?_
                        refine q_iload_n dX12_ship_151 rfl rfl ?_
                        obtain ⟨c2618, h⟩ := qk_some h
                        refine q_iaload dX12_ship_152 (hL 79 (by decide)) sh_79 (qIx_0 c2618) (qIx_1 c2618) rfl ?_
                        refine q_isub dX12_ship_153 rfl ?_
                        refine q_aload_n dX12_ship_154 rfl rfl ?_
                        refine q_getA dX12_ship_155 fl_X12_45 (hL 70 (by decide)) sh_70 (by decide) rfl rfl ?_
                        refine q_iload_n dX12_ship_158 rfl rfl ?_
                        obtain ⟨c2619, h⟩ := qk_some h
                        refine q_iaload dX12_ship_159 (hL 81 (by decide)) sh_81 (qIx_0 c2619) (qIx_1 c2619) rfl ?_
                        refine q_isub dX12_ship_160 rfl ?_
                        cases h
                        exact q_ireturn dX12_ship_161 rfl hQ
                      · rw [if_neg e4225] at h
                        by_cases e4226 : a2 = 16
                        · rw [if_pos e4226] at h
                          refine q_tsw (tgt := 168) dX12_ship_47 (qRb_R c2608) (by decide) (fun g => absurd g (by rw [e4226]; decide)) (fun _ _ => ⟨115, 162, by rw [e4226]; rfl, by decide, ?_⟩)
                          refine q_aload_n dX12_ship_162 rfl rfl ?_
                          refine q_iload_n dX12_ship_163 rfl rfl ?_
                          obtain ⟨q2620, h2621, h⟩ := Option.bind_eq_some_iff.mp h
                          refine q_callVi (as := [qi a1]) (c := 70) dX12_ship_164 ml_X12_329 rfl rfl (hL 70 (by decide)) sh_70 rfl rfl (Nat.le_of_ble_eq_true rfl) (M_lateOf_ok hL (d + 1) a1 _ _ h2621) rfl ?_
                          cases h
                          exact q_ireturn dX12_ship_167 rfl hQ
                        · rw [if_neg e4226] at h
                          refine q_tsw (tgt := 168) dX12_ship_47 (qRb_R c2608) (by decide) (fun _ => ?_) (fun g1 g2 => absurd g1 (by omega))
                          refine q_aload_n dX12_ship_168 rfl rfl ?_
                          refine q_iload_n dX12_ship_169 rfl rfl ?_
                          obtain ⟨q2622, h2623, h⟩ := Option.bind_eq_some_iff.mp h
                          refine q_callVi (as := [qi a1]) (c := 70) dX12_ship_170 ml_X12_332 rfl rfl (hL 70 (by decide)) sh_70 rfl rfl (Nat.le_of_ble_eq_true rfl) (M_costOf_ok hL d a1 _ _ h2623) rfl ?_
                          cases h
                          exact q_ireturn dX12_ship_173 rfl hQ
        · rw [if_pos (show q2605.1 = 0 from g)] at h
          refine q_bipush dX12_ship_43 (by decide) rfl ?_
          cases h
          exact q_ireturn dX12_ship_45 rfl hQ
      · rw [if_neg (show ¬ (9 ≤ a2) from g)] at h
        refine q_aload_n dX12_ship_28 rfl rfl ?_
        refine q_iload_n dX12_ship_29 rfl rfl ?_
        refine q_iload_n dX12_ship_30 rfl rfl ?_
        obtain ⟨q2624, h2625, h⟩ := Option.bind_eq_some_iff.mp h
        refine q_callVi (as := [qi a1, qi a2]) (c := 70) dX12_ship_31 ml_X12_316 rfl rfl (hL 70 (by decide)) sh_70 rfl rfl (Nat.le_of_ble_eq_true rfl) (M_of_ok hL (d + 2) a1 a2 _ _ h2625) rfl ?_
        cases h
        exact q_ireturn dX12_ship_34 rfl hQ
    · rw [if_pos (show q2601.1 = 0 from g)] at h
      refine q_iconst dX12_ship_20 rfl rfl ?_
      cases h
      exact q_ireturn dX12_ship_21 rfl hQ
set_option maxRecDepth 20000 in
theorem M_lettersOf_L9_ok {X : qX} (hL : ∀ c, c < 93 → c ∈ qLs X) (d : Nat) {Q : Option qV → qSto → Prop} : ∀ (n : Nat) (x2 : Int) (x3 : Int) (S : qSto) (o : (Int × qSto)), M_lettersOf_L9 n x2 x3 S = some o → (qW X d yX12_lettersOf cX12_lettersOf 5 (some .int) 28 [(2, qi o.1)] [] o.2 Q) → qW X d yX12_lettersOf cX12_lettersOf 5 (some .int) 9 [(2, qi x2), (3, ql x3)] [] S Q := by
  intro n
  induction n with
  | zero =>
    intro x2 x3 S o h
    simp [M_lettersOf_L9] at h
  | succ n ih =>
    intro x2 x3 S o h hE
    rw [M_lettersOf_L9] at h
    refine q_lload_n dX12_lettersOf_9 rfl rfl ?_
    refine q_lconst (v := 0) dX12_lettersOf_10 rfl rfl ?_
    obtain ⟨c2634, h⟩ := qk_some h
    refine q_lcmp dX12_lettersOf_11 (qRLb_R c2634) ⟨by decide, by decide⟩ rfl ?_
    refine q_if_le (tgt := 28) dX12_lettersOf_12 (by decide) rfl (q3_R _ _)  (fun g => ?_) (fun g => ?_)
    · rw [if_pos (show x3 ≤ 0 from (q3_le _ _).mp g)] at h
      cases h
      exact q_pick [0] rfl (hE)
    · rw [if_neg (show ¬ (x3 ≤ 0) from fun e => g ((q3_le _ _).mpr e))] at h
      refine q_iload_n dX12_lettersOf_15 rfl rfl ?_
      refine q_iconst dX12_lettersOf_16 rfl rfl ?_
      refine q_iadd dX12_lettersOf_17 rfl ?_
      refine q_istore_n (lv' := [(2, qi (x2 + 1)), (3, ql x3)]) dX12_lettersOf_18 (by decide) rfl rfl ?_
      refine q_lload_n dX12_lettersOf_19 rfl rfl ?_
      refine q_ldc2 (v := 32) dX12_lettersOf_20 qw_1513 rfl ?_
      obtain ⟨c2635, h⟩ := qk_some h
      refine q_ldiv dX12_lettersOf_23 (qRLb_R c2635) ⟨by decide, by decide⟩ (by decide) rfl ?_
      refine q_lstore_n (lv' := [(3, ql (Int.tdiv x3 32)), (2, qi (x2 + 1))]) dX12_lettersOf_24 (by decide) rfl rfl ?_
      refine q_goto (pc' := 9) dX12_lettersOf_25 (by decide) ?_
      exact q_pick [1, 0] rfl (ih (x2 + 1) (Int.tdiv x3 32) _ _ h hE)
set_option maxRecDepth 20000 in
theorem M_lettersOf_ok {X : qX} (hL : ∀ c, c < 93 → c ∈ qLs X) (d : Nat) (a1 : Int) (S : qSto) (o : (Int × qSto)) (h : M_lettersOf a1 S = some o) (Q : Option qV → qSto → Prop) (hQ : Q (some (qi o.1)) o.2) : qC X d yX12_lettersOf cX12_lettersOf 5 (some .int) [qr 70, qi a1] S Q := by
  refine q_entry (lv := [(0, qr 70), (1, qi a1)]) pn_X12 (Nat.le_of_ble_eq_true rfl) rfl ?_
  unfold M_lettersOf at h
  refine q_iconst dX12_lettersOf_0 rfl rfl ?_
  refine q_istore_n (lv' := [(2, qi 0), (0, qr 70), (1, qi a1)]) dX12_lettersOf_1 (by decide) rfl rfl ?_
  refine q_aload_n dX12_lettersOf_2 rfl rfl ?_
  refine q_getA dX12_lettersOf_3 fl_X12_20 (hL 70 (by decide)) sh_70 (by decide) rfl rfl ?_
  refine q_iload_n dX12_lettersOf_6 rfl rfl ?_
  obtain ⟨c2633, h⟩ := qk_some h
  refine q_laload dX12_lettersOf_7 (hL 74 (by decide)) sh_74 (qIx_0 c2633) (qIx_1 c2633) rfl ?_
  refine q_lstore_n (lv' := [(3, ql (S 74 (Int.toNat a1))), (2, qi 0), (0, qr 70), (1, qi a1)]) dX12_lettersOf_8 (by decide) rfl rfl ?_
  obtain ⟨q2636, h2637, h⟩ := Option.bind_eq_some_iff.mp h
  refine q_pick [1, 0] rfl (M_lettersOf_L9_ok hL d qF 0 (S 74 (Int.toNat a1)) _ _ h2637 ?_)
  refine q_iload_n dX12_lettersOf_28 rfl rfl ?_
  cases h
  exact q_ireturn dX12_lettersOf_29 rfl hQ
set_option maxRecDepth 20000 in
theorem M_letter_L48_ok {X : qX} (hL : ∀ c, c < 93 → c ∈ qLs X) (d : Nat) {Q : Option qV → qSto → Prop} : ∀ (n : Nat) (x2 : Int) (x4 : Int) (x6 : Int) (S : qSto) (o : (Int × qSto)), M_letter_L48 n x2 x4 x6 S = some o → (qW X (d + 2) yX12_letter cX12_letter 7 (some .int) 68 [(4, ql o.1)] [] o.2 Q) → qW X (d + 2) yX12_letter cX12_letter 7 (some .int) 48 [(2, qi x2), (4, ql x4), (6, qi x6)] [] S Q := by
  intro n
  induction n with
  | zero =>
    intro x2 x4 x6 S o h
    simp [M_letter_L48] at h
  | succ n ih =>
    intro x2 x4 x6 S o h hE
    rw [M_letter_L48] at h
    refine q_iload dX12_letter_48 rfl rfl ?_
    refine q_iload_n dX12_letter_50 rfl rfl ?_
    obtain ⟨c2643, h⟩ := qk_some h
    obtain ⟨c2644, h⟩ := qk_some h
    refine q_icmp_le (tgt := 68) dX12_letter_51 (by decide) rfl (qRb_R c2643) (qRb_R c2644) (fun g => ?_) (fun g => ?_)
    · rw [if_pos (show x6 ≤ x2 from g)] at h
      cases h
      exact q_pick [1] rfl (hE)
    · rw [if_neg (show ¬ (x6 ≤ x2) from g)] at h
      refine q_lload dX12_letter_54 rfl rfl ?_
      refine q_ldc2 (v := 32) dX12_letter_56 qw_1513 rfl ?_
      obtain ⟨c2645, h⟩ := qk_some h
      refine q_ldiv dX12_letter_59 (qRLb_R c2645) ⟨by decide, by decide⟩ (by decide) rfl ?_
      refine q_lstore (lv' := [(4, ql (Int.tdiv x4 32)), (2, qi x2), (6, qi x6)]) dX12_letter_60 (by decide) rfl rfl ?_
      refine q_iinc (lv' := [(6, qi (x6 + (-1))), (4, ql (Int.tdiv x4 32)), (2, qi x2)]) dX12_letter_62 (by decide) rfl rfl rfl ?_
      refine q_goto (pc' := 48) dX12_letter_65 (by decide) ?_
      exact q_pick [2, 1, 0] rfl (ih x2 (Int.tdiv x4 32) (x6 + (-1)) _ _ h hE)
set_option maxRecDepth 20000 in
theorem M_letter_ok {X : qX} (hL : ∀ c, c < 93 → c ∈ qLs X) (d : Nat) (a1 : Int) (a2 : Int) (S : qSto) (o : (Int × qSto)) (h : M_letter a1 a2 S = some o) (Q : Option qV → qSto → Prop) (hQ : Q (some (qi o.1)) o.2) : qC X (d + 2) yX12_letter cX12_letter 7 (some .int) [qr 70, qi a1, qi a2] S Q := by
  refine q_entry (lv := [(0, qr 70), (1, qi a1), (2, qi a2)]) pn_X12 (Nat.le_of_ble_eq_true rfl) rfl ?_
  unfold M_letter at h
  refine q_aload_n dX12_letter_0 rfl rfl ?_
  refine q_iload_n dX12_letter_1 rfl rfl ?_
  obtain ⟨q2626, h2627, h⟩ := Option.bind_eq_some_iff.mp h
  refine q_callVi (as := [qi a1]) (c := 70) dX12_letter_2 ml_X12_297 rfl rfl (hL 70 (by decide)) sh_70 rfl rfl (Nat.le_of_ble_eq_true rfl) (M_isShip_ok hL d a1 _ _ h2627) rfl ?_
  obtain ⟨c2628, h⟩ := qk_some h
  refine q_if_eq (tgt := 20) dX12_letter_5 (by decide) rfl (qRb_R c2628)  (fun g => ?_) (fun g => ?_)
  · rw [if_pos (show q2626.1 = 0 from g)] at h
    refine q_iconst dX12_letter_20 rfl rfl ?_
    cases h
    exact q_ireturn dX12_letter_21 rfl hQ
  · rw [if_neg (show ¬ (q2626.1 = 0) from g)] at h
    refine q_iload_n dX12_letter_8 rfl rfl ?_
    obtain ⟨c2629, h⟩ := qk_some h
    refine q_i2l dX12_letter_9 (qRb_R c2629) rfl ?_
    refine q_lconst (v := 0) dX12_letter_10 rfl rfl ?_
    refine q_ldc2 (v := 7) dX12_letter_11 qw_1696 rfl ?_
    obtain ⟨q2630, h2631, h⟩ := Option.bind_eq_some_iff.mp h
    refine q_callSi (as := [ql a2, ql 0, ql 7]) dX12_letter_14 ml_X12_99 rfl rfl (Nat.le_of_ble_eq_true rfl) (M_in_ok hL (d + 1) a2 0 7 _ _ h2631) rfl ?_
    obtain ⟨c2632, h⟩ := qk_some h
    refine q_if_ne (tgt := 22) dX12_letter_17 (by decide) rfl (qRb_R c2632)  (fun g => ?_) (fun g => ?_)
    · rw [if_neg (show ¬ (q2630.1 = 0) from g)] at h
      refine q_aload_n dX12_letter_22 rfl rfl ?_
      refine q_iload_n dX12_letter_23 rfl rfl ?_
      obtain ⟨q2638, h2639, h⟩ := Option.bind_eq_some_iff.mp h
      refine q_callVi (as := [qi a1]) (c := 70) dX12_letter_24 ml_X12_302 rfl rfl (hL 70 (by decide)) sh_70 rfl rfl (Nat.le_of_ble_eq_true rfl) (M_lettersOf_ok hL (d + 1) a1 _ _ h2639) rfl ?_
      refine q_istore_n (lv' := [(3, qi q2638.1), (0, qr 70), (1, qi a1), (2, qi a2)]) dX12_letter_27 (by decide) rfl rfl ?_
      refine q_iload_n dX12_letter_28 rfl rfl ?_
      refine q_iload_n dX12_letter_29 rfl rfl ?_
      obtain ⟨c2640, h⟩ := qk_some h
      obtain ⟨c2641, h⟩ := qk_some h
      refine q_icmp_lt (tgt := 35) dX12_letter_30 (by decide) rfl (qRb_R c2640) (qRb_R c2641) (fun g => ?_) (fun g => ?_)
      · rw [if_pos (show a2 < q2638.1 from g)] at h
        refine q_aload_n dX12_letter_35 rfl rfl ?_
        refine q_getA dX12_letter_36 fl_X12_20 (hL 70 (by decide)) sh_70 (by decide) rfl rfl ?_
        refine q_iload_n dX12_letter_39 rfl rfl ?_
        obtain ⟨c2642, h⟩ := qk_some h
        refine q_laload dX12_letter_40 (hL 74 (by decide)) sh_74 (qIx_0 c2642) (qIx_1 c2642) rfl ?_
        refine q_lstore (lv' := [(4, ql (q2638.2 74 (Int.toNat a1))), (3, qi q2638.1), (0, qr 70), (1, qi a1), (2, qi a2)]) dX12_letter_41 (by decide) rfl rfl ?_
        refine q_iload_n dX12_letter_43 rfl rfl ?_
        refine q_iconst dX12_letter_44 rfl rfl ?_
        refine q_isub dX12_letter_45 rfl ?_
        refine q_istore (lv' := [(6, qi (q2638.1 - 1)), (4, ql (q2638.2 74 (Int.toNat a1))), (3, qi q2638.1), (0, qr 70), (1, qi a1), (2, qi a2)]) dX12_letter_46 (by decide) rfl rfl ?_
        obtain ⟨q2646, h2647, h⟩ := Option.bind_eq_some_iff.mp h
        refine q_pick [5, 1, 0] rfl (M_letter_L48_ok hL d qF a2 (q2638.2 74 (Int.toNat a1)) (q2638.1 - 1) _ _ h2647 ?_)
        refine q_lload dX12_letter_68 rfl rfl ?_
        refine q_ldc2 (v := 32) dX12_letter_70 qw_1513 rfl ?_
        obtain ⟨c2648, h⟩ := qk_some h
        refine q_lrem dX12_letter_73 (qRLb_R c2648) ⟨by decide, by decide⟩ (by decide) rfl ?_
        refine q_l2i dX12_letter_74 rfl ?_
        cases h
        exact q_ireturn dX12_letter_75 rfl hQ
      · rw [if_neg (show ¬ (a2 < q2638.1) from g)] at h
        refine q_iconst dX12_letter_33 rfl rfl ?_
        cases h
        exact q_ireturn dX12_letter_34 rfl hQ
    · rw [if_pos (show q2630.1 = 0 from g)] at h
      refine q_iconst dX12_letter_20 rfl rfl ?_
      cases h
      exact q_ireturn dX12_letter_21 rfl hQ
set_option maxRecDepth 20000 in
theorem M_movesBy_ok {X : qX} (hL : ∀ c, c < 93 → c ∈ qLs X) (d : Nat) (a1 : Int) (S : qSto) (o : (Int × qSto)) (h : M_movesBy a1 S = some o) (Q : Option qV → qSto → Prop) (hQ : Q (some (qi o.1)) o.2) : qC X d yX12_movesBy cX12_movesBy 3 (some .int) [qr 70, qi a1] S Q := by
  refine q_entry (lv := [(0, qr 70), (1, qi a1)]) pn_X12 (Nat.le_of_ble_eq_true rfl) rfl ?_
  unfold M_movesBy at h
  refine q_iload_n dX12_movesBy_0 rfl rfl ?_
  refine q_aload_n dX12_movesBy_1 rfl rfl ?_
  refine q_getA dX12_movesBy_2 fl_X12_13 (hL 70 (by decide)) sh_70 (by decide) rfl rfl ?_
  refine q_iconst dX12_movesBy_5 rfl rfl ?_
  refine q_iaload dX12_movesBy_6 (hL 72 (by decide)) sh_72 (by decide) (by decide) rfl ?_
  refine q_imul dX12_movesBy_7 rfl ?_
  refine q_bipush dX12_movesBy_8 (by decide) rfl ?_
  refine q_aload_n dX12_movesBy_10 rfl rfl ?_
  refine q_getA dX12_movesBy_11 fl_X12_13 (hL 70 (by decide)) sh_70 (by decide) rfl rfl ?_
  refine q_iconst dX12_movesBy_14 rfl rfl ?_
  refine q_iaload dX12_movesBy_15 (hL 72 (by decide)) sh_72 (by decide) (by decide) rfl ?_
  refine q_iload_n dX12_movesBy_16 rfl rfl ?_
  refine q_iconst dX12_movesBy_17 rfl rfl ?_
  refine q_isub dX12_movesBy_18 rfl ?_
  refine q_imul dX12_movesBy_19 rfl ?_
  refine q_isub dX12_movesBy_20 rfl ?_
  refine q_imul dX12_movesBy_21 rfl ?_
  refine q_bipush dX12_movesBy_22 (by decide) rfl ?_
  obtain ⟨c2653, h⟩ := qk_some h
  refine q_idiv dX12_movesBy_24 (qRb_R c2653) ⟨by decide, by decide⟩ (by decide) rfl ?_
  refine q_istore_n (lv' := [(2, qi (Int.tdiv ((a1 * (S 72 4)) * (100 - ((S 72 5) * (a1 - 1)))) 100)), (0, qr 70), (1, qi a1)]) dX12_movesBy_25 (by decide) rfl rfl ?_
  refine q_iload_n dX12_movesBy_26 rfl rfl ?_
  refine q_iload_n dX12_movesBy_27 rfl rfl ?_
  obtain ⟨c2654, h⟩ := qk_some h
  obtain ⟨c2655, h⟩ := qk_some h
  refine q_icmp_ge (tgt := 35) dX12_movesBy_28 (by decide) rfl (qRb_R c2654) (qRb_R c2655) (fun g => ?_) (fun g => ?_)
  · rw [if_pos (show a1 ≤ (Int.tdiv ((a1 * (S 72 4)) * (100 - ((S 72 5) * (a1 - 1)))) 100) from g)] at h
    refine q_iload_n dX12_movesBy_35 rfl rfl ?_
    cases h
    exact q_ireturn dX12_movesBy_36 rfl hQ
  · rw [if_neg (show ¬ (a1 ≤ (Int.tdiv ((a1 * (S 72 4)) * (100 - ((S 72 5) * (a1 - 1)))) 100)) from g)] at h
    refine q_iload_n dX12_movesBy_31 rfl rfl ?_
    refine q_goto (pc' := 36) dX12_movesBy_32 (by decide) ?_
    cases h
    exact q_ireturn dX12_movesBy_36 rfl hQ
set_option maxRecDepth 20000 in
theorem M_moves_ok {X : qX} (hL : ∀ c, c < 93 → c ∈ qLs X) (d : Nat) (a1 : Int) (S : qSto) (o : (Int × qSto)) (h : M_moves a1 S = some o) (Q : Option qV → qSto → Prop) (hQ : Q (some (qi o.1)) o.2) : qC X (d + 1) yX12_moves cX12_moves 2 (some .int) [qr 70, qi a1] S Q := by
  refine q_entry (lv := [(0, qr 70), (1, qi a1)]) pn_X12 (Nat.le_of_ble_eq_true rfl) rfl ?_
  unfold M_moves at h
  refine q_iload_n dX12_moves_0 rfl rfl ?_
  obtain ⟨c2649, h⟩ := qk_some h
  refine q_i2l dX12_moves_1 (qRb_R c2649) rfl ?_
  refine q_lconst (v := 1) dX12_moves_2 rfl rfl ?_
  refine q_ldc2 (v := 8) dX12_moves_3 qw_1683 rfl ?_
  obtain ⟨q2650, h2651, h⟩ := Option.bind_eq_some_iff.mp h
  refine q_callSi (as := [ql a1, ql 1, ql 8]) dX12_moves_6 ml_X12_99 rfl rfl (Nat.le_of_ble_eq_true rfl) (M_in_ok hL d a1 1 8 _ _ h2651) rfl ?_
  obtain ⟨c2652, h⟩ := qk_some h
  refine q_if_eq (tgt := 20) dX12_moves_9 (by decide) rfl (qRb_R c2652)  (fun g => ?_) (fun g => ?_)
  · rw [if_pos (show q2650.1 = 0 from g)] at h
    refine q_iconst dX12_moves_20 rfl rfl ?_
    cases h
    exact q_ireturn dX12_moves_21 rfl hQ
  · rw [if_neg (show ¬ (q2650.1 = 0) from g)] at h
    refine q_aload_n dX12_moves_12 rfl rfl ?_
    refine q_iload_n dX12_moves_13 rfl rfl ?_
    obtain ⟨q2656, h2657, h⟩ := Option.bind_eq_some_iff.mp h
    refine q_callVi (as := [qi a1]) (c := 70) dX12_moves_14 ml_X12_294 rfl rfl (hL 70 (by decide)) sh_70 rfl rfl (Nat.le_of_ble_eq_true rfl) (M_movesBy_ok hL d a1 _ _ h2657) rfl ?_
    refine q_goto (pc' := 21) dX12_moves_17 (by decide) ?_
    cases h
    exact q_ireturn dX12_moves_21 rfl hQ
set_option maxRecDepth 20000 in
theorem M_isWater_ok {X : qX} (hL : ∀ c, c < 93 → c ∈ qLs X) (d : Nat) (a0 : Int) (S : qSto) (o : (Int × qSto)) (h : M_isWater a0 S = some o) (Q : Option qV → qSto → Prop) (hQ : Q (some (qi o.1)) o.2) : qC X (d + 1) yX12_isWater cX12_isWater 1 (some .boolean) [qi a0] S Q := by
  refine q_entry (lv := [(0, qi a0)]) pn_X12 (Nat.le_of_ble_eq_true rfl) rfl ?_
  unfold M_isWater at h
  refine q_iload_n dX12_isWater_0 rfl rfl ?_
  obtain ⟨c2658, h⟩ := qk_some h
  refine q_i2l dX12_isWater_1 (qRb_R c2658) rfl ?_
  refine q_lconst (v := 0) dX12_isWater_2 rfl rfl ?_
  refine q_ldc2 (v := 300) dX12_isWater_3 qw_1708 rfl ?_
  obtain ⟨q2659, h2660, h⟩ := Option.bind_eq_some_iff.mp h
  refine q_callSi (as := [ql a0, ql 0, ql 300]) dX12_isWater_6 ml_X12_99 rfl rfl (Nat.le_of_ble_eq_true rfl) (M_in_ok hL d a0 0 300 _ _ h2660) rfl ?_
  obtain ⟨c2661, h⟩ := qk_some h
  cases h
  exact q_zreturn dX12_isWater_9 rfl (qZb_Z c2661) hQ
set_option maxRecDepth 20000 in
theorem M_isOpen_ok {X : qX} (hL : ∀ c, c < 93 → c ∈ qLs X) (d : Nat) (a1 : Int) (a2 : Int) (S : qSto) (o : (Int × qSto)) (h : M_isOpen a1 a2 S = some o) (Q : Option qV → qSto → Prop) (hQ : Q (some (qi o.1)) o.2) : qC X d yX12_isOpen cX12_isOpen 3 (some .boolean) [qr 70, qi a1, qi a2] S Q := by
  refine q_entry (lv := [(0, qr 70), (1, qi a1), (2, qi a2)]) pn_X12 (Nat.le_of_ble_eq_true rfl) rfl ?_
  unfold M_isOpen at h
  refine q_aload_n dX12_isOpen_0 rfl rfl ?_
  refine q_getA dX12_isOpen_1 fl_X12_13 (hL 70 (by decide)) sh_70 (by decide) rfl rfl ?_
  refine q_iconst dX12_isOpen_4 rfl rfl ?_
  refine q_iaload dX12_isOpen_5 (hL 72 (by decide)) sh_72 (by decide) (by decide) rfl ?_
  refine q_aload_n dX12_isOpen_6 rfl rfl ?_
  refine q_getA dX12_isOpen_7 fl_X12_33 (hL 70 (by decide)) sh_70 (by decide) rfl rfl ?_
  refine q_iload_n dX12_isOpen_10 rfl rfl ?_
  obtain ⟨c2668, h⟩ := qk_some h
  refine q_iaload dX12_isOpen_11 (hL 77 (by decide)) sh_77 (qIx_0 c2668) (qIx_1 c2668) rfl ?_
  refine q_iadd dX12_isOpen_12 rfl ?_
  refine q_iload_n dX12_isOpen_13 rfl rfl ?_
  refine q_aload_n dX12_isOpen_14 rfl rfl ?_
  refine q_getA dX12_isOpen_15 fl_X12_13 (hL 70 (by decide)) sh_70 (by decide) rfl rfl ?_
  refine q_iconst dX12_isOpen_18 rfl rfl ?_
  refine q_iaload dX12_isOpen_19 (hL 72 (by decide)) sh_72 (by decide) (by decide) rfl ?_
  refine q_iadd dX12_isOpen_20 rfl ?_
  obtain ⟨c2669, h⟩ := qk_some h
  obtain ⟨c2670, h⟩ := qk_some h
  refine q_icmp_lt (tgt := 28) dX12_isOpen_21 (by decide) rfl (qRb_R c2669) (qRb_R c2670) (fun g => ?_) (fun g => ?_)
  · rw [if_pos (show ((S 72 3) + (S 77 (Int.toNat a2))) < (a1 + (S 72 2)) from g)] at h
    refine q_iconst dX12_isOpen_28 rfl rfl ?_
    cases h
    exact q_zreturn dX12_isOpen_29 rfl (by decide) hQ
  · rw [if_neg (show ¬ (((S 72 3) + (S 77 (Int.toNat a2))) < (a1 + (S 72 2))) from g)] at h
    refine q_iconst dX12_isOpen_24 rfl rfl ?_
    refine q_goto (pc' := 29) dX12_isOpen_25 (by decide) ?_
    cases h
    exact q_zreturn dX12_isOpen_29 rfl (by decide) hQ
set_option maxRecDepth 20000 in
theorem M_open_ok {X : qX} (hL : ∀ c, c < 93 → c ∈ qLs X) (d : Nat) (a1 : Int) (a2 : Int) (S : qSto) (o : (Int × qSto)) (h : M_open a1 a2 S = some o) (Q : Option qV → qSto → Prop) (hQ : Q (some (qi o.1)) o.2) : qC X (d + 2) yX12_open cX12_open 3 (some .int) [qr 70, qi a1, qi a2] S Q := by
  refine q_entry (lv := [(0, qr 70), (1, qi a1), (2, qi a2)]) pn_X12 (Nat.le_of_ble_eq_true rfl) rfl ?_
  unfold M_open at h
  refine q_iload_n dX12_open_0 rfl rfl ?_
  obtain ⟨q2662, h2663, h⟩ := Option.bind_eq_some_iff.mp h
  refine q_callSi (as := [qi a1]) dX12_open_1 ml_X12_305 rfl rfl (Nat.le_of_ble_eq_true rfl) (M_isWater_ok hL d a1 _ _ h2663) rfl ?_
  obtain ⟨c2664, h⟩ := qk_some h
  refine q_if_eq (tgt := 14) dX12_open_4 (by decide) rfl (qRb_R c2664)  (fun g => ?_) (fun g => ?_)
  · rw [if_pos (show q2662.1 = 0 from g)] at h
    refine q_iconst dX12_open_14 rfl rfl ?_
    cases h
    exact q_ireturn dX12_open_15 rfl hQ
  · rw [if_neg (show ¬ (q2662.1 = 0) from g)] at h
    refine q_iload_n dX12_open_7 rfl rfl ?_
    obtain ⟨q2665, h2666, h⟩ := Option.bind_eq_some_iff.mp h
    refine q_callSi (as := [qi a2]) dX12_open_8 ml_X12_283 rfl rfl (Nat.le_of_ble_eq_true rfl) (M_isSlot_ok hL d a2 _ _ h2666) rfl ?_
    obtain ⟨c2667, h⟩ := qk_some h
    refine q_if_ne (tgt := 16) dX12_open_11 (by decide) rfl (qRb_R c2667)  (fun g => ?_) (fun g => ?_)
    · rw [if_neg (show ¬ (q2665.1 = 0) from g)] at h
      refine q_aload_n dX12_open_16 rfl rfl ?_
      refine q_iload_n dX12_open_17 rfl rfl ?_
      refine q_iload_n dX12_open_18 rfl rfl ?_
      obtain ⟨q2671, h2672, h⟩ := Option.bind_eq_some_iff.mp h
      refine q_callVi (as := [qi a1, qi a2]) (c := 70) dX12_open_19 ml_X12_308 rfl rfl (hL 70 (by decide)) sh_70 rfl rfl (Nat.le_of_ble_eq_true rfl) (M_isOpen_ok hL (d + 1) a1 a2 _ _ h2672) rfl ?_
      obtain ⟨c2673, h⟩ := qk_some h
      refine q_if_eq (tgt := 29) dX12_open_22 (by decide) rfl (qRb_R c2673)  (fun g => ?_) (fun g => ?_)
      · rw [if_pos (show q2671.1 = 0 from g)] at h
        refine q_iconst dX12_open_29 rfl rfl ?_
        cases h
        exact q_ireturn dX12_open_30 rfl hQ
      · rw [if_neg (show ¬ (q2671.1 = 0) from g)] at h
        refine q_iconst dX12_open_25 rfl rfl ?_
        refine q_goto (pc' := 30) dX12_open_26 (by decide) ?_
        cases h
        exact q_ireturn dX12_open_30 rfl hQ
    · rw [if_pos (show q2665.1 = 0 from g)] at h
      refine q_iconst dX12_open_14 rfl rfl ?_
      cases h
      exact q_ireturn dX12_open_15 rfl hQ
set_option maxRecDepth 20000 in
theorem M_nextOpen_L2_ok {X : qX} (hL : ∀ c, c < 93 → c ∈ qLs X) (d : Nat) {Q : Option qV → qSto → Prop} : ∀ (n : Nat) (x1 : Int) (x3 : Int) (S : qSto) (o : (qSto ⊕ (Int × qSto))), M_nextOpen_L2 n x1 x3 S = some o → (∀ t, o = Sum.inl t → qW X (d + 1) yX12_nextOpen cX12_nextOpen 4 (some .int) 26 [] [] t Q) → (∀ w, o = Sum.inr w → Q (some (qi w.1)) w.2) → qW X (d + 1) yX12_nextOpen cX12_nextOpen 4 (some .int) 2 [(0, qr 70), (1, qi x1), (3, qi x3)] [] S Q := by
  intro n
  induction n with
  | zero =>
    intro x1 x3 S o h
    simp [M_nextOpen_L2] at h
  | succ n ih =>
    intro x1 x3 S o h hE hR
    rw [M_nextOpen_L2] at h
    refine q_iload_n dX12_nextOpen_2 rfl rfl ?_
    refine q_sipush dX12_nextOpen_3 (by decide) rfl ?_
    obtain ⟨c2680, h⟩ := qk_some h
    refine q_icmp_ge (tgt := 26) dX12_nextOpen_6 (by decide) rfl (qRb_R c2680) ⟨by decide, by decide⟩ (fun g => ?_) (fun g => ?_)
    · rw [if_pos (show 336 ≤ x3 from g)] at h
      cases h
      exact q_pick [] rfl (hE _ rfl)
    · rw [if_neg (show ¬ (336 ≤ x3) from g)] at h
      refine q_aload_n dX12_nextOpen_9 rfl rfl ?_
      refine q_iload_n dX12_nextOpen_10 rfl rfl ?_
      refine q_iload_n dX12_nextOpen_11 rfl rfl ?_
      obtain ⟨q2681, h2682, h⟩ := Option.bind_eq_some_iff.mp h
      refine q_callVi (as := [qi x1, qi x3]) (c := 70) dX12_nextOpen_12 ml_X12_308 rfl rfl (hL 70 (by decide)) sh_70 rfl rfl (Nat.le_of_ble_eq_true rfl) (M_isOpen_ok hL d x1 x3 _ _ h2682) rfl ?_
      obtain ⟨c2683, h⟩ := qk_some h
      refine q_if_eq (tgt := 20) dX12_nextOpen_15 (by decide) rfl (qRb_R c2683)  (fun g => ?_) (fun g => ?_)
      · rw [if_pos (show q2681.1 = 0 from g)] at h
        refine q_iinc (lv' := [(3, qi (x3 + 1)), (0, qr 70), (1, qi x1)]) dX12_nextOpen_20 (by decide) rfl rfl rfl ?_
        refine q_goto (pc' := 2) dX12_nextOpen_23 (by decide) ?_
        exact q_pick [1, 2, 0] rfl (ih x1 (x3 + 1) _ _ h hE hR)
      · rw [if_neg (show ¬ (q2681.1 = 0) from g)] at h
        refine q_iload_n dX12_nextOpen_18 rfl rfl ?_
        cases h
        exact q_ireturn dX12_nextOpen_19 rfl (hR _ rfl)
set_option maxRecDepth 20000 in
theorem M_nextOpen_ok {X : qX} (hL : ∀ c, c < 93 → c ∈ qLs X) (d : Nat) (a1 : Int) (a2 : Int) (S : qSto) (o : (Int × qSto)) (h : M_nextOpen a1 a2 S = some o) (Q : Option qV → qSto → Prop) (hQ : Q (some (qi o.1)) o.2) : qC X (d + 1) yX12_nextOpen cX12_nextOpen 4 (some .int) [qr 70, qi a1, qi a2] S Q := by
  refine q_entry (lv := [(0, qr 70), (1, qi a1), (2, qi a2)]) pn_X12 (Nat.le_of_ble_eq_true rfl) rfl ?_
  unfold M_nextOpen at h
  refine q_iload_n dX12_nextOpen_0 rfl rfl ?_
  refine q_istore_n (lv' := [(3, qi a2), (0, qr 70), (1, qi a1), (2, qi a2)]) dX12_nextOpen_1 (by decide) rfl rfl ?_
  obtain ⟨q2684, h2685, h⟩ := Option.bind_eq_some_iff.mp h
  refine q_pick [1, 2, 0] rfl (M_nextOpen_L2_ok hL d qF a1 a2 _ _ h2685 (fun t2686 e4227 => ?_) (fun w e4227 => ?_))
  · subst e4227
    simp only [Sum.elim_inl] at h
    refine q_iconst dX12_nextOpen_26 rfl rfl ?_
    cases h
    exact q_ireturn dX12_nextOpen_27 rfl hQ
  · subst e4227
    simp only [Sum.elim_inr] at h
    cases h
    exact hQ
set_option maxRecDepth 20000 in
theorem M_next_ok {X : qX} (hL : ∀ c, c < 93 → c ∈ qLs X) (d : Nat) (a1 : Int) (a2 : Int) (S : qSto) (o : (Int × qSto)) (h : M_next a1 a2 S = some o) (Q : Option qV → qSto → Prop) (hQ : Q (some (qi o.1)) o.2) : qC X (d + 2) yX12_next cX12_next 4 (some .int) [qr 70, qi a1, qi a2] S Q := by
  refine q_entry (lv := [(0, qr 70), (1, qi a1), (2, qi a2)]) pn_X12 (Nat.le_of_ble_eq_true rfl) rfl ?_
  unfold M_next at h
  refine q_iload_n dX12_next_0 rfl rfl ?_
  obtain ⟨q2674, h2675, h⟩ := Option.bind_eq_some_iff.mp h
  refine q_callSi (as := [qi a1]) dX12_next_1 ml_X12_305 rfl rfl (Nat.le_of_ble_eq_true rfl) (M_isWater_ok hL d a1 _ _ h2675) rfl ?_
  obtain ⟨c2676, h⟩ := qk_some h
  refine q_if_eq (tgt := 14) dX12_next_4 (by decide) rfl (qRb_R c2676)  (fun g => ?_) (fun g => ?_)
  · rw [if_pos (show q2674.1 = 0 from g)] at h
    refine q_iconst dX12_next_14 rfl rfl ?_
    cases h
    exact q_ireturn dX12_next_15 rfl hQ
  · rw [if_neg (show ¬ (q2674.1 = 0) from g)] at h
    refine q_iload_n dX12_next_7 rfl rfl ?_
    obtain ⟨q2677, h2678, h⟩ := Option.bind_eq_some_iff.mp h
    refine q_callSi (as := [qi a2]) dX12_next_8 ml_X12_283 rfl rfl (Nat.le_of_ble_eq_true rfl) (M_isSlot_ok hL d a2 _ _ h2678) rfl ?_
    obtain ⟨c2679, h⟩ := qk_some h
    refine q_if_ne (tgt := 16) dX12_next_11 (by decide) rfl (qRb_R c2679)  (fun g => ?_) (fun g => ?_)
    · rw [if_neg (show ¬ (q2677.1 = 0) from g)] at h
      refine q_aload_n dX12_next_16 rfl rfl ?_
      refine q_iload_n dX12_next_17 rfl rfl ?_
      refine q_iload_n dX12_next_18 rfl rfl ?_
      obtain ⟨q2687, h2688, h⟩ := Option.bind_eq_some_iff.mp h
      refine q_callVi (as := [qi a1, qi a2]) (c := 70) dX12_next_19 ml_X12_311 rfl rfl (hL 70 (by decide)) sh_70 rfl rfl (Nat.le_of_ble_eq_true rfl) (M_nextOpen_ok hL d a1 a2 _ _ h2688) rfl ?_
      refine q_istore_n (lv' := [(3, qi q2687.1), (0, qr 70), (1, qi a1), (2, qi a2)]) dX12_next_22 (by decide) rfl rfl ?_
      refine q_iload_n dX12_next_23 rfl rfl ?_
      refine q_iconst dX12_next_24 rfl rfl ?_
      obtain ⟨c2689, h⟩ := qk_some h
      refine q_icmp_ne (tgt := 33) dX12_next_25 (by decide) rfl (qRb_R c2689) ⟨by decide, by decide⟩ (fun g => ?_) (fun g => ?_)
      · rw [if_neg (show ¬ (q2687.1 = (-1)) from g)] at h
        refine q_iload_n dX12_next_33 rfl rfl ?_
        cases h
        exact q_ireturn dX12_next_34 rfl hQ
      · rw [if_pos (show q2687.1 = (-1) from g)] at h
        refine q_bipush dX12_next_28 (by decide) rfl ?_
        refine q_goto (pc' := 34) dX12_next_30 (by decide) ?_
        cases h
        exact q_ireturn dX12_next_34 rfl hQ
    · rw [if_pos (show q2677.1 = 0 from g)] at h
      refine q_iconst dX12_next_14 rfl rfl ?_
      cases h
      exact q_ireturn dX12_next_15 rfl hQ
set_option maxRecDepth 20000 in
theorem M_shut_L31_ok {X : qX} (hL : ∀ c, c < 93 → c ∈ qLs X) (d : Nat) {Q : Option qV → qSto → Prop} : ∀ (n : Nat) (x1 : Int) (x2 : Int) (x3 : Int) (x4 : Int) (x5 : Int) (x6 : Int) (S : qSto) (o : (Int × Int × qSto)), M_shut_L31 n x1 x3 x4 x5 x6 S = some o → (qW X (d + 2) yX12_shut cX12_shut 7 (some .int) 86 [(2, qi x2), (3, qi o.1), (4, qi o.2.1)] [] o.2.2 Q) → qW X (d + 2) yX12_shut cX12_shut 7 (some .int) 31 [(0, qr 70), (1, qi x1), (2, qi x2), (3, qi x3), (4, qi x4), (5, qi x5), (6, qi x6)] [] S Q := by
  intro n
  induction n with
  | zero =>
    intro x1 x2 x3 x4 x5 x6 S o h
    simp [M_shut_L31] at h
  | succ n ih =>
    intro x1 x2 x3 x4 x5 x6 S o h hE
    rw [M_shut_L31] at h
    refine q_iload dX12_shut_31 rfl rfl ?_
    refine q_sipush dX12_shut_33 (by decide) rfl ?_
    obtain ⟨c2697, h⟩ := qk_some h
    refine q_icmp_ge (tgt := 86) dX12_shut_36 (by decide) rfl (qRb_R c2697) ⟨by decide, by decide⟩ (fun g => ?_) (fun g => ?_)
    · rw [if_pos (show 336 ≤ x6 from g)] at h
      cases h
      exact q_pick [2, 3, 4] rfl (hE)
    · rw [if_neg (show ¬ (336 ≤ x6) from g)] at h
      refine q_aload_n dX12_shut_39 rfl rfl ?_
      refine q_iload_n dX12_shut_40 rfl rfl ?_
      refine q_iload dX12_shut_41 rfl rfl ?_
      obtain ⟨q2698, h2699, h⟩ := Option.bind_eq_some_iff.mp h
      refine q_callVi (as := [qi x1, qi x6]) (c := 70) dX12_shut_43 ml_X12_308 rfl rfl (hL 70 (by decide)) sh_70 rfl rfl (Nat.le_of_ble_eq_true rfl) (M_isOpen_ok hL (d + 1) x1 x6 _ _ h2699) rfl ?_
      refine q_jn (G := fun (t2701 : Int) => qW X (d + 2) yX12_shut cX12_shut 7 (some .int) 57 [(0, qr 70), (1, qi x1), (2, qi x2), (3, qi x3), (4, qi x4), (6, qi x6)] [qi t2701] q2698.2 Q) h (fun t2701 h => ?_) (fun t2701 h hk4228 => ?_)
      · try dsimp only at h
        refine q_istore (lv' := [(5, qi t2701), (0, qr 70), (1, qi x1), (2, qi x2), (3, qi x3), (4, qi x4), (6, qi x6)]) dX12_shut_57 (by decide) rfl rfl ?_
        refine q_iload dX12_shut_59 rfl rfl ?_
        refine q_iload_n dX12_shut_61 rfl rfl ?_
        refine q_jn (G := fun (t2704 : (Int × Int)) => qW X (d + 2) yX12_shut cX12_shut 7 (some .int) 80 [(0, qr 70), (1, qi x1), (2, qi x2), (3, qi t2704.1), (4, qi t2704.2), (5, qi t2701), (6, qi x6)] [] q2698.2 Q) h (fun t2704 h => ?_) (fun t2704 h hk4229 => ?_)
        · try dsimp only at h
          refine q_iinc (lv' := [(6, qi (x6 + 1)), (0, qr 70), (1, qi x1), (2, qi x2), (3, qi t2704.1), (4, qi t2704.2), (5, qi t2701)]) dX12_shut_80 (by decide) rfl rfl rfl ?_
          refine q_goto (pc' := 31) dX12_shut_83 (by decide) ?_
          exact q_pick [1, 2, 3, 4, 5, 6, 0] rfl (ih x1 x2 t2704.1 t2704.2 t2701 (x6 + 1) _ _ h hE)
        · skip
          obtain ⟨c2702, h⟩ := qk_some h
          obtain ⟨c2703, h⟩ := qk_some h
          refine q_icmp_gt (tgt := 68) dX12_shut_62 (by decide) rfl (qRb_R c2702) (qRb_R c2703) (fun g => ?_) (fun g => ?_)
          · rw [if_pos (show x3 < t2701 from g)] at h
            refine q_iload dX12_shut_68 rfl rfl ?_
            refine q_istore_n (lv' := [(3, qi t2701), (5, qi t2701), (0, qr 70), (1, qi x1), (2, qi x2), (4, qi x4), (6, qi x6)]) dX12_shut_70 (by decide) rfl rfl ?_
            refine q_iload dX12_shut_71 rfl rfl ?_
            refine q_iload dX12_shut_73 rfl rfl ?_
            refine q_isub dX12_shut_75 rfl ?_
            refine q_iconst dX12_shut_76 rfl rfl ?_
            refine q_iadd dX12_shut_77 rfl ?_
            refine q_istore (lv' := [(4, qi ((x6 - t2701) + 1)), (3, qi t2701), (5, qi t2701), (0, qr 70), (1, qi x1), (2, qi x2), (6, qi x6)]) dX12_shut_78 (by decide) rfl rfl ?_
            cases h
            exact q_pick [3, 4, 5, 1, 0, 2, 6] rfl hk4229
          · rw [if_neg (show ¬ (x3 < t2701) from g)] at h
            refine q_goto (pc' := 80) dX12_shut_65 (by decide) ?_
            cases h
            exact q_pick [1, 2, 3, 4, 5, 0, 6] rfl hk4229
      · skip
        obtain ⟨c2700, h⟩ := qk_some h
        refine q_if_eq (tgt := 53) dX12_shut_46 (by decide) rfl (qRb_R c2700)  (fun g => ?_) (fun g => ?_)
        · rw [if_pos (show q2698.1 = 0 from g)] at h
          refine q_iload dX12_shut_53 rfl rfl ?_
          refine q_iconst dX12_shut_55 rfl rfl ?_
          refine q_iadd dX12_shut_56 rfl ?_
          cases h
          exact q_pick [0, 1, 2, 3, 4, 6] rfl hk4228
        · rw [if_neg (show ¬ (q2698.1 = 0) from g)] at h
          refine q_iconst dX12_shut_49 rfl rfl ?_
          refine q_goto (pc' := 57) dX12_shut_50 (by decide) ?_
          cases h
          exact q_pick [0, 1, 2, 3, 4, 6] rfl hk4228
set_option maxRecDepth 20000 in
theorem M_shut_ok {X : qX} (hL : ∀ c, c < 93 → c ∈ qLs X) (d : Nat) (a1 : Int) (a2 : Int) (S : qSto) (o : (Int × qSto)) (h : M_shut a1 a2 S = some o) (Q : Option qV → qSto → Prop) (hQ : Q (some (qi o.1)) o.2) : qC X (d + 2) yX12_shut cX12_shut 7 (some .int) [qr 70, qi a1, qi a2] S Q := by
  refine q_entry (lv := [(0, qr 70), (1, qi a1), (2, qi a2)]) pn_X12 (Nat.le_of_ble_eq_true rfl) rfl ?_
  unfold M_shut at h
  refine q_iload_n dX12_shut_0 rfl rfl ?_
  obtain ⟨q2690, h2691, h⟩ := Option.bind_eq_some_iff.mp h
  refine q_callSi (as := [qi a1]) dX12_shut_1 ml_X12_305 rfl rfl (Nat.le_of_ble_eq_true rfl) (M_isWater_ok hL d a1 _ _ h2691) rfl ?_
  obtain ⟨c2692, h⟩ := qk_some h
  refine q_if_eq (tgt := 17) dX12_shut_4 (by decide) rfl (qRb_R c2692)  (fun g => ?_) (fun g => ?_)
  · rw [if_pos (show q2690.1 = 0 from g)] at h
    refine q_iconst dX12_shut_17 rfl rfl ?_
    cases h
    exact q_ireturn dX12_shut_18 rfl hQ
  · rw [if_neg (show ¬ (q2690.1 = 0) from g)] at h
    refine q_iload_n dX12_shut_7 rfl rfl ?_
    obtain ⟨c2693, h⟩ := qk_some h
    refine q_i2l dX12_shut_8 (qRb_R c2693) rfl ?_
    refine q_lconst (v := 0) dX12_shut_9 rfl rfl ?_
    refine q_lconst (v := 1) dX12_shut_10 rfl rfl ?_
    obtain ⟨q2694, h2695, h⟩ := Option.bind_eq_some_iff.mp h
    refine q_callSi (as := [ql a2, ql 0, ql 1]) dX12_shut_11 ml_X12_99 rfl rfl (Nat.le_of_ble_eq_true rfl) (M_in_ok hL (d + 1) a2 0 1 _ _ h2695) rfl ?_
    obtain ⟨c2696, h⟩ := qk_some h
    refine q_if_ne (tgt := 19) dX12_shut_14 (by decide) rfl (qRb_R c2696)  (fun g => ?_) (fun g => ?_)
    · rw [if_neg (show ¬ (q2694.1 = 0) from g)] at h
      refine q_iconst dX12_shut_19 rfl rfl ?_
      refine q_istore_n (lv' := [(3, qi 0), (0, qr 70), (1, qi a1), (2, qi a2)]) dX12_shut_20 (by decide) rfl rfl ?_
      refine q_bipush dX12_shut_21 (by decide) rfl ?_
      refine q_istore (lv' := [(4, qi (-2)), (3, qi 0), (0, qr 70), (1, qi a1), (2, qi a2)]) dX12_shut_23 (by decide) rfl rfl ?_
      refine q_iconst dX12_shut_25 rfl rfl ?_
      refine q_istore (lv' := [(5, qi 0), (4, qi (-2)), (3, qi 0), (0, qr 70), (1, qi a1), (2, qi a2)]) dX12_shut_26 (by decide) rfl rfl ?_
      refine q_iconst dX12_shut_28 rfl rfl ?_
      refine q_istore (lv' := [(6, qi 0), (5, qi 0), (4, qi (-2)), (3, qi 0), (0, qr 70), (1, qi a1), (2, qi a2)]) dX12_shut_29 (by decide) rfl rfl ?_
      obtain ⟨q2705, h2706, h⟩ := Option.bind_eq_some_iff.mp h
      refine q_pick [4, 5, 6, 3, 2, 1, 0] rfl (M_shut_L31_ok hL d qF a1 a2 0 (-2) 0 0 _ _ h2706 ?_)
      refine q_iload_n dX12_shut_86 rfl rfl ?_
      obtain ⟨c2707, h⟩ := qk_some h
      refine q_if_ne (tgt := 94) dX12_shut_87 (by decide) rfl (qRb_R c2707)  (fun g => ?_) (fun g => ?_)
      · rw [if_neg (show ¬ (a2 = 0) from g)] at h
        refine q_iload dX12_shut_94 rfl rfl ?_
        cases h
        exact q_ireturn dX12_shut_96 rfl hQ
      · rw [if_pos (show a2 = 0 from g)] at h
        refine q_iload_n dX12_shut_90 rfl rfl ?_
        refine q_goto (pc' := 96) dX12_shut_91 (by decide) ?_
        cases h
        exact q_ireturn dX12_shut_96 rfl hQ
    · rw [if_pos (show q2694.1 = 0 from g)] at h
      refine q_iconst dX12_shut_17 rfl rfl ?_
      cases h
      exact q_ireturn dX12_shut_18 rfl hQ
set_option maxRecDepth 20000 in
theorem M_tide_L42_ok {X : qX} (hL : ∀ c, c < 93 → c ∈ qLs X) (d : Nat) {Q : Option qV → qSto → Prop} : ∀ (n : Nat) (x2 : Int) (x3 : Int) (x4 : Int) (x5 : Int) (x6 : Int) (S : qSto) (o : (Int × Int × qSto)), M_tide_L42 n x2 x4 x5 x6 S = some o → (qW X (d + 2) yX12_tide cX12_tide 7 (some .int) 106 [(0, qr 70), (3, qi x3), (4, qi o.1), (5, qi o.2.1)] [] o.2.2 Q) → qW X (d + 2) yX12_tide cX12_tide 7 (some .int) 42 [(0, qr 70), (2, qi x2), (3, qi x3), (4, qi x4), (5, qi x5), (6, qi x6)] [] S Q := by
  intro n
  induction n with
  | zero =>
    intro x2 x3 x4 x5 x6 S o h
    simp [M_tide_L42] at h
  | succ n ih =>
    intro x2 x3 x4 x5 x6 S o h hE
    rw [M_tide_L42] at h
    refine q_iload dX12_tide_42 rfl rfl ?_
    refine q_iload_n dX12_tide_44 rfl rfl ?_
    obtain ⟨c2720, h⟩ := qk_some h
    obtain ⟨c2721, h⟩ := qk_some h
    refine q_icmp_gt (tgt := 106) dX12_tide_45 (by decide) rfl (qRb_R c2720) (qRb_R c2721) (fun g => ?_) (fun g => ?_)
    · rw [if_pos (show x2 < x6 from g)] at h
      cases h
      exact q_pick [0, 2, 3, 4] rfl (hE)
    · rw [if_neg (show ¬ (x2 < x6) from g)] at h
      refine q_aload_n dX12_tide_48 rfl rfl ?_
      refine q_getA dX12_tide_49 fl_X12_33 (hL 70 (by decide)) sh_70 (by decide) rfl rfl ?_
      refine q_iload dX12_tide_52 rfl rfl ?_
      obtain ⟨c2722, h⟩ := qk_some h
      refine q_iaload dX12_tide_54 (hL 77 (by decide)) sh_77 (qIx_0 c2722) (qIx_1 c2722) rfl ?_
      refine q_aload_n dX12_tide_55 rfl rfl ?_
      refine q_getA dX12_tide_56 fl_X12_33 (hL 70 (by decide)) sh_70 (by decide) rfl rfl ?_
      refine q_iload dX12_tide_59 rfl rfl ?_
      obtain ⟨c2723, h⟩ := qk_some h
      refine q_iaload dX12_tide_61 (hL 77 (by decide)) sh_77 (qIx_0 c2723) (qIx_1 c2723) rfl ?_
      refine q_jn (G := fun (t2726 : Int) => qW X (d + 2) yX12_tide cX12_tide 7 (some .int) 72 [(0, qr 70), (2, qi x2), (3, qi x3), (5, qi x5), (6, qi x6)] [qi t2726] S Q) h (fun t2726 h => ?_) (fun t2726 h hk4230 => ?_)
      · try dsimp only at h
        refine q_istore (lv' := [(4, qi t2726), (0, qr 70), (2, qi x2), (3, qi x3), (5, qi x5), (6, qi x6)]) dX12_tide_72 (by decide) rfl rfl ?_
        refine q_aload_n dX12_tide_74 rfl rfl ?_
        refine q_getA dX12_tide_75 fl_X12_33 (hL 70 (by decide)) sh_70 (by decide) rfl rfl ?_
        refine q_iload dX12_tide_78 rfl rfl ?_
        obtain ⟨c2727, h⟩ := qk_some h
        refine q_iaload dX12_tide_80 (hL 77 (by decide)) sh_77 (qIx_0 c2727) (qIx_1 c2727) rfl ?_
        refine q_aload_n dX12_tide_81 rfl rfl ?_
        refine q_getA dX12_tide_82 fl_X12_33 (hL 70 (by decide)) sh_70 (by decide) rfl rfl ?_
        refine q_iload dX12_tide_85 rfl rfl ?_
        obtain ⟨c2728, h⟩ := qk_some h
        refine q_iaload dX12_tide_87 (hL 77 (by decide)) sh_77 (qIx_0 c2728) (qIx_1 c2728) rfl ?_
        refine q_jn (G := fun (t2731 : Int) => qW X (d + 2) yX12_tide cX12_tide 7 (some .int) 98 [(0, qr 70), (2, qi x2), (3, qi x3), (4, qi t2726), (6, qi x6)] [qi t2731] S Q) h (fun t2731 h => ?_) (fun t2731 h hk4231 => ?_)
        · try dsimp only at h
          refine q_istore (lv' := [(5, qi t2731), (0, qr 70), (2, qi x2), (3, qi x3), (4, qi t2726), (6, qi x6)]) dX12_tide_98 (by decide) rfl rfl ?_
          refine q_iinc (lv' := [(6, qi (x6 + 1)), (5, qi t2731), (0, qr 70), (2, qi x2), (3, qi x3), (4, qi t2726)]) dX12_tide_100 (by decide) rfl rfl rfl ?_
          refine q_goto (pc' := 42) dX12_tide_103 (by decide) ?_
          exact q_pick [2, 3, 4, 5, 1, 0] rfl (ih x2 x3 t2726 t2731 (x6 + 1) _ _ h hE)
        · skip
          obtain ⟨c2729, h⟩ := qk_some h
          obtain ⟨c2730, h⟩ := qk_some h
          refine q_icmp_ge (tgt := 96) dX12_tide_88 (by decide) rfl (qRb_R c2729) (qRb_R c2730) (fun g => ?_) (fun g => ?_)
          · rw [if_pos (show (S 77 (Int.toNat x5)) ≤ (S 77 (Int.toNat x6)) from g)] at h
            refine q_iload dX12_tide_96 rfl rfl ?_
            cases h
            exact q_pick [1, 2, 3, 0, 5] rfl hk4231
          · rw [if_neg (show ¬ ((S 77 (Int.toNat x5)) ≤ (S 77 (Int.toNat x6))) from g)] at h
            refine q_iload dX12_tide_91 rfl rfl ?_
            refine q_goto (pc' := 98) dX12_tide_93 (by decide) ?_
            cases h
            exact q_pick [1, 2, 3, 0, 5] rfl hk4231
      · skip
        obtain ⟨c2724, h⟩ := qk_some h
        obtain ⟨c2725, h⟩ := qk_some h
        refine q_icmp_le (tgt := 70) dX12_tide_62 (by decide) rfl (qRb_R c2724) (qRb_R c2725) (fun g => ?_) (fun g => ?_)
        · rw [if_pos (show (S 77 (Int.toNat x6)) ≤ (S 77 (Int.toNat x4)) from g)] at h
          refine q_iload dX12_tide_70 rfl rfl ?_
          cases h
          exact q_pick [0, 1, 2, 4, 5] rfl hk4230
        · rw [if_neg (show ¬ ((S 77 (Int.toNat x6)) ≤ (S 77 (Int.toNat x4))) from g)] at h
          refine q_iload dX12_tide_65 rfl rfl ?_
          refine q_goto (pc' := 72) dX12_tide_67 (by decide) ?_
          cases h
          exact q_pick [0, 1, 2, 4, 5] rfl hk4230
set_option maxRecDepth 20000 in
theorem M_tide_ok {X : qX} (hL : ∀ c, c < 93 → c ∈ qLs X) (d : Nat) (a1 : Int) (a2 : Int) (a3 : Int) (S : qSto) (o : (Int × qSto)) (h : M_tide a1 a2 a3 S = some o) (Q : Option qV → qSto → Prop) (hQ : Q (some (qi o.1)) o.2) : qC X (d + 2) yX12_tide cX12_tide 7 (some .int) [qr 70, qi a1, qi a2, qi a3] S Q := by
  refine q_entry (lv := [(0, qr 70), (1, qi a1), (2, qi a2), (3, qi a3)]) pn_X12 (Nat.le_of_ble_eq_true rfl) rfl ?_
  unfold M_tide at h
  refine q_iload_n dX12_tide_0 rfl rfl ?_
  obtain ⟨q2708, h2709, h⟩ := Option.bind_eq_some_iff.mp h
  refine q_callSi (as := [qi a1]) dX12_tide_1 ml_X12_283 rfl rfl (Nat.le_of_ble_eq_true rfl) (M_isSlot_ok hL d a1 _ _ h2709) rfl ?_
  obtain ⟨c2710, h⟩ := qk_some h
  refine q_if_eq (tgt := 31) dX12_tide_4 (by decide) rfl (qRb_R c2710)  (fun g => ?_) (fun g => ?_)
  · rw [if_pos (show q2708.1 = 0 from g)] at h
    refine q_iconst dX12_tide_31 rfl rfl ?_
    cases h
    exact q_ireturn dX12_tide_32 rfl hQ
  · rw [if_neg (show ¬ (q2708.1 = 0) from g)] at h
    refine q_iload_n dX12_tide_7 rfl rfl ?_
    obtain ⟨q2711, h2712, h⟩ := Option.bind_eq_some_iff.mp h
    refine q_callSi (as := [qi a2]) dX12_tide_8 ml_X12_283 rfl rfl (Nat.le_of_ble_eq_true rfl) (M_isSlot_ok hL d a2 _ _ h2712) rfl ?_
    obtain ⟨c2713, h⟩ := qk_some h
    refine q_if_eq (tgt := 31) dX12_tide_11 (by decide) rfl (qRb_R c2713)  (fun g => ?_) (fun g => ?_)
    · rw [if_pos (show q2711.1 = 0 from g)] at h
      refine q_iconst dX12_tide_31 rfl rfl ?_
      cases h
      exact q_ireturn dX12_tide_32 rfl hQ
    · rw [if_neg (show ¬ (q2711.1 = 0) from g)] at h
      refine q_iload_n dX12_tide_14 rfl rfl ?_
      refine q_iload_n dX12_tide_15 rfl rfl ?_
      obtain ⟨c2714, h⟩ := qk_some h
      obtain ⟨c2715, h⟩ := qk_some h
      refine q_icmp_lt (tgt := 31) dX12_tide_16 (by decide) rfl (qRb_R c2714) (qRb_R c2715) (fun g => ?_) (fun g => ?_)
      · rw [if_pos (show a2 < a1 from g)] at h
        refine q_iconst dX12_tide_31 rfl rfl ?_
        cases h
        exact q_ireturn dX12_tide_32 rfl hQ
      · rw [if_neg (show ¬ (a2 < a1) from g)] at h
        refine q_iload_n dX12_tide_19 rfl rfl ?_
        obtain ⟨c2716, h⟩ := qk_some h
        refine q_i2l dX12_tide_20 (qRb_R c2716) rfl ?_
        refine q_lconst (v := 0) dX12_tide_21 rfl rfl ?_
        refine q_ldc2 (v := 3) dX12_tide_22 qw_1729 rfl ?_
        obtain ⟨q2717, h2718, h⟩ := Option.bind_eq_some_iff.mp h
        refine q_callSi (as := [ql a3, ql 0, ql 3]) dX12_tide_25 ml_X12_99 rfl rfl (Nat.le_of_ble_eq_true rfl) (M_in_ok hL (d + 1) a3 0 3 _ _ h2718) rfl ?_
        obtain ⟨c2719, h⟩ := qk_some h
        refine q_if_ne (tgt := 33) dX12_tide_28 (by decide) rfl (qRb_R c2719)  (fun g => ?_) (fun g => ?_)
        · rw [if_neg (show ¬ (q2717.1 = 0) from g)] at h
          refine q_iload_n dX12_tide_33 rfl rfl ?_
          refine q_istore (lv' := [(4, qi a1), (0, qr 70), (1, qi a1), (2, qi a2), (3, qi a3)]) dX12_tide_34 (by decide) rfl rfl ?_
          refine q_iload_n dX12_tide_36 rfl rfl ?_
          refine q_istore (lv' := [(5, qi a1), (4, qi a1), (0, qr 70), (1, qi a1), (2, qi a2), (3, qi a3)]) dX12_tide_37 (by decide) rfl rfl ?_
          refine q_iload_n dX12_tide_39 rfl rfl ?_
          refine q_istore (lv' := [(6, qi a1), (5, qi a1), (4, qi a1), (0, qr 70), (1, qi a1), (2, qi a2), (3, qi a3)]) dX12_tide_40 (by decide) rfl rfl ?_
          obtain ⟨q2732, h2733, h⟩ := Option.bind_eq_some_iff.mp h
          refine q_pick [3, 5, 6, 2, 1, 0] rfl (M_tide_L42_ok hL d qF a2 a3 a1 a1 a1 _ _ h2733 ?_)
          refine q_iload_n dX12_tide_106 rfl rfl ?_
          obtain ⟨c2734, h⟩ := qk_some h
          by_cases e4232 : a3 = 0
          · rw [if_pos e4232] at h
            refine q_tsw (tgt := 151) dX12_tide_107 (qRb_R c2734) (by decide) (fun g => absurd g (by rw [e4232]; decide)) (fun _ _ => ⟨25, 132, by rw [e4232]; rfl, by decide, ?_⟩)
            refine q_aload_n dX12_tide_132 rfl rfl ?_
            refine q_getA dX12_tide_133 fl_X12_33 (hL 70 (by decide)) sh_70 (by decide) rfl rfl ?_
            refine q_iload dX12_tide_136 rfl rfl ?_
            obtain ⟨c2735, h⟩ := qk_some h
            refine q_iaload dX12_tide_138 (hL 77 (by decide)) sh_77 (qIx_0 c2735) (qIx_1 c2735) rfl ?_
            cases h
            exact q_ireturn dX12_tide_139 rfl hQ
          · rw [if_neg e4232] at h
            by_cases e4233 : a3 = 1
            · rw [if_pos e4233] at h
              refine q_tsw (tgt := 151) dX12_tide_107 (qRb_R c2734) (by decide) (fun g => absurd g (by rw [e4233]; decide)) (fun _ _ => ⟨33, 140, by rw [e4233]; rfl, by decide, ?_⟩)
              refine q_iload dX12_tide_140 rfl rfl ?_
              cases h
              exact q_ireturn dX12_tide_142 rfl hQ
            · rw [if_neg e4233] at h
              by_cases e4234 : a3 = 2
              · rw [if_pos e4234] at h
                refine q_tsw (tgt := 151) dX12_tide_107 (qRb_R c2734) (by decide) (fun g => absurd g (by rw [e4234]; decide)) (fun _ _ => ⟨36, 143, by rw [e4234]; rfl, by decide, ?_⟩)
                refine q_aload_n dX12_tide_143 rfl rfl ?_
                refine q_getA dX12_tide_144 fl_X12_33 (hL 70 (by decide)) sh_70 (by decide) rfl rfl ?_
                refine q_iload dX12_tide_147 rfl rfl ?_
                obtain ⟨c2736, h⟩ := qk_some h
                refine q_iaload dX12_tide_149 (hL 77 (by decide)) sh_77 (qIx_0 c2736) (qIx_1 c2736) rfl ?_
                cases h
                exact q_ireturn dX12_tide_150 rfl hQ
              · rw [if_neg e4234] at h
                refine q_tsw (tgt := 151) dX12_tide_107 (qRb_R c2734) (by decide) (fun _ => ?_) (fun g1 g2 => absurd g1 (by omega))
                refine q_iload dX12_tide_151 rfl rfl ?_
                cases h
                exact q_ireturn dX12_tide_153 rfl hQ
        · rw [if_pos (show q2717.1 = 0 from g)] at h
          refine q_iconst dX12_tide_31 rfl rfl ?_
          cases h
          exact q_ireturn dX12_tide_32 rfl hQ
set_option maxRecDepth 20000 in
theorem M_workBy_ok {X : qX} (hL : ∀ c, c < 93 → c ∈ qLs X) (d : Nat) (a1 : Int) (a2 : Int) (S : qSto) (o : (Int × qSto)) (h : M_workBy a1 a2 S = some o) (Q : Option qV → qSto → Prop) (hQ : Q (some (qi o.1)) o.2) : qC X (d + 1) yX12_workBy cX12_workBy 5 (some .int) [qr 70, qi a1, qi a2] S Q := by
  refine q_entry (lv := [(0, qr 70), (1, qi a1), (2, qi a2)]) pn_X12 (Nat.le_of_ble_eq_true rfl) rfl ?_
  unfold M_workBy at h
  refine q_aload_n dX12_workBy_0 rfl rfl ?_
  refine q_iload_n dX12_workBy_1 rfl rfl ?_
  obtain ⟨q2770, h2771, h⟩ := Option.bind_eq_some_iff.mp h
  refine q_callVi (as := [qi a2]) (c := 70) dX12_workBy_2 ml_X12_294 rfl rfl (hL 70 (by decide)) sh_70 rfl rfl (Nat.le_of_ble_eq_true rfl) (M_movesBy_ok hL d a2 _ _ h2771) rfl ?_
  refine q_istore_n (lv' := [(3, qi q2770.1), (0, qr 70), (1, qi a1), (2, qi a2)]) dX12_workBy_5 (by decide) rfl rfl ?_
  refine q_aload_n dX12_workBy_6 rfl rfl ?_
  refine q_iload_n dX12_workBy_7 rfl rfl ?_
  refine q_iconst dX12_workBy_8 rfl rfl ?_
  obtain ⟨q2772, h2773, h⟩ := Option.bind_eq_some_iff.mp h
  refine q_callVi (as := [qi a1, qi 3]) (c := 70) dX12_workBy_9 ml_X12_316 rfl rfl (hL 70 (by decide)) sh_70 rfl rfl (Nat.le_of_ble_eq_true rfl) (M_of_ok hL d a1 3 _ _ h2773) rfl ?_
  refine q_iload_n dX12_workBy_12 rfl rfl ?_
  refine q_iadd dX12_workBy_13 rfl ?_
  refine q_iconst dX12_workBy_14 rfl rfl ?_
  refine q_isub dX12_workBy_15 rfl ?_
  refine q_iload_n dX12_workBy_16 rfl rfl ?_
  obtain ⟨c2774, h⟩ := qk_some h
  obtain ⟨c2775, h⟩ := qk_some h
  obtain ⟨c2776, h⟩ := qk_some h
  refine q_idiv dX12_workBy_17 (qRb_R c2774) (qRb_R c2775) (qNz_ne c2776) rfl ?_
  refine q_istore (lv' := [(4, qi (Int.tdiv ((q2772.1 + q2770.1) - 1) q2770.1)), (3, qi q2770.1), (0, qr 70), (1, qi a1), (2, qi a2)]) dX12_workBy_18 (by decide) rfl rfl ?_
  refine q_iload dX12_workBy_20 rfl rfl ?_
  refine q_iconst dX12_workBy_22 rfl rfl ?_
  obtain ⟨c2777, h⟩ := qk_some h
  refine q_icmp_ge (tgt := 30) dX12_workBy_23 (by decide) rfl (qRb_R c2777) ⟨by decide, by decide⟩ (fun g => ?_) (fun g => ?_)
  · rw [if_pos (show 1 ≤ (Int.tdiv ((q2772.1 + q2770.1) - 1) q2770.1) from g)] at h
    refine q_iload dX12_workBy_30 rfl rfl ?_
    cases h
    exact q_ireturn dX12_workBy_32 rfl hQ
  · rw [if_neg (show ¬ (1 ≤ (Int.tdiv ((q2772.1 + q2770.1) - 1) q2770.1)) from g)] at h
    refine q_iconst dX12_workBy_26 rfl rfl ?_
    refine q_goto (pc' := 32) dX12_workBy_27 (by decide) ?_
    cases h
    exact q_ireturn dX12_workBy_32 rfl hQ
set_option maxRecDepth 20000 in
theorem M_leaveBy_ok {X : qX} (hL : ∀ c, c < 93 → c ∈ qLs X) (d : Nat) (a1 : Int) (a2 : Int) (a3 : Int) (S : qSto) (o : (Int × qSto)) (h : M_leaveBy a1 a2 a3 S = some o) (Q : Option qV → qSto → Prop) (hQ : Q (some (qi o.1)) o.2) : qC X (d + 2) yX12_leaveBy cX12_leaveBy 4 (some .int) [qr 70, qi a1, qi a2, qi a3] S Q := by
  refine q_entry (lv := [(0, qr 70), (1, qi a1), (2, qi a2), (3, qi a3)]) pn_X12 (Nat.le_of_ble_eq_true rfl) rfl ?_
  unfold M_leaveBy at h
  refine q_aload_n dX12_leaveBy_0 rfl rfl ?_
  refine q_aload_n dX12_leaveBy_1 rfl rfl ?_
  refine q_iload_n dX12_leaveBy_2 rfl rfl ?_
  refine q_iconst dX12_leaveBy_3 rfl rfl ?_
  obtain ⟨q2768, h2769, h⟩ := Option.bind_eq_some_iff.mp h
  refine q_callVi (as := [qi a1, qi 2]) (c := 70) dX12_leaveBy_4 ml_X12_316 rfl rfl (hL 70 (by decide)) sh_70 rfl rfl (Nat.le_of_ble_eq_true rfl) (M_of_ok hL (d + 1) a1 2 _ _ h2769) rfl ?_
  refine q_iload_n dX12_leaveBy_7 rfl rfl ?_
  refine q_aload_n dX12_leaveBy_8 rfl rfl ?_
  refine q_iload_n dX12_leaveBy_9 rfl rfl ?_
  refine q_iload_n dX12_leaveBy_10 rfl rfl ?_
  obtain ⟨q2778, h2779, h⟩ := Option.bind_eq_some_iff.mp h
  refine q_callVi (as := [qi a1, qi a3]) (c := 70) dX12_leaveBy_11 ml_X12_319 rfl rfl (hL 70 (by decide)) sh_70 rfl rfl (Nat.le_of_ble_eq_true rfl) (M_workBy_ok hL d a1 a3 _ _ h2779) rfl ?_
  refine q_iadd dX12_leaveBy_14 rfl ?_
  obtain ⟨q2780, h2781, h⟩ := Option.bind_eq_some_iff.mp h
  refine q_callVi (as := [qi q2768.1, qi (a2 + q2778.1)]) (c := 70) dX12_leaveBy_15 ml_X12_311 rfl rfl (hL 70 (by decide)) sh_70 rfl rfl (Nat.le_of_ble_eq_true rfl) (M_nextOpen_ok hL d q2768.1 (a2 + q2778.1) _ _ h2781) rfl ?_
  cases h
  exact q_ireturn dX12_leaveBy_18 rfl hQ
set_option maxRecDepth 20000 in
theorem M_earlyLaw_ok {X : qX} (hL : ∀ c, c < 93 → c ∈ qLs X) (d : Nat) (a1 : Int) (a2 : Int) (a4 : Int) (a6 : Int) (S : qSto) (o : (Int × qSto)) (h : M_earlyLaw a1 a2 a4 a6 S = some o) (Q : Option qV → qSto → Prop) (hQ : Q (some (qi o.1)) o.2) : qC X (d + 3) yX12_earlyLaw cX12_earlyLaw 7 (some .int) [qr 70, qi a1, ql a2, ql a4, qi a6] S Q := by
  refine q_entry (lv := [(0, qr 70), (1, qi a1), (2, ql a2), (4, ql a4), (6, qi a6)]) pn_X12 (Nat.le_of_ble_eq_true rfl) rfl ?_
  unfold M_earlyLaw at h
  refine q_lload_n dX12_earlyLaw_0 rfl rfl ?_
  refine q_lconst (v := 0) dX12_earlyLaw_1 rfl rfl ?_
  obtain ⟨c2742, h⟩ := qk_some h
  refine q_lcmp dX12_earlyLaw_2 (qRLb_R c2742) ⟨by decide, by decide⟩ rfl ?_
  refine q_if_lt (tgt := 26) dX12_earlyLaw_3 (by decide) rfl (q3_R _ _)  (fun g => ?_) (fun g => ?_)
  · rw [if_pos (show a2 < 0 from (q3_lt _ _).mp g)] at h
    refine q_iconst dX12_earlyLaw_26 rfl rfl ?_
    cases h
    exact q_ireturn dX12_earlyLaw_27 rfl hQ
  · rw [if_neg (show ¬ (a2 < 0) from fun e => g ((q3_lt _ _).mpr e))] at h
    refine q_lload_n dX12_earlyLaw_6 rfl rfl ?_
    refine q_aload_n dX12_earlyLaw_7 rfl rfl ?_
    refine q_iload_n dX12_earlyLaw_8 rfl rfl ?_
    refine q_iconst dX12_earlyLaw_9 rfl rfl ?_
    obtain ⟨q2743, h2744, h⟩ := Option.bind_eq_some_iff.mp h
    refine q_callVi (as := [qi a1, qi 0]) (c := 70) dX12_earlyLaw_10 ml_X12_316 rfl rfl (hL 70 (by decide)) sh_70 rfl rfl (Nat.le_of_ble_eq_true rfl) (M_of_ok hL (d + 2) a1 0 _ _ h2744) rfl ?_
    obtain ⟨c2745, h⟩ := qk_some h
    refine q_i2l dX12_earlyLaw_13 (qRb_R c2745) rfl ?_
    refine q_ladd dX12_earlyLaw_14 rfl ?_
    refine q_aload_n dX12_earlyLaw_15 rfl rfl ?_
    refine q_getA dX12_earlyLaw_16 fl_X12_13 (hL 70 (by decide)) sh_70 (by decide) rfl rfl ?_
    refine q_iconst dX12_earlyLaw_19 rfl rfl ?_
    refine q_iaload dX12_earlyLaw_20 (hL 72 (by decide)) sh_72 (by decide) (by decide) rfl ?_
    obtain ⟨c2746, h⟩ := qk_some h
    refine q_i2l dX12_earlyLaw_21 (qRb_R c2746) rfl ?_
    obtain ⟨c2747, h⟩ := qk_some h
    obtain ⟨c2748, h⟩ := qk_some h
    refine q_lcmp dX12_earlyLaw_22 (qRLb_R c2747) (qRLb_R c2748) rfl ?_
    refine q_if_le (tgt := 28) dX12_earlyLaw_23 (by decide) rfl (q3_R _ _)  (fun g => ?_) (fun g => ?_)
    · rw [if_pos (show (a2 + q2743.1) ≤ (q2743.2 72 0) from (q3_le _ _).mp g)] at h
      refine q_lload dX12_earlyLaw_28 rfl rfl ?_
      refine q_aload_n dX12_earlyLaw_30 rfl rfl ?_
      refine q_iload_n dX12_earlyLaw_31 rfl rfl ?_
      refine q_iconst dX12_earlyLaw_32 rfl rfl ?_
      obtain ⟨q2749, h2750, h⟩ := Option.bind_eq_some_iff.mp h
      refine q_callVi (as := [qi a1, qi 4]) (c := 70) dX12_earlyLaw_33 ml_X12_316 rfl rfl (hL 70 (by decide)) sh_70 rfl rfl (Nat.le_of_ble_eq_true rfl) (M_of_ok hL (d + 2) a1 4 _ _ h2750) rfl ?_
      obtain ⟨c2751, h⟩ := qk_some h
      refine q_i2l dX12_earlyLaw_36 (qRb_R c2751) rfl ?_
      obtain ⟨c2752, h⟩ := qk_some h
      obtain ⟨c2753, h⟩ := qk_some h
      refine q_lcmp dX12_earlyLaw_37 (qRLb_R c2752) (qRLb_R c2753) rfl ?_
      refine q_if_ge (tgt := 43) dX12_earlyLaw_38 (by decide) rfl (q3_R _ _)  (fun g => ?_) (fun g => ?_)
      · rw [if_pos (show q2749.1 ≤ a4 from (q3_ge _ _).mp g)] at h
        refine q_iload dX12_earlyLaw_43 rfl rfl ?_
        refine q_aload_n dX12_earlyLaw_45 rfl rfl ?_
        refine q_iload_n dX12_earlyLaw_46 rfl rfl ?_
        refine q_bipush dX12_earlyLaw_47 (by decide) rfl ?_
        obtain ⟨q2754, h2755, h⟩ := Option.bind_eq_some_iff.mp h
        refine q_callVi (as := [qi a1, qi 7]) (c := 70) dX12_earlyLaw_49 ml_X12_316 rfl rfl (hL 70 (by decide)) sh_70 rfl rfl (Nat.le_of_ble_eq_true rfl) (M_of_ok hL (d + 2) a1 7 _ _ h2755) rfl ?_
        obtain ⟨c2756, h⟩ := qk_some h
        obtain ⟨c2757, h⟩ := qk_some h
        refine q_icmp_lt (tgt := 67) dX12_earlyLaw_52 (by decide) rfl (qRb_R c2756) (qRb_R c2757) (fun g => ?_) (fun g => ?_)
        · rw [if_pos (show a6 < q2754.1 from g)] at h
          refine q_iconst dX12_earlyLaw_67 rfl rfl ?_
          cases h
          exact q_ireturn dX12_earlyLaw_68 rfl hQ
        · rw [if_neg (show ¬ (a6 < q2754.1) from g)] at h
          refine q_iload dX12_earlyLaw_55 rfl rfl ?_
          refine q_aload_n dX12_earlyLaw_57 rfl rfl ?_
          refine q_iload_n dX12_earlyLaw_58 rfl rfl ?_
          refine q_bipush dX12_earlyLaw_59 (by decide) rfl ?_
          obtain ⟨q2758, h2759, h⟩ := Option.bind_eq_some_iff.mp h
          refine q_callVi (as := [qi a1, qi 8]) (c := 70) dX12_earlyLaw_61 ml_X12_316 rfl rfl (hL 70 (by decide)) sh_70 rfl rfl (Nat.le_of_ble_eq_true rfl) (M_of_ok hL (d + 2) a1 8 _ _ h2759) rfl ?_
          obtain ⟨c2760, h⟩ := qk_some h
          obtain ⟨c2761, h⟩ := qk_some h
          refine q_icmp_le (tgt := 69) dX12_earlyLaw_64 (by decide) rfl (qRb_R c2760) (qRb_R c2761) (fun g => ?_) (fun g => ?_)
          · rw [if_pos (show a6 ≤ q2758.1 from g)] at h
            refine q_lload dX12_earlyLaw_69 rfl rfl ?_
            refine q_ldc2 (v := 335) dX12_earlyLaw_71 qw_1661 rfl ?_
            obtain ⟨c2762, h⟩ := qk_some h
            refine q_lcmp dX12_earlyLaw_74 (qRLb_R c2762) ⟨by decide, by decide⟩ rfl ?_
            refine q_if_gt (tgt := 94) dX12_earlyLaw_75 (by decide) rfl (q3_R _ _)  (fun g => ?_) (fun g => ?_)
            · rw [if_pos (show 335 < a4 from (q3_gt _ _).mp g)] at h
              refine q_iconst dX12_earlyLaw_94 rfl rfl ?_
              cases h
              exact q_ireturn dX12_earlyLaw_95 rfl hQ
            · rw [if_neg (show ¬ (335 < a4) from fun e => g ((q3_gt _ _).mpr e))] at h
              refine q_aload_n dX12_earlyLaw_78 rfl rfl ?_
              refine q_aload_n dX12_earlyLaw_79 rfl rfl ?_
              refine q_iload_n dX12_earlyLaw_80 rfl rfl ?_
              refine q_iconst dX12_earlyLaw_81 rfl rfl ?_
              obtain ⟨q2763, h2764, h⟩ := Option.bind_eq_some_iff.mp h
              refine q_callVi (as := [qi a1, qi 1]) (c := 70) dX12_earlyLaw_82 ml_X12_316 rfl rfl (hL 70 (by decide)) sh_70 rfl rfl (Nat.le_of_ble_eq_true rfl) (M_of_ok hL (d + 2) a1 1 _ _ h2764) rfl ?_
              refine q_lload dX12_earlyLaw_85 rfl rfl ?_
              refine q_l2i dX12_earlyLaw_87 rfl ?_
              obtain ⟨q2765, h2766, h⟩ := Option.bind_eq_some_iff.mp h
              refine q_callVi (as := [qi q2763.1, qi a4]) (c := 70) dX12_earlyLaw_88 ml_X12_308 rfl rfl (hL 70 (by decide)) sh_70 rfl rfl (Nat.le_of_ble_eq_true rfl) (M_isOpen_ok hL (d + 2) q2763.1 a4 _ _ h2766) rfl ?_
              obtain ⟨c2767, h⟩ := qk_some h
              refine q_if_ne (tgt := 96) dX12_earlyLaw_91 (by decide) rfl (qRb_R c2767)  (fun g => ?_) (fun g => ?_)
              · rw [if_neg (show ¬ (q2765.1 = 0) from g)] at h
                refine q_aload_n dX12_earlyLaw_96 rfl rfl ?_
                refine q_iload_n dX12_earlyLaw_97 rfl rfl ?_
                refine q_lload dX12_earlyLaw_98 rfl rfl ?_
                refine q_l2i dX12_earlyLaw_100 rfl ?_
                refine q_iload dX12_earlyLaw_101 rfl rfl ?_
                obtain ⟨q2782, h2783, h⟩ := Option.bind_eq_some_iff.mp h
                refine q_callVi (as := [qi a1, qi a4, qi a6]) (c := 70) dX12_earlyLaw_103 ml_X12_322 rfl rfl (hL 70 (by decide)) sh_70 rfl rfl (Nat.le_of_ble_eq_true rfl) (M_leaveBy_ok hL d a1 a4 a6 _ _ h2783) rfl ?_
                refine q_iconst dX12_earlyLaw_106 rfl rfl ?_
                obtain ⟨c2784, h⟩ := qk_some h
                refine q_icmp_ne (tgt := 114) dX12_earlyLaw_107 (by decide) rfl (qRb_R c2784) ⟨by decide, by decide⟩ (fun g => ?_) (fun g => ?_)
                · rw [if_neg (show ¬ (q2782.1 = (-1)) from g)] at h
                  refine q_iconst dX12_earlyLaw_114 rfl rfl ?_
                  cases h
                  exact q_ireturn dX12_earlyLaw_115 rfl hQ
                · rw [if_pos (show q2782.1 = (-1) from g)] at h
                  refine q_iconst dX12_earlyLaw_110 rfl rfl ?_
                  refine q_goto (pc' := 115) dX12_earlyLaw_111 (by decide) ?_
                  cases h
                  exact q_ireturn dX12_earlyLaw_115 rfl hQ
              · rw [if_pos (show q2765.1 = 0 from g)] at h
                refine q_iconst dX12_earlyLaw_94 rfl rfl ?_
                cases h
                exact q_ireturn dX12_earlyLaw_95 rfl hQ
          · rw [if_neg (show ¬ (a6 ≤ q2758.1) from g)] at h
            refine q_iconst dX12_earlyLaw_67 rfl rfl ?_
            cases h
            exact q_ireturn dX12_earlyLaw_68 rfl hQ
      · rw [if_neg (show ¬ (q2749.1 ≤ a4) from fun e => g ((q3_ge _ _).mpr e))] at h
        refine q_iconst dX12_earlyLaw_41 rfl rfl ?_
        cases h
        exact q_ireturn dX12_earlyLaw_42 rfl hQ
    · rw [if_neg (show ¬ ((a2 + q2743.1) ≤ (q2743.2 72 0)) from fun e => g ((q3_le _ _).mpr e))] at h
      refine q_iconst dX12_earlyLaw_26 rfl rfl ?_
      cases h
      exact q_ireturn dX12_earlyLaw_27 rfl hQ
set_option maxRecDepth 20000 in
theorem M_lay_ok {X : qX} (hL : ∀ c, c < 93 → c ∈ qLs X) (d : Nat) (a1 : Int) (a2 : Int) (a3 : Int) (a4 : Int) (S : qSto) (o : qSto) (h : M_lay a1 a2 a3 a4 S = some o) (Q : Option qV → qSto → Prop) (hQ : Q none o) : qC X (d + 3) yX12_lay cX12_lay 5 none [qr 70, qi a1, qi a2, qi a3, qi a4] S Q := by
  refine q_entry (lv := [(0, qr 70), (1, qi a1), (2, qi a2), (3, qi a3), (4, qi a4)]) pn_X12 (Nat.le_of_ble_eq_true rfl) rfl ?_
  unfold M_lay at h
  refine q_aload_n dX12_lay_0 rfl rfl ?_
  refine q_getA dX12_lay_1 fl_X12_36 (hL 70 (by decide)) sh_70 (by decide) rfl rfl ?_
  refine q_iload_n dX12_lay_4 rfl rfl ?_
  refine q_iload_n dX12_lay_5 rfl rfl ?_
  obtain ⟨c2791, h⟩ := qk_some h
  refine q_iastore dX12_lay_6 (hL 78 (by decide)) sh_78 (qIx_0 c2791) (qIx_1 c2791) rfl ?_
  refine q_aload_n dX12_lay_7 rfl rfl ?_
  refine q_getA dX12_lay_8 fl_X12_39 (hL 70 (by decide)) sh_70 (by decide) rfl rfl ?_
  refine q_iload_n dX12_lay_11 rfl rfl ?_
  refine q_iload_n dX12_lay_12 rfl rfl ?_
  obtain ⟨c2792, h⟩ := qk_some h
  refine q_iastore dX12_lay_13 (hL 79 (by decide)) sh_79 (qIx_0 c2792) (qIx_1 c2792) rfl ?_
  refine q_aload_n dX12_lay_14 rfl rfl ?_
  refine q_getA dX12_lay_15 fl_X12_42 (hL 70 (by decide)) sh_70 (by decide) rfl rfl ?_
  refine q_iload_n dX12_lay_18 rfl rfl ?_
  refine q_iload dX12_lay_19 rfl rfl ?_
  obtain ⟨c2793, h⟩ := qk_some h
  refine q_iastore dX12_lay_21 (hL 80 (by decide)) sh_80 (qIx_0 c2793) (qIx_1 c2793) rfl ?_
  refine q_aload_n dX12_lay_22 rfl rfl ?_
  refine q_getA dX12_lay_23 fl_X12_45 (hL 70 (by decide)) sh_70 (by decide) rfl rfl ?_
  refine q_iload_n dX12_lay_26 rfl rfl ?_
  refine q_iload dX12_lay_27 rfl rfl ?_
  refine q_jn (G := fun (t2797 : (Int × qSto)) => qW X (d + 3) yX12_lay cX12_lay 5 none 43 [(0, qr 70), (1, qi a1), (3, qi a3), (4, qi a4)] [qi t2797.1, qi a1, qr 81] t2797.2 Q) h (fun t2797 h => ?_) (fun t2797 h hk4235 => ?_)
  · try dsimp only at h
    obtain ⟨c2798, h⟩ := qk_some h
    refine q_iastore dX12_lay_43 (hL 81 (by decide)) sh_81 (qIx_0 c2798) (qIx_1 c2798) rfl ?_
    refine q_aload_n dX12_lay_44 rfl rfl ?_
    refine q_getA dX12_lay_45 fl_X12_48 (hL 70 (by decide)) sh_70 (by decide) rfl rfl ?_
    refine q_iload_n dX12_lay_48 rfl rfl ?_
    refine q_iload dX12_lay_49 rfl rfl ?_
    obtain ⟨c2799, h⟩ := qk_some h
    refine q_if_ne (tgt := 58) dX12_lay_51 (by decide) rfl (qRb_R c2799)  (fun g => ?_) (fun g => ?_)
    · rw [if_neg (show ¬ (a4 = 0) from g)] at h
      refine q_aload_n dX12_lay_58 rfl rfl ?_
      refine q_iload_n dX12_lay_59 rfl rfl ?_
      refine q_iload_n dX12_lay_60 rfl rfl ?_
      refine q_iload dX12_lay_61 rfl rfl ?_
      obtain ⟨q2800, h2801, h⟩ := Option.bind_eq_some_iff.mp h
      refine q_callVi (as := [qi a1, qi a3, qi a4]) (c := 70) dX12_lay_63 ml_X12_322 rfl rfl (hL 70 (by decide)) sh_70 rfl rfl (Nat.le_of_ble_eq_true rfl) (M_leaveBy_ok hL d a1 a3 a4 _ _ h2801) rfl ?_
      obtain ⟨c2802, h⟩ := qk_some h
      refine q_iastore dX12_lay_66 (hL 82 (by decide)) sh_82 (qIx_0 c2802) (qIx_1 c2802) rfl ?_
      cases h
      exact q_return dX12_lay_67 rfl hQ
    · rw [if_pos (show a4 = 0 from g)] at h
      refine q_iconst dX12_lay_54 rfl rfl ?_
      refine q_goto (pc' := 66) dX12_lay_55 (by decide) ?_
      obtain ⟨c2803, h⟩ := qk_some h
      refine q_iastore dX12_lay_66 (hL 82 (by decide)) sh_82 (qIx_0 c2803) (qIx_1 c2803) rfl ?_
      cases h
      exact q_return dX12_lay_67 rfl hQ
  · skip
    obtain ⟨c2794, h⟩ := qk_some h
    refine q_if_ne (tgt := 36) dX12_lay_29 (by decide) rfl (qRb_R c2794)  (fun g => ?_) (fun g => ?_)
    · rw [if_neg (show ¬ (a4 = 0) from g)] at h
      refine q_aload_n dX12_lay_36 rfl rfl ?_
      refine q_iload_n dX12_lay_37 rfl rfl ?_
      refine q_iload dX12_lay_38 rfl rfl ?_
      obtain ⟨q2795, h2796, h⟩ := Option.bind_eq_some_iff.mp h
      refine q_callVi (as := [qi a1, qi a4]) (c := 70) dX12_lay_40 ml_X12_319 rfl rfl (hL 70 (by decide)) sh_70 rfl rfl (Nat.le_of_ble_eq_true rfl) (M_workBy_ok hL (d + 1) a1 a4 _ _ h2796) rfl ?_
      cases h
      exact q_pick [0, 1, 3, 4] rfl hk4235
    · rw [if_pos (show a4 = 0 from g)] at h
      refine q_iconst dX12_lay_32 rfl rfl ?_
      refine q_goto (pc' := 43) dX12_lay_33 (by decide) ?_
      cases h
      exact q_pick [0, 1, 3, 4] rfl hk4235
set_option maxRecDepth 20000 in
theorem M_lastMetre_ok {X : qX} (hL : ∀ c, c < 93 → c ∈ qLs X) (d : Nat) (a1 : Int) (S : qSto) (o : (Int × qSto)) (h : M_lastMetre a1 S = some o) (Q : Option qV → qSto → Prop) (hQ : Q (some (qi o.1)) o.2) : qC X (d + 1) yX12_lastMetre cX12_lastMetre 2 (some .int) [qr 70, qi a1] S Q := by
  refine q_entry (lv := [(0, qr 70), (1, qi a1)]) pn_X12 (Nat.le_of_ble_eq_true rfl) rfl ?_
  unfold M_lastMetre at h
  refine q_aload_n dX12_lastMetre_0 rfl rfl ?_
  refine q_getA dX12_lastMetre_1 fl_X12_36 (hL 70 (by decide)) sh_70 (by decide) rfl rfl ?_
  refine q_iload_n dX12_lastMetre_4 rfl rfl ?_
  obtain ⟨c2807, h⟩ := qk_some h
  refine q_iaload dX12_lastMetre_5 (hL 78 (by decide)) sh_78 (qIx_0 c2807) (qIx_1 c2807) rfl ?_
  refine q_aload_n dX12_lastMetre_6 rfl rfl ?_
  refine q_iload_n dX12_lastMetre_7 rfl rfl ?_
  refine q_iconst dX12_lastMetre_8 rfl rfl ?_
  obtain ⟨q2808, h2809, h⟩ := Option.bind_eq_some_iff.mp h
  refine q_callVi (as := [qi a1, qi 0]) (c := 70) dX12_lastMetre_9 ml_X12_316 rfl rfl (hL 70 (by decide)) sh_70 rfl rfl (Nat.le_of_ble_eq_true rfl) (M_of_ok hL d a1 0 _ _ h2809) rfl ?_
  refine q_iadd dX12_lastMetre_12 rfl ?_
  refine q_iconst dX12_lastMetre_13 rfl rfl ?_
  refine q_isub dX12_lastMetre_14 rfl ?_
  cases h
  exact q_ireturn dX12_lastMetre_15 rfl hQ
set_option maxRecDepth 20000 in
theorem M_lowestIn_L19_ok {X : qX} (hL : ∀ c, c < 93 → c ∈ qLs X) (d : Nat) {Q : Option qV → qSto → Prop} : ∀ (n : Nat) (x1 : Int) (x2 : Int) (x3 : Int) (S : qSto) (o : (Int × qSto)), M_lowestIn_L19 n x1 x2 x3 S = some o → (qW X d yX12_lowestIn cX12_lowestIn 4 (some .int) 56 [(2, qi o.1)] [] o.2 Q) → qW X d yX12_lowestIn cX12_lowestIn 4 (some .int) 19 [(0, qr 70), (1, qi x1), (2, qi x2), (3, qi x3)] [] S Q := by
  intro n
  induction n with
  | zero =>
    intro x1 x2 x3 S o h
    simp [M_lowestIn_L19] at h
  | succ n ih =>
    intro x1 x2 x3 S o h hE
    rw [M_lowestIn_L19] at h
    refine q_iload_n dX12_lowestIn_19 rfl rfl ?_
    refine q_aload_n dX12_lowestIn_20 rfl rfl ?_
    refine q_getA dX12_lowestIn_21 fl_X12_48 (hL 70 (by decide)) sh_70 (by decide) rfl rfl ?_
    refine q_iload_n dX12_lowestIn_24 rfl rfl ?_
    obtain ⟨c2817, h⟩ := qk_some h
    refine q_iaload dX12_lowestIn_25 (hL 82 (by decide)) sh_82 (qIx_0 c2817) (qIx_1 c2817) rfl ?_
    obtain ⟨c2818, h⟩ := qk_some h
    obtain ⟨c2819, h⟩ := qk_some h
    refine q_icmp_ge (tgt := 56) dX12_lowestIn_26 (by decide) rfl (qRb_R c2818) (qRb_R c2819) (fun g => ?_) (fun g => ?_)
    · rw [if_pos (show (S 82 (Int.toNat x1)) ≤ x3 from g)] at h
      cases h
      exact q_pick [2] rfl (hE)
    · rw [if_neg (show ¬ ((S 82 (Int.toNat x1)) ≤ x3) from g)] at h
      refine q_aload_n dX12_lowestIn_29 rfl rfl ?_
      refine q_getA dX12_lowestIn_30 fl_X12_33 (hL 70 (by decide)) sh_70 (by decide) rfl rfl ?_
      refine q_iload_n dX12_lowestIn_33 rfl rfl ?_
      obtain ⟨c2820, h⟩ := qk_some h
      refine q_iaload dX12_lowestIn_34 (hL 77 (by decide)) sh_77 (qIx_0 c2820) (qIx_1 c2820) rfl ?_
      refine q_iload_n dX12_lowestIn_35 rfl rfl ?_
      refine q_jn (G := fun (t2824 : Int) => qW X d yX12_lowestIn cX12_lowestIn 4 (some .int) 49 [(0, qr 70), (1, qi x1), (3, qi x3)] [qi t2824] S Q) h (fun t2824 h => ?_) (fun t2824 h hk4236 => ?_)
      · try dsimp only at h
        refine q_istore_n (lv' := [(2, qi t2824), (0, qr 70), (1, qi x1), (3, qi x3)]) dX12_lowestIn_49 (by decide) rfl rfl ?_
        refine q_iinc (lv' := [(3, qi (x3 + 1)), (2, qi t2824), (0, qr 70), (1, qi x1)]) dX12_lowestIn_50 (by decide) rfl rfl rfl ?_
        refine q_goto (pc' := 19) dX12_lowestIn_53 (by decide) ?_
        exact q_pick [2, 3, 1, 0] rfl (ih x1 t2824 (x3 + 1) _ _ h hE)
      · skip
        obtain ⟨c2821, h⟩ := qk_some h
        obtain ⟨c2822, h⟩ := qk_some h
        refine q_icmp_ge (tgt := 48) dX12_lowestIn_36 (by decide) rfl (qRb_R c2821) (qRb_R c2822) (fun g => ?_) (fun g => ?_)
        · rw [if_pos (show x2 ≤ (S 77 (Int.toNat x3)) from g)] at h
          refine q_iload_n dX12_lowestIn_48 rfl rfl ?_
          cases h
          exact q_pick [0, 1, 3] rfl hk4236
        · rw [if_neg (show ¬ (x2 ≤ (S 77 (Int.toNat x3))) from g)] at h
          refine q_aload_n dX12_lowestIn_39 rfl rfl ?_
          refine q_getA dX12_lowestIn_40 fl_X12_33 (hL 70 (by decide)) sh_70 (by decide) rfl rfl ?_
          refine q_iload_n dX12_lowestIn_43 rfl rfl ?_
          obtain ⟨c2823, h⟩ := qk_some h
          refine q_iaload dX12_lowestIn_44 (hL 77 (by decide)) sh_77 (qIx_0 c2823) (qIx_1 c2823) rfl ?_
          refine q_goto (pc' := 49) dX12_lowestIn_45 (by decide) ?_
          cases h
          exact q_pick [0, 1, 3] rfl hk4236
set_option maxRecDepth 20000 in
theorem M_lowestIn_ok {X : qX} (hL : ∀ c, c < 93 → c ∈ qLs X) (d : Nat) (a1 : Int) (S : qSto) (o : (Int × qSto)) (h : M_lowestIn a1 S = some o) (Q : Option qV → qSto → Prop) (hQ : Q (some (qi o.1)) o.2) : qC X d yX12_lowestIn cX12_lowestIn 4 (some .int) [qr 70, qi a1] S Q := by
  refine q_entry (lv := [(0, qr 70), (1, qi a1)]) pn_X12 (Nat.le_of_ble_eq_true rfl) rfl ?_
  unfold M_lowestIn at h
  refine q_aload_n dX12_lowestIn_0 rfl rfl ?_
  refine q_getA dX12_lowestIn_1 fl_X12_33 (hL 70 (by decide)) sh_70 (by decide) rfl rfl ?_
  refine q_aload_n dX12_lowestIn_4 rfl rfl ?_
  refine q_getA dX12_lowestIn_5 fl_X12_39 (hL 70 (by decide)) sh_70 (by decide) rfl rfl ?_
  refine q_iload_n dX12_lowestIn_8 rfl rfl ?_
  obtain ⟨c2814, h⟩ := qk_some h
  refine q_iaload dX12_lowestIn_9 (hL 79 (by decide)) sh_79 (qIx_0 c2814) (qIx_1 c2814) rfl ?_
  obtain ⟨c2815, h⟩ := qk_some h
  refine q_iaload dX12_lowestIn_10 (hL 77 (by decide)) sh_77 (qIx_0 c2815) (qIx_1 c2815) rfl ?_
  refine q_istore_n (lv' := [(2, qi (S 77 (Int.toNat (S 79 (Int.toNat a1))))), (0, qr 70), (1, qi a1)]) dX12_lowestIn_11 (by decide) rfl rfl ?_
  refine q_aload_n dX12_lowestIn_12 rfl rfl ?_
  refine q_getA dX12_lowestIn_13 fl_X12_39 (hL 70 (by decide)) sh_70 (by decide) rfl rfl ?_
  refine q_iload_n dX12_lowestIn_16 rfl rfl ?_
  obtain ⟨c2816, h⟩ := qk_some h
  refine q_iaload dX12_lowestIn_17 (hL 79 (by decide)) sh_79 (qIx_0 c2816) (qIx_1 c2816) rfl ?_
  refine q_istore_n (lv' := [(3, qi (S 79 (Int.toNat a1))), (2, qi (S 77 (Int.toNat (S 79 (Int.toNat a1))))), (0, qr 70), (1, qi a1)]) dX12_lowestIn_18 (by decide) rfl rfl ?_
  obtain ⟨q2825, h2826, h⟩ := Option.bind_eq_some_iff.mp h
  refine q_pick [2, 3, 1, 0] rfl (M_lowestIn_L19_ok hL d qF a1 (S 77 (Int.toNat (S 79 (Int.toNat a1)))) (S 79 (Int.toNat a1)) _ _ h2826 ?_)
  refine q_iload_n dX12_lowestIn_56 rfl rfl ?_
  cases h
  exact q_ireturn dX12_lowestIn_57 rfl hQ
set_option maxRecDepth 20000 in
theorem M_needOf_ok {X : qX} (hL : ∀ c, c < 93 → c ∈ qLs X) (d : Nat) (a1 : Int) (S : qSto) (o : (Int × qSto)) (h : M_needOf a1 S = some o) (Q : Option qV → qSto → Prop) (hQ : Q (some (qi o.1)) o.2) : qC X (d + 1) yX12_needOf cX12_needOf 3 (some .int) [qr 70, qi a1] S Q := by
  refine q_entry (lv := [(0, qr 70), (1, qi a1)]) pn_X12 (Nat.le_of_ble_eq_true rfl) rfl ?_
  unfold M_needOf at h
  refine q_aload_n dX12_needOf_0 rfl rfl ?_
  refine q_iload_n dX12_needOf_1 rfl rfl ?_
  refine q_iconst dX12_needOf_2 rfl rfl ?_
  obtain ⟨q2829, h2830, h⟩ := Option.bind_eq_some_iff.mp h
  refine q_callVi (as := [qi a1, qi 1]) (c := 70) dX12_needOf_3 ml_X12_316 rfl rfl (hL 70 (by decide)) sh_70 rfl rfl (Nat.le_of_ble_eq_true rfl) (M_of_ok hL d a1 1 _ _ h2830) rfl ?_
  refine q_aload_n dX12_needOf_6 rfl rfl ?_
  refine q_iload_n dX12_needOf_7 rfl rfl ?_
  refine q_iconst dX12_needOf_8 rfl rfl ?_
  obtain ⟨q2831, h2832, h⟩ := Option.bind_eq_some_iff.mp h
  refine q_callVi (as := [qi a1, qi 2]) (c := 70) dX12_needOf_9 ml_X12_316 rfl rfl (hL 70 (by decide)) sh_70 rfl rfl (Nat.le_of_ble_eq_true rfl) (M_of_ok hL d a1 2 _ _ h2832) rfl ?_
  refine q_jn (G := fun (t2839 : (Int × qSto)) => qW X (d + 1) yX12_needOf cX12_needOf 3 (some .int) 30 [(0, qr 70)] [qi t2839.1] t2839.2 Q) h (fun t2839 h => ?_) (fun t2839 h hk4237 => ?_)
  · try dsimp only at h
    refine q_istore_n (lv' := [(2, qi t2839.1), (0, qr 70)]) dX12_needOf_30 (by decide) rfl rfl ?_
    refine q_iload_n dX12_needOf_31 rfl rfl ?_
    refine q_aload_n dX12_needOf_32 rfl rfl ?_
    refine q_getA dX12_needOf_33 fl_X12_13 (hL 70 (by decide)) sh_70 (by decide) rfl rfl ?_
    refine q_iconst dX12_needOf_36 rfl rfl ?_
    refine q_iaload dX12_needOf_37 (hL 72 (by decide)) sh_72 (by decide) (by decide) rfl ?_
    refine q_iadd dX12_needOf_38 rfl ?_
    cases h
    exact q_ireturn dX12_needOf_39 rfl hQ
  · skip
    obtain ⟨c2833, h⟩ := qk_some h
    obtain ⟨c2834, h⟩ := qk_some h
    refine q_icmp_le (tgt := 24) dX12_needOf_12 (by decide) rfl (qRb_R c2833) (qRb_R c2834) (fun g => ?_) (fun g => ?_)
    · rw [if_pos (show q2829.1 ≤ q2831.1 from g)] at h
      refine q_aload_n dX12_needOf_24 rfl rfl ?_
      refine q_iload_n dX12_needOf_25 rfl rfl ?_
      refine q_iconst dX12_needOf_26 rfl rfl ?_
      obtain ⟨q2835, h2836, h⟩ := Option.bind_eq_some_iff.mp h
      refine q_callVi (as := [qi a1, qi 2]) (c := 70) dX12_needOf_27 ml_X12_316 rfl rfl (hL 70 (by decide)) sh_70 rfl rfl (Nat.le_of_ble_eq_true rfl) (M_of_ok hL d a1 2 _ _ h2836) rfl ?_
      cases h
      exact q_pick [0] rfl hk4237
    · rw [if_neg (show ¬ (q2829.1 ≤ q2831.1) from g)] at h
      refine q_aload_n dX12_needOf_15 rfl rfl ?_
      refine q_iload_n dX12_needOf_16 rfl rfl ?_
      refine q_iconst dX12_needOf_17 rfl rfl ?_
      obtain ⟨q2837, h2838, h⟩ := Option.bind_eq_some_iff.mp h
      refine q_callVi (as := [qi a1, qi 1]) (c := 70) dX12_needOf_18 ml_X12_316 rfl rfl (hL 70 (by decide)) sh_70 rfl rfl (Nat.le_of_ble_eq_true rfl) (M_of_ok hL d a1 1 _ _ h2838) rfl ?_
      refine q_goto (pc' := 30) dX12_needOf_21 (by decide) ?_
      cases h
      exact q_pick [0] rfl hk4237
set_option maxRecDepth 20000 in
theorem M_shareSlots_ok {X : qX} (hL : ∀ c, c < 93 → c ∈ qLs X) (d : Nat) (a1 : Int) (a2 : Int) (S : qSto) (o : (Int × qSto)) (h : M_shareSlots a1 a2 S = some o) (Q : Option qV → qSto → Prop) (hQ : Q (some (qi o.1)) o.2) : qC X d yX12_shareSlots cX12_shareSlots 3 (some .boolean) [qr 70, qi a1, qi a2] S Q := by
  refine q_entry (lv := [(0, qr 70), (1, qi a1), (2, qi a2)]) pn_X12 (Nat.le_of_ble_eq_true rfl) rfl ?_
  unfold M_shareSlots at h
  refine q_aload_n dX12_shareSlots_0 rfl rfl ?_
  refine q_getA dX12_shareSlots_1 fl_X12_39 (hL 70 (by decide)) sh_70 (by decide) rfl rfl ?_
  refine q_iload_n dX12_shareSlots_4 rfl rfl ?_
  obtain ⟨c2851, h⟩ := qk_some h
  refine q_iaload dX12_shareSlots_5 (hL 79 (by decide)) sh_79 (qIx_0 c2851) (qIx_1 c2851) rfl ?_
  refine q_aload_n dX12_shareSlots_6 rfl rfl ?_
  refine q_getA dX12_shareSlots_7 fl_X12_48 (hL 70 (by decide)) sh_70 (by decide) rfl rfl ?_
  refine q_iload_n dX12_shareSlots_10 rfl rfl ?_
  obtain ⟨c2852, h⟩ := qk_some h
  refine q_iaload dX12_shareSlots_11 (hL 82 (by decide)) sh_82 (qIx_0 c2852) (qIx_1 c2852) rfl ?_
  obtain ⟨c2853, h⟩ := qk_some h
  obtain ⟨c2854, h⟩ := qk_some h
  refine q_icmp_ge (tgt := 34) dX12_shareSlots_12 (by decide) rfl (qRb_R c2853) (qRb_R c2854) (fun g => ?_) (fun g => ?_)
  · rw [if_pos (show (S 82 (Int.toNat a2)) ≤ (S 79 (Int.toNat a1)) from g)] at h
    refine q_iconst dX12_shareSlots_34 rfl rfl ?_
    cases h
    exact q_zreturn dX12_shareSlots_35 rfl (by decide) hQ
  · rw [if_neg (show ¬ ((S 82 (Int.toNat a2)) ≤ (S 79 (Int.toNat a1))) from g)] at h
    refine q_aload_n dX12_shareSlots_15 rfl rfl ?_
    refine q_getA dX12_shareSlots_16 fl_X12_39 (hL 70 (by decide)) sh_70 (by decide) rfl rfl ?_
    refine q_iload_n dX12_shareSlots_19 rfl rfl ?_
    obtain ⟨c2855, h⟩ := qk_some h
    refine q_iaload dX12_shareSlots_20 (hL 79 (by decide)) sh_79 (qIx_0 c2855) (qIx_1 c2855) rfl ?_
    refine q_aload_n dX12_shareSlots_21 rfl rfl ?_
    refine q_getA dX12_shareSlots_22 fl_X12_48 (hL 70 (by decide)) sh_70 (by decide) rfl rfl ?_
    refine q_iload_n dX12_shareSlots_25 rfl rfl ?_
    obtain ⟨c2856, h⟩ := qk_some h
    refine q_iaload dX12_shareSlots_26 (hL 82 (by decide)) sh_82 (qIx_0 c2856) (qIx_1 c2856) rfl ?_
    obtain ⟨c2857, h⟩ := qk_some h
    obtain ⟨c2858, h⟩ := qk_some h
    refine q_icmp_ge (tgt := 34) dX12_shareSlots_27 (by decide) rfl (qRb_R c2857) (qRb_R c2858) (fun g => ?_) (fun g => ?_)
    · rw [if_pos (show (S 82 (Int.toNat a1)) ≤ (S 79 (Int.toNat a2)) from g)] at h
      refine q_iconst dX12_shareSlots_34 rfl rfl ?_
      cases h
      exact q_zreturn dX12_shareSlots_35 rfl (by decide) hQ
    · rw [if_neg (show ¬ ((S 82 (Int.toNat a1)) ≤ (S 79 (Int.toNat a2))) from g)] at h
      refine q_iconst dX12_shareSlots_30 rfl rfl ?_
      refine q_goto (pc' := 35) dX12_shareSlots_31 (by decide) ?_
      cases h
      exact q_zreturn dX12_shareSlots_35 rfl (by decide) hQ
set_option maxRecDepth 20000 in
theorem M_areClose_ok {X : qX} (hL : ∀ c, c < 93 → c ∈ qLs X) (d : Nat) (a1 : Int) (a2 : Int) (S : qSto) (o : (Int × qSto)) (h : M_areClose a1 a2 S = some o) (Q : Option qV → qSto → Prop) (hQ : Q (some (qi o.1)) o.2) : qC X (d + 2) yX12_areClose cX12_areClose 3 (some .boolean) [qr 70, qi a1, qi a2] S Q := by
  refine q_entry (lv := [(0, qr 70), (1, qi a1), (2, qi a2)]) pn_X12 (Nat.le_of_ble_eq_true rfl) rfl ?_
  unfold M_areClose at h
  refine q_aload_n dX12_areClose_0 rfl rfl ?_
  refine q_getA dX12_areClose_1 fl_X12_36 (hL 70 (by decide)) sh_70 (by decide) rfl rfl ?_
  refine q_iload_n dX12_areClose_4 rfl rfl ?_
  obtain ⟨c2862, h⟩ := qk_some h
  refine q_iaload dX12_areClose_5 (hL 78 (by decide)) sh_78 (qIx_0 c2862) (qIx_1 c2862) rfl ?_
  refine q_aload_n dX12_areClose_6 rfl rfl ?_
  refine q_iload_n dX12_areClose_7 rfl rfl ?_
  obtain ⟨q2863, h2864, h⟩ := Option.bind_eq_some_iff.mp h
  refine q_callVi (as := [qi a2]) (c := 70) dX12_areClose_8 ml_X12_349 rfl rfl (hL 70 (by decide)) sh_70 rfl rfl (Nat.le_of_ble_eq_true rfl) (M_lastMetre_ok hL d a2 _ _ h2864) rfl ?_
  refine q_isub dX12_areClose_11 rfl ?_
  refine q_aload_n dX12_areClose_12 rfl rfl ?_
  refine q_getA dX12_areClose_13 fl_X12_13 (hL 70 (by decide)) sh_70 (by decide) rfl rfl ?_
  refine q_iconst dX12_areClose_16 rfl rfl ?_
  refine q_iaload dX12_areClose_17 (hL 72 (by decide)) sh_72 (by decide) (by decide) rfl ?_
  obtain ⟨c2865, h⟩ := qk_some h
  obtain ⟨c2866, h⟩ := qk_some h
  refine q_icmp_gt (tgt := 46) dX12_areClose_18 (by decide) rfl (qRb_R c2865) (qRb_R c2866) (fun g => ?_) (fun g => ?_)
  · rw [if_pos (show (q2863.2 72 1) < ((S 78 (Int.toNat a1)) - q2863.1) from g)] at h
    refine q_iconst dX12_areClose_46 rfl rfl ?_
    cases h
    exact q_zreturn dX12_areClose_47 rfl (by decide) hQ
  · rw [if_neg (show ¬ ((q2863.2 72 1) < ((S 78 (Int.toNat a1)) - q2863.1)) from g)] at h
    refine q_aload_n dX12_areClose_21 rfl rfl ?_
    refine q_getA dX12_areClose_22 fl_X12_36 (hL 70 (by decide)) sh_70 (by decide) rfl rfl ?_
    refine q_iload_n dX12_areClose_25 rfl rfl ?_
    obtain ⟨c2867, h⟩ := qk_some h
    refine q_iaload dX12_areClose_26 (hL 78 (by decide)) sh_78 (qIx_0 c2867) (qIx_1 c2867) rfl ?_
    refine q_aload_n dX12_areClose_27 rfl rfl ?_
    refine q_iload_n dX12_areClose_28 rfl rfl ?_
    obtain ⟨q2868, h2869, h⟩ := Option.bind_eq_some_iff.mp h
    refine q_callVi (as := [qi a1]) (c := 70) dX12_areClose_29 ml_X12_349 rfl rfl (hL 70 (by decide)) sh_70 rfl rfl (Nat.le_of_ble_eq_true rfl) (M_lastMetre_ok hL d a1 _ _ h2869) rfl ?_
    refine q_isub dX12_areClose_32 rfl ?_
    refine q_aload_n dX12_areClose_33 rfl rfl ?_
    refine q_getA dX12_areClose_34 fl_X12_13 (hL 70 (by decide)) sh_70 (by decide) rfl rfl ?_
    refine q_iconst dX12_areClose_37 rfl rfl ?_
    refine q_iaload dX12_areClose_38 (hL 72 (by decide)) sh_72 (by decide) (by decide) rfl ?_
    obtain ⟨c2870, h⟩ := qk_some h
    obtain ⟨c2871, h⟩ := qk_some h
    refine q_icmp_gt (tgt := 46) dX12_areClose_39 (by decide) rfl (qRb_R c2870) (qRb_R c2871) (fun g => ?_) (fun g => ?_)
    · rw [if_pos (show (q2868.2 72 1) < ((q2863.2 78 (Int.toNat a2)) - q2868.1) from g)] at h
      refine q_iconst dX12_areClose_46 rfl rfl ?_
      cases h
      exact q_zreturn dX12_areClose_47 rfl (by decide) hQ
    · rw [if_neg (show ¬ ((q2868.2 72 1) < ((q2863.2 78 (Int.toNat a2)) - q2868.1)) from g)] at h
      refine q_iconst dX12_areClose_42 rfl rfl ?_
      refine q_goto (pc' := 47) dX12_areClose_43 (by decide) ?_
      cases h
      exact q_zreturn dX12_areClose_47 rfl (by decide) hQ
set_option maxRecDepth 20000 in
theorem M_waysOf_L4_ok {X : qX} (hL : ∀ c, c < 93 → c ∈ qLs X) (d : Nat) {Q : Option qV → qSto → Prop} : ∀ (n : Nat) (x1 : Int) (x2 : Int) (x3 : Int) (S : qSto) (o : (Int × qSto)), M_waysOf_L4 n x1 x2 x3 S = some o → (qW X (d + 3) yX12_waysOf cX12_waysOf 4 (some .int) 61 [(2, qi o.1)] [] o.2 Q) → qW X (d + 3) yX12_waysOf cX12_waysOf 4 (some .int) 4 [(0, qr 70), (1, qi x1), (2, qi x2), (3, qi x3)] [] S Q := by
  intro n
  induction n with
  | zero =>
    intro x1 x2 x3 S o h
    simp [M_waysOf_L4] at h
  | succ n ih =>
    intro x1 x2 x3 S o h hE
    rw [M_waysOf_L4] at h
    refine q_iload_n dX12_waysOf_4 rfl rfl ?_
    refine q_aload_n dX12_waysOf_5 rfl rfl ?_
    refine q_getA dX12_waysOf_6 fl_X12_13 (hL 70 (by decide)) sh_70 (by decide) rfl rfl ?_
    refine q_bipush dX12_waysOf_9 (by decide) rfl ?_
    refine q_iaload dX12_waysOf_11 (hL 72 (by decide)) sh_72 (by decide) (by decide) rfl ?_
    obtain ⟨c2844, h⟩ := qk_some h
    obtain ⟨c2845, h⟩ := qk_some h
    refine q_icmp_ge (tgt := 61) dX12_waysOf_12 (by decide) rfl (qRb_R c2844) (qRb_R c2845) (fun g => ?_) (fun g => ?_)
    · rw [if_pos (show (S 72 9) ≤ x3 from g)] at h
      cases h
      exact q_pick [2] rfl (hE)
    · rw [if_neg (show ¬ ((S 72 9) ≤ x3) from g)] at h
      refine q_iload_n dX12_waysOf_15 rfl rfl ?_
      refine q_iload_n dX12_waysOf_16 rfl rfl ?_
      refine q_jn (G := fun (t2875 : (Int × qSto)) => qW X (d + 3) yX12_waysOf cX12_waysOf 4 (some .int) 55 [(0, qr 70), (1, qi x1), (2, qi t2875.1), (3, qi x3)] [] t2875.2 Q) h (fun t2875 h => ?_) (fun t2875 h hk4238 => ?_)
      · try dsimp only at h
        refine q_iinc (lv' := [(3, qi (x3 + 1)), (0, qr 70), (1, qi x1), (2, qi t2875.1)]) dX12_waysOf_55 (by decide) rfl rfl rfl ?_
        refine q_goto (pc' := 4) dX12_waysOf_58 (by decide) ?_
        exact q_pick [1, 2, 3, 0] rfl (ih x1 t2875.1 (x3 + 1) _ _ h hE)
      · skip
        obtain ⟨c2846, h⟩ := qk_some h
        obtain ⟨c2847, h⟩ := qk_some h
        refine q_icmp_eq (tgt := 55) dX12_waysOf_17 (by decide) rfl (qRb_R c2846) (qRb_R c2847) (fun g => ?_) (fun g => ?_)
        · rw [if_pos (show x3 = x1 from g)] at h
          cases h
          exact q_pick [0, 1, 2, 3] rfl hk4238
        · rw [if_neg (show ¬ (x3 = x1) from g)] at h
          refine q_aload_n dX12_waysOf_20 rfl rfl ?_
          refine q_iload_n dX12_waysOf_21 rfl rfl ?_
          obtain ⟨q2848, h2849, h⟩ := Option.bind_eq_some_iff.mp h
          refine q_callVi (as := [qi x3]) (c := 70) dX12_waysOf_22 ml_X12_326 rfl rfl (hL 70 (by decide)) sh_70 rfl rfl (Nat.le_of_ble_eq_true rfl) (M_stays_ok hL (d + 2) x3 _ _ h2849) rfl ?_
          obtain ⟨c2850, h⟩ := qk_some h
          refine q_if_eq (tgt := 55) dX12_waysOf_25 (by decide) rfl (qRb_R c2850)  (fun g => ?_) (fun g => ?_)
          · rw [if_pos (show q2848.1 = 0 from g)] at h
            cases h
            exact q_pick [0, 1, 2, 3] rfl hk4238
          · rw [if_neg (show ¬ (q2848.1 = 0) from g)] at h
            refine q_aload_n dX12_waysOf_28 rfl rfl ?_
            refine q_iload_n dX12_waysOf_29 rfl rfl ?_
            refine q_iload_n dX12_waysOf_30 rfl rfl ?_
            obtain ⟨q2859, h2860, h⟩ := Option.bind_eq_some_iff.mp h
            refine q_callVi (as := [qi x1, qi x3]) (c := 70) dX12_waysOf_31 ml_X12_352 rfl rfl (hL 70 (by decide)) sh_70 rfl rfl (Nat.le_of_ble_eq_true rfl) (M_shareSlots_ok hL (d + 2) x1 x3 _ _ h2860) rfl ?_
            obtain ⟨c2861, h⟩ := qk_some h
            refine q_if_eq (tgt := 55) dX12_waysOf_34 (by decide) rfl (qRb_R c2861)  (fun g => ?_) (fun g => ?_)
            · rw [if_pos (show q2859.1 = 0 from g)] at h
              cases h
              exact q_pick [0, 1, 2, 3] rfl hk4238
            · rw [if_neg (show ¬ (q2859.1 = 0) from g)] at h
              refine q_aload_n dX12_waysOf_37 rfl rfl ?_
              refine q_iload_n dX12_waysOf_38 rfl rfl ?_
              refine q_iload_n dX12_waysOf_39 rfl rfl ?_
              obtain ⟨q2872, h2873, h⟩ := Option.bind_eq_some_iff.mp h
              refine q_callVi (as := [qi x1, qi x3]) (c := 70) dX12_waysOf_40 ml_X12_355 rfl rfl (hL 70 (by decide)) sh_70 rfl rfl (Nat.le_of_ble_eq_true rfl) (M_areClose_ok hL d x1 x3 _ _ h2873) rfl ?_
              obtain ⟨c2874, h⟩ := qk_some h
              refine q_if_ne (tgt := 49) dX12_waysOf_43 (by decide) rfl (qRb_R c2874)  (fun g => ?_) (fun g => ?_)
              · rw [if_neg (show ¬ (q2872.1 = 0) from g)] at h
                refine q_iload_n dX12_waysOf_49 rfl rfl ?_
                refine q_iconst dX12_waysOf_50 rfl rfl ?_
                refine q_iload_n dX12_waysOf_51 rfl rfl ?_
                refine q_ishl dX12_waysOf_52 rfl ?_
                refine q_ior dX12_waysOf_53 rfl ?_
                refine q_istore_n (lv' := [(2, qi (qb_ior x2 (qb_ishl 1 x3))), (0, qr 70), (1, qi x1), (3, qi x3)]) dX12_waysOf_54 (by decide) rfl rfl ?_
                cases h
                exact q_pick [1, 2, 0, 3] rfl hk4238
              · rw [if_pos (show q2872.1 = 0 from g)] at h
                refine q_goto (pc' := 55) dX12_waysOf_46 (by decide) ?_
                cases h
                exact q_pick [0, 1, 2, 3] rfl hk4238
set_option maxRecDepth 20000 in
theorem M_waysOf_ok {X : qX} (hL : ∀ c, c < 93 → c ∈ qLs X) (d : Nat) (a1 : Int) (S : qSto) (o : (Int × qSto)) (h : M_waysOf a1 S = some o) (Q : Option qV → qSto → Prop) (hQ : Q (some (qi o.1)) o.2) : qC X (d + 3) yX12_waysOf cX12_waysOf 4 (some .int) [qr 70, qi a1] S Q := by
  refine q_entry (lv := [(0, qr 70), (1, qi a1)]) pn_X12 (Nat.le_of_ble_eq_true rfl) rfl ?_
  unfold M_waysOf at h
  refine q_iconst dX12_waysOf_0 rfl rfl ?_
  refine q_istore_n (lv' := [(2, qi 0), (0, qr 70), (1, qi a1)]) dX12_waysOf_1 (by decide) rfl rfl ?_
  refine q_iconst dX12_waysOf_2 rfl rfl ?_
  refine q_istore_n (lv' := [(3, qi 0), (2, qi 0), (0, qr 70), (1, qi a1)]) dX12_waysOf_3 (by decide) rfl rfl ?_
  obtain ⟨q2876, h2877, h⟩ := Option.bind_eq_some_iff.mp h
  refine q_pick [2, 3, 1, 0] rfl (M_waysOf_L4_ok hL d qF a1 0 0 _ _ h2877 ?_)
  refine q_iload_n dX12_waysOf_61 rfl rfl ?_
  cases h
  exact q_ireturn dX12_waysOf_62 rfl hQ
