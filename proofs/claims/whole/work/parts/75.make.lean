/-! THE MAKING: the small constructors. Each makes its arrays behind the heap's end, and fills its own fields. -/
theorem n_lt4 {j : Nat} (h : j < 4) : j = 0 ∨ j = 1 ∨ j = 2 ∨ j = 3 := by omega
theorem n_lt12 {j : Nat} (h : j < 12) : j = 0 ∨ j = 1 ∨ j = 2 ∨ j = 3 ∨ j = 4 ∨ j = 5 ∨ j = 6 ∨ j = 7 ∨ j = 8 ∨ j = 9 ∨ j = 10 ∨ j = 11 := by omega
theorem n_df0 : ∀ j, j < 3 → defaultValue (tyX0 j) = vp_V [.null, .null, .null] j := by
  intro j hj
  have h : j = 0 ∨ j = 1 ∨ j = 2 := by omega
  rcases h with rfl | rfl | rfl <;> rfl
theorem n_df1 : ∀ j, j < 11 → defaultValue (tyX1 j) = vp_V [.null, .null, .null, .int 0, .int 0, .int 0, .int 0, .null, .null, .null, .null] j := by
  intro j hj
  have h : j = 0 ∨ j = 1 ∨ j = 2 ∨ j = 3 ∨ j = 4 ∨ j = 5 ∨ j = 6 ∨ j = 7 ∨ j = 8 ∨ j = 9 ∨ j = 10 := by omega
  rcases h with rfl | rfl | rfl | rfl | rfl | rfl | rfl | rfl | rfl | rfl | rfl <;> rfl
theorem n_df2 : ∀ j, j < 5 → defaultValue (tyX2 j) = vp_V [.null, .int 0, .int 0, .null, .int 0] j := by
  intro j hj
  have h : j = 0 ∨ j = 1 ∨ j = 2 ∨ j = 3 ∨ j = 4 := by omega
  rcases h with rfl | rfl | rfl | rfl | rfl <;> rfl
theorem n_df3 : ∀ j, j < 6 → defaultValue (tyX3 j) = vp_V [.null, .null, .null, .null, .int 0, .int 0] j := by
  intro j hj
  have h : j = 0 ∨ j = 1 ∨ j = 2 ∨ j = 3 ∨ j = 4 ∨ j = 5 := by omega
  rcases h with rfl | rfl | rfl | rfl | rfl | rfl <;> rfl
theorem n_df4 : ∀ j, j < 1 → defaultValue (tyX4 j) = vp_V [.null] j := by
  intro j hj
  have h : j = 0 := by omega
  rcases h with rfl <;> rfl
theorem n_df5 : ∀ j, j < 7 → defaultValue (tyX5 j) = vp_V [.null, .null, .null, .int 0, .int 0, .int 0, .int 0] j := by
  intro j hj
  have h : j = 0 ∨ j = 1 ∨ j = 2 ∨ j = 3 ∨ j = 4 ∨ j = 5 ∨ j = 6 := by omega
  rcases h with rfl | rfl | rfl | rfl | rfl | rfl | rfl <;> rfl
theorem n_df6 : ∀ j, j < 9 → defaultValue (tyX6 j) = vp_V [.null, .null, .null, .null, .null, .int 0, .int 0, .int 0, .int 0] j := by
  intro j hj
  have h : j = 0 ∨ j = 1 ∨ j = 2 ∨ j = 3 ∨ j = 4 ∨ j = 5 ∨ j = 6 ∨ j = 7 ∨ j = 8 := by omega
  rcases h with rfl | rfl | rfl | rfl | rfl | rfl | rfl | rfl | rfl <;> rfl
theorem n_df7 : ∀ j, j < 14 → defaultValue (tyX7 j) = vp_V [.null, .null, .null, .null, .null, .null, .null, .null, .null, .null, .int 0, .int 0, .int 0, .int 0] j := by
  intro j hj
  have h : j = 0 ∨ j = 1 ∨ j = 2 ∨ j = 3 ∨ j = 4 ∨ j = 5 ∨ j = 6 ∨ j = 7 ∨ j = 8 ∨ j = 9 ∨ j = 10 ∨ j = 11 ∨ j = 12 ∨ j = 13 := by omega
  rcases h with rfl | rfl | rfl | rfl | rfl | rfl | rfl | rfl | rfl | rfl | rfl | rfl | rfl | rfl <;> rfl
theorem n_df8 : ∀ j, j < 15 → defaultValue (tyX8 j) = vp_V [.null, .int 0, .int 0, .null, .null, .int 0, .null, .null, .int 0, .null, .null, .null, .int 0, .null, .null] j := by
  intro j hj
  have h : j = 0 ∨ j = 1 ∨ j = 2 ∨ j = 3 ∨ j = 4 ∨ j = 5 ∨ j = 6 ∨ j = 7 ∨ j = 8 ∨ j = 9 ∨ j = 10 ∨ j = 11 ∨ j = 12 ∨ j = 13 ∨ j = 14 := by omega
  rcases h with rfl | rfl | rfl | rfl | rfl | rfl | rfl | rfl | rfl | rfl | rfl | rfl | rfl | rfl | rfl <;> rfl
theorem n_df9 : ∀ j, j < 2 → defaultValue (tyX9 j) = vp_V [.null, .null] j := by
  intro j hj
  have h : j = 0 ∨ j = 1 := by omega
  rcases h with rfl | rfl <;> rfl
theorem n_df10 : ∀ j, j < 2 → defaultValue (tyX10 j) = vp_V [.null, .int 0] j := by
  intro j hj
  have h : j = 0 ∨ j = 1 := by omega
  rcases h with rfl | rfl <;> rfl
theorem n_df11 : ∀ j, j < 15 → defaultValue (tyX11 j) = vp_V [.null, .int 0, .null, .null, .null, .null, .null, .null, .null, .null, .null, .null, .null, .null, .null] j := by
  intro j hj
  have h : j = 0 ∨ j = 1 ∨ j = 2 ∨ j = 3 ∨ j = 4 ∨ j = 5 ∨ j = 6 ∨ j = 7 ∨ j = 8 ∨ j = 9 ∨ j = 10 ∨ j = 11 ∨ j = 12 ∨ j = 13 ∨ j = 14 := by omega
  rcases h with rfl | rfl | rfl | rfl | rfl | rfl | rfl | rfl | rfl | rfl | rfl | rfl | rfl | rfl | rfl <;> rfl
theorem n_df12 : ∀ j, j < 42 → defaultValue (tyX12 j) = vp_V [.null, .null, .null, .null, .null, .int 0, .int 0, .int 0, .int 0, .int 0, .int 0, .int 0, .int 0, .int 0, .int 0, .int 0, .int 0, .long 0, .null, .null, .null, .null, .null, .null, .null, .null, .null, .int 0, .int 0, .null, .null, .int 0, .null, .null, .null, .null, .null, .int 0, .int 0, .int 0, .null, .int 0] j := by
  intro j hj
  have h : j = 0 ∨ j = 1 ∨ j = 2 ∨ j = 3 ∨ j = 4 ∨ j = 5 ∨ j = 6 ∨ j = 7 ∨ j = 8 ∨ j = 9 ∨ j = 10 ∨ j = 11 ∨ j = 12 ∨ j = 13 ∨ j = 14 ∨ j = 15 ∨ j = 16 ∨ j = 17 ∨ j = 18 ∨ j = 19 ∨ j = 20 ∨ j = 21 ∨ j = 22 ∨ j = 23 ∨ j = 24 ∨ j = 25 ∨ j = 26 ∨ j = 27 ∨ j = 28 ∨ j = 29 ∨ j = 30 ∨ j = 31 ∨ j = 32 ∨ j = 33 ∨ j = 34 ∨ j = 35 ∨ j = 36 ∨ j = 37 ∨ j = 38 ∨ j = 39 ∨ j = 40 ∨ j = 41 := by omega
  rcases h with rfl | rfl | rfl | rfl | rfl | rfl | rfl | rfl | rfl | rfl | rfl | rfl | rfl | rfl | rfl | rfl | rfl | rfl | rfl | rfl | rfl | rfl | rfl | rfl | rfl | rfl | rfl | rfl | rfl | rfl | rfl | rfl | rfl | rfl | rfl | rfl | rfl | rfl | rfl | rfl | rfl | rfl <;> rfl
set_option maxHeartbeats 4000000 in
set_option maxRecDepth 20000 in
theorem mk_2 {X : qX} {F : qSto} {sz : Nat} (a15 : qad X 15 = sz + 0) (a16 : qad X 16 = sz + 1) (a17 : qad X 17 = sz + 2) (a18 : qad X 18 = sz + 3) (a19 : qad X 19 = sz + 4) (a20 : qad X 20 = sz + 5) (a21 : qad X 21 = sz + 6) (a22 : qad X 22 = sz + 7) (a23 : qad X 23 = sz + 8) (a24 : qad X 24 = sz + 9) : nbC X 1 yX8_init cX8_init 1 [qr 2] [(qad X 2, .inr (8, [.null, .int 0, .int 0, .null, .null, .int 0, .null, .null, .int 0, .null, .null, .null, .int 0, .null, .null]))] sz (fun _ => True) (nws X (nSb (fun _ _ => 0)) [2, 15, 16, 17, 18, 19, 20, 21, 22, 23, 24]) 10 357 := by
  refine nv_entry (nSb (fun _ _ => 0)) (lv := [(0, qr 2)]) pn_X8 rfl (Nat.le_of_ble_eq_true rfl) rfl ?_
  refine nb_aload_n dX8_init_0 rfl rfl ?_
  refine nb_obj dX8_init_1 qn_159 qn_152 qn_153 (Nat.le_of_ble_eq_true rfl) (Nat.le_of_ble_eq_true rfl) rfl ?_
  refine nb_aload_n dX8_init_4 rfl rfl ?_
  refine nb_bipush dX8_init_5 (by decide) rfl ?_
  refine nv_nI (c := 15) (L' := [15]) dX8_init_7 qn_226 sh_15 (fun _ => rfl) rfl (by decide) (a15) (Nat.le_of_ble_eq_true rfl) (Nat.le_of_ble_eq_true rfl) rfl rfl ?_
  refine nv_putF (ci := 8) (N := 15) (C := RX8) (T := TX8) (kf := 0) (fs' := [.ref (qad X 15), .int 0, .int 0, .null, .null, .int 0, .null, .null, .int 0, .null, .null, .null, .int 0, .null, .null]) tyX8 dX8_init_9 rfl lay_8 tyX8_ok nmX8 (by decide) qn_160 rfl rfl (fun _ => rfl) (fun _ => rfl) (Nat.le_of_ble_eq_true rfl) rfl rfl ?_
  refine nb_aload_n dX8_init_12 rfl rfl ?_
  refine nb_bipush dX8_init_13 (by decide) rfl ?_
  refine nv_nI (c := 16) (L' := [15, 16]) dX8_init_15 qn_226 sh_16 (fun _ => rfl) rfl (by decide) (a16) (Nat.le_of_ble_eq_true rfl) (Nat.le_of_ble_eq_true rfl) rfl rfl ?_
  refine nv_putF (ci := 8) (N := 15) (C := RX8) (T := TX8) (kf := 3) (fs' := [.ref (qad X 15), .int 0, .int 0, .ref (qad X 16), .null, .int 0, .null, .null, .int 0, .null, .null, .null, .int 0, .null, .null]) tyX8 dX8_init_17 rfl lay_8 tyX8_ok nmX8 (by decide) qn_167 rfl rfl (fun _ => rfl) (fun _ => rfl) (Nat.le_of_ble_eq_true rfl) rfl rfl ?_
  refine nb_aload_n dX8_init_20 rfl rfl ?_
  refine nb_bipush dX8_init_21 (by decide) rfl ?_
  refine nv_nI (c := 17) (L' := [15, 16, 17]) dX8_init_23 qn_226 sh_17 (fun _ => rfl) rfl (by decide) (a17) (Nat.le_of_ble_eq_true rfl) (Nat.le_of_ble_eq_true rfl) rfl rfl ?_
  refine nv_putF (ci := 8) (N := 15) (C := RX8) (T := TX8) (kf := 4) (fs' := [.ref (qad X 15), .int 0, .int 0, .ref (qad X 16), .ref (qad X 17), .int 0, .null, .null, .int 0, .null, .null, .null, .int 0, .null, .null]) tyX8 dX8_init_25 rfl lay_8 tyX8_ok nmX8 (by decide) qn_168 rfl rfl (fun _ => rfl) (fun _ => rfl) (Nat.le_of_ble_eq_true rfl) rfl rfl ?_
  refine nb_aload_n dX8_init_28 rfl rfl ?_
  refine nb_bipush dX8_init_29 (by decide) rfl ?_
  refine nv_nI (c := 18) (L' := [15, 16, 17, 18]) dX8_init_31 qn_226 sh_18 (fun _ => rfl) rfl (by decide) (a18) (Nat.le_of_ble_eq_true rfl) (Nat.le_of_ble_eq_true rfl) rfl rfl ?_
  refine nv_putF (ci := 8) (N := 15) (C := RX8) (T := TX8) (kf := 6) (fs' := [.ref (qad X 15), .int 0, .int 0, .ref (qad X 16), .ref (qad X 17), .int 0, .ref (qad X 18), .null, .int 0, .null, .null, .null, .int 0, .null, .null]) tyX8 dX8_init_33 rfl lay_8 tyX8_ok nmX8 (by decide) qn_172 rfl rfl (fun _ => rfl) (fun _ => rfl) (Nat.le_of_ble_eq_true rfl) rfl rfl ?_
  refine nb_aload_n dX8_init_36 rfl rfl ?_
  refine nb_bipush dX8_init_37 (by decide) rfl ?_
  refine nv_nI (c := 19) (L' := [15, 16, 17, 18, 19]) dX8_init_39 qn_226 sh_19 (fun _ => rfl) rfl (by decide) (a19) (Nat.le_of_ble_eq_true rfl) (Nat.le_of_ble_eq_true rfl) rfl rfl ?_
  refine nv_putF (ci := 8) (N := 15) (C := RX8) (T := TX8) (kf := 7) (fs' := [.ref (qad X 15), .int 0, .int 0, .ref (qad X 16), .ref (qad X 17), .int 0, .ref (qad X 18), .ref (qad X 19), .int 0, .null, .null, .null, .int 0, .null, .null]) tyX8 dX8_init_41 rfl lay_8 tyX8_ok nmX8 (by decide) qn_175 rfl rfl (fun _ => rfl) (fun _ => rfl) (Nat.le_of_ble_eq_true rfl) rfl rfl ?_
  refine nb_aload_n dX8_init_44 rfl rfl ?_
  refine nb_bipush dX8_init_45 (by decide) rfl ?_
  refine nv_nI (c := 20) (L' := [15, 16, 17, 18, 19, 20]) dX8_init_47 qn_226 sh_20 (fun _ => rfl) rfl (by decide) (a20) (Nat.le_of_ble_eq_true rfl) (Nat.le_of_ble_eq_true rfl) rfl rfl ?_
  refine nv_putF (ci := 8) (N := 15) (C := RX8) (T := TX8) (kf := 9) (fs' := [.ref (qad X 15), .int 0, .int 0, .ref (qad X 16), .ref (qad X 17), .int 0, .ref (qad X 18), .ref (qad X 19), .int 0, .ref (qad X 20), .null, .null, .int 0, .null, .null]) tyX8 dX8_init_49 rfl lay_8 tyX8_ok nmX8 (by decide) qn_181 rfl rfl (fun _ => rfl) (fun _ => rfl) (Nat.le_of_ble_eq_true rfl) rfl rfl ?_
  refine nb_aload_n dX8_init_52 rfl rfl ?_
  refine nb_bipush dX8_init_53 (by decide) rfl ?_
  refine nv_nI (c := 21) (L' := [15, 16, 17, 18, 19, 20, 21]) dX8_init_55 qn_226 sh_21 (fun _ => rfl) rfl (by decide) (a21) (Nat.le_of_ble_eq_true rfl) (Nat.le_of_ble_eq_true rfl) rfl rfl ?_
  refine nv_putF (ci := 8) (N := 15) (C := RX8) (T := TX8) (kf := 10) (fs' := [.ref (qad X 15), .int 0, .int 0, .ref (qad X 16), .ref (qad X 17), .int 0, .ref (qad X 18), .ref (qad X 19), .int 0, .ref (qad X 20), .ref (qad X 21), .null, .int 0, .null, .null]) tyX8 dX8_init_57 rfl lay_8 tyX8_ok nmX8 (by decide) qn_183 rfl rfl (fun _ => rfl) (fun _ => rfl) (Nat.le_of_ble_eq_true rfl) rfl rfl ?_
  refine nb_aload_n dX8_init_60 rfl rfl ?_
  refine nb_bipush dX8_init_61 (by decide) rfl ?_
  refine nv_nI (c := 22) (L' := [15, 16, 17, 18, 19, 20, 21, 22]) dX8_init_63 qn_226 sh_22 (fun _ => rfl) rfl (by decide) (a22) (Nat.le_of_ble_eq_true rfl) (Nat.le_of_ble_eq_true rfl) rfl rfl ?_
  refine nv_putF (ci := 8) (N := 15) (C := RX8) (T := TX8) (kf := 11) (fs' := [.ref (qad X 15), .int 0, .int 0, .ref (qad X 16), .ref (qad X 17), .int 0, .ref (qad X 18), .ref (qad X 19), .int 0, .ref (qad X 20), .ref (qad X 21), .ref (qad X 22), .int 0, .null, .null]) tyX8 dX8_init_65 rfl lay_8 tyX8_ok nmX8 (by decide) qn_185 rfl rfl (fun _ => rfl) (fun _ => rfl) (Nat.le_of_ble_eq_true rfl) rfl rfl ?_
  refine nb_aload_n dX8_init_68 rfl rfl ?_
  refine nb_bipush dX8_init_69 (by decide) rfl ?_
  refine nv_nI (c := 23) (L' := [15, 16, 17, 18, 19, 20, 21, 22, 23]) dX8_init_71 qn_226 sh_23 (fun _ => rfl) rfl (by decide) (a23) (Nat.le_of_ble_eq_true rfl) (Nat.le_of_ble_eq_true rfl) rfl rfl ?_
  refine nv_putF (ci := 8) (N := 15) (C := RX8) (T := TX8) (kf := 13) (fs' := [.ref (qad X 15), .int 0, .int 0, .ref (qad X 16), .ref (qad X 17), .int 0, .ref (qad X 18), .ref (qad X 19), .int 0, .ref (qad X 20), .ref (qad X 21), .ref (qad X 22), .int 0, .ref (qad X 23), .null]) tyX8 dX8_init_73 rfl lay_8 tyX8_ok nmX8 (by decide) qn_192 rfl rfl (fun _ => rfl) (fun _ => rfl) (Nat.le_of_ble_eq_true rfl) rfl rfl ?_
  refine nb_aload_n dX8_init_76 rfl rfl ?_
  refine nb_bipush dX8_init_77 (by decide) rfl ?_
  refine nv_nI (c := 24) (L' := [15, 16, 17, 18, 19, 20, 21, 22, 23, 24]) dX8_init_79 qn_226 sh_24 (fun _ => rfl) rfl (by decide) (a24) (Nat.le_of_ble_eq_true rfl) (Nat.le_of_ble_eq_true rfl) rfl rfl ?_
  refine nv_putF (ci := 8) (N := 15) (C := RX8) (T := TX8) (kf := 14) (fs' := [.ref (qad X 15), .int 0, .int 0, .ref (qad X 16), .ref (qad X 17), .int 0, .ref (qad X 18), .ref (qad X 19), .int 0, .ref (qad X 20), .ref (qad X 21), .ref (qad X 22), .int 0, .ref (qad X 23), .ref (qad X 24)]) tyX8 dX8_init_81 rfl lay_8 tyX8_ok nmX8 (by decide) qn_193 rfl rfl (fun _ => rfl) (fun _ => rfl) (Nat.le_of_ble_eq_true rfl) rfl rfl ?_
  exact nv_ret dX8_init_84 rfl rfl (Nat.le_of_ble_eq_true rfl)
set_option maxHeartbeats 4000000 in
set_option maxRecDepth 20000 in
theorem mk_3 {X : qX} {F : qSto} {sz : Nat} (a25 : qad X 25 = sz + 0) (a26 : qad X 26 = sz + 1) (a27 : qad X 27 = sz + 2) (a28 : qad X 28 = sz + 3) (a29 : qad X 29 = sz + 4) (a30 : qad X 30 = sz + 5) (a31 : qad X 31 = sz + 6) (a32 : qad X 32 = sz + 7) (a33 : qad X 33 = sz + 8) (a34 : qad X 34 = sz + 9) : nbC X 1 yX8_init cX8_init 1 [qr 3] [(qad X 3, .inr (8, [.null, .int 0, .int 0, .null, .null, .int 0, .null, .null, .int 0, .null, .null, .null, .int 0, .null, .null]))] sz (fun _ => True) (nws X (nSb (fun _ _ => 0)) [3, 25, 26, 27, 28, 29, 30, 31, 32, 33, 34]) 10 357 := by
  refine nv_entry (nSb (fun _ _ => 0)) (lv := [(0, qr 3)]) pn_X8 rfl (Nat.le_of_ble_eq_true rfl) rfl ?_
  refine nb_aload_n dX8_init_0 rfl rfl ?_
  refine nb_obj dX8_init_1 qn_159 qn_152 qn_153 (Nat.le_of_ble_eq_true rfl) (Nat.le_of_ble_eq_true rfl) rfl ?_
  refine nb_aload_n dX8_init_4 rfl rfl ?_
  refine nb_bipush dX8_init_5 (by decide) rfl ?_
  refine nv_nI (c := 25) (L' := [25]) dX8_init_7 qn_226 sh_25 (fun _ => rfl) rfl (by decide) (a25) (Nat.le_of_ble_eq_true rfl) (Nat.le_of_ble_eq_true rfl) rfl rfl ?_
  refine nv_putF (ci := 8) (N := 15) (C := RX8) (T := TX8) (kf := 0) (fs' := [.ref (qad X 25), .int 0, .int 0, .null, .null, .int 0, .null, .null, .int 0, .null, .null, .null, .int 0, .null, .null]) tyX8 dX8_init_9 rfl lay_8 tyX8_ok nmX8 (by decide) qn_160 rfl rfl (fun _ => rfl) (fun _ => rfl) (Nat.le_of_ble_eq_true rfl) rfl rfl ?_
  refine nb_aload_n dX8_init_12 rfl rfl ?_
  refine nb_bipush dX8_init_13 (by decide) rfl ?_
  refine nv_nI (c := 26) (L' := [25, 26]) dX8_init_15 qn_226 sh_26 (fun _ => rfl) rfl (by decide) (a26) (Nat.le_of_ble_eq_true rfl) (Nat.le_of_ble_eq_true rfl) rfl rfl ?_
  refine nv_putF (ci := 8) (N := 15) (C := RX8) (T := TX8) (kf := 3) (fs' := [.ref (qad X 25), .int 0, .int 0, .ref (qad X 26), .null, .int 0, .null, .null, .int 0, .null, .null, .null, .int 0, .null, .null]) tyX8 dX8_init_17 rfl lay_8 tyX8_ok nmX8 (by decide) qn_167 rfl rfl (fun _ => rfl) (fun _ => rfl) (Nat.le_of_ble_eq_true rfl) rfl rfl ?_
  refine nb_aload_n dX8_init_20 rfl rfl ?_
  refine nb_bipush dX8_init_21 (by decide) rfl ?_
  refine nv_nI (c := 27) (L' := [25, 26, 27]) dX8_init_23 qn_226 sh_27 (fun _ => rfl) rfl (by decide) (a27) (Nat.le_of_ble_eq_true rfl) (Nat.le_of_ble_eq_true rfl) rfl rfl ?_
  refine nv_putF (ci := 8) (N := 15) (C := RX8) (T := TX8) (kf := 4) (fs' := [.ref (qad X 25), .int 0, .int 0, .ref (qad X 26), .ref (qad X 27), .int 0, .null, .null, .int 0, .null, .null, .null, .int 0, .null, .null]) tyX8 dX8_init_25 rfl lay_8 tyX8_ok nmX8 (by decide) qn_168 rfl rfl (fun _ => rfl) (fun _ => rfl) (Nat.le_of_ble_eq_true rfl) rfl rfl ?_
  refine nb_aload_n dX8_init_28 rfl rfl ?_
  refine nb_bipush dX8_init_29 (by decide) rfl ?_
  refine nv_nI (c := 28) (L' := [25, 26, 27, 28]) dX8_init_31 qn_226 sh_28 (fun _ => rfl) rfl (by decide) (a28) (Nat.le_of_ble_eq_true rfl) (Nat.le_of_ble_eq_true rfl) rfl rfl ?_
  refine nv_putF (ci := 8) (N := 15) (C := RX8) (T := TX8) (kf := 6) (fs' := [.ref (qad X 25), .int 0, .int 0, .ref (qad X 26), .ref (qad X 27), .int 0, .ref (qad X 28), .null, .int 0, .null, .null, .null, .int 0, .null, .null]) tyX8 dX8_init_33 rfl lay_8 tyX8_ok nmX8 (by decide) qn_172 rfl rfl (fun _ => rfl) (fun _ => rfl) (Nat.le_of_ble_eq_true rfl) rfl rfl ?_
  refine nb_aload_n dX8_init_36 rfl rfl ?_
  refine nb_bipush dX8_init_37 (by decide) rfl ?_
  refine nv_nI (c := 29) (L' := [25, 26, 27, 28, 29]) dX8_init_39 qn_226 sh_29 (fun _ => rfl) rfl (by decide) (a29) (Nat.le_of_ble_eq_true rfl) (Nat.le_of_ble_eq_true rfl) rfl rfl ?_
  refine nv_putF (ci := 8) (N := 15) (C := RX8) (T := TX8) (kf := 7) (fs' := [.ref (qad X 25), .int 0, .int 0, .ref (qad X 26), .ref (qad X 27), .int 0, .ref (qad X 28), .ref (qad X 29), .int 0, .null, .null, .null, .int 0, .null, .null]) tyX8 dX8_init_41 rfl lay_8 tyX8_ok nmX8 (by decide) qn_175 rfl rfl (fun _ => rfl) (fun _ => rfl) (Nat.le_of_ble_eq_true rfl) rfl rfl ?_
  refine nb_aload_n dX8_init_44 rfl rfl ?_
  refine nb_bipush dX8_init_45 (by decide) rfl ?_
  refine nv_nI (c := 30) (L' := [25, 26, 27, 28, 29, 30]) dX8_init_47 qn_226 sh_30 (fun _ => rfl) rfl (by decide) (a30) (Nat.le_of_ble_eq_true rfl) (Nat.le_of_ble_eq_true rfl) rfl rfl ?_
  refine nv_putF (ci := 8) (N := 15) (C := RX8) (T := TX8) (kf := 9) (fs' := [.ref (qad X 25), .int 0, .int 0, .ref (qad X 26), .ref (qad X 27), .int 0, .ref (qad X 28), .ref (qad X 29), .int 0, .ref (qad X 30), .null, .null, .int 0, .null, .null]) tyX8 dX8_init_49 rfl lay_8 tyX8_ok nmX8 (by decide) qn_181 rfl rfl (fun _ => rfl) (fun _ => rfl) (Nat.le_of_ble_eq_true rfl) rfl rfl ?_
  refine nb_aload_n dX8_init_52 rfl rfl ?_
  refine nb_bipush dX8_init_53 (by decide) rfl ?_
  refine nv_nI (c := 31) (L' := [25, 26, 27, 28, 29, 30, 31]) dX8_init_55 qn_226 sh_31 (fun _ => rfl) rfl (by decide) (a31) (Nat.le_of_ble_eq_true rfl) (Nat.le_of_ble_eq_true rfl) rfl rfl ?_
  refine nv_putF (ci := 8) (N := 15) (C := RX8) (T := TX8) (kf := 10) (fs' := [.ref (qad X 25), .int 0, .int 0, .ref (qad X 26), .ref (qad X 27), .int 0, .ref (qad X 28), .ref (qad X 29), .int 0, .ref (qad X 30), .ref (qad X 31), .null, .int 0, .null, .null]) tyX8 dX8_init_57 rfl lay_8 tyX8_ok nmX8 (by decide) qn_183 rfl rfl (fun _ => rfl) (fun _ => rfl) (Nat.le_of_ble_eq_true rfl) rfl rfl ?_
  refine nb_aload_n dX8_init_60 rfl rfl ?_
  refine nb_bipush dX8_init_61 (by decide) rfl ?_
  refine nv_nI (c := 32) (L' := [25, 26, 27, 28, 29, 30, 31, 32]) dX8_init_63 qn_226 sh_32 (fun _ => rfl) rfl (by decide) (a32) (Nat.le_of_ble_eq_true rfl) (Nat.le_of_ble_eq_true rfl) rfl rfl ?_
  refine nv_putF (ci := 8) (N := 15) (C := RX8) (T := TX8) (kf := 11) (fs' := [.ref (qad X 25), .int 0, .int 0, .ref (qad X 26), .ref (qad X 27), .int 0, .ref (qad X 28), .ref (qad X 29), .int 0, .ref (qad X 30), .ref (qad X 31), .ref (qad X 32), .int 0, .null, .null]) tyX8 dX8_init_65 rfl lay_8 tyX8_ok nmX8 (by decide) qn_185 rfl rfl (fun _ => rfl) (fun _ => rfl) (Nat.le_of_ble_eq_true rfl) rfl rfl ?_
  refine nb_aload_n dX8_init_68 rfl rfl ?_
  refine nb_bipush dX8_init_69 (by decide) rfl ?_
  refine nv_nI (c := 33) (L' := [25, 26, 27, 28, 29, 30, 31, 32, 33]) dX8_init_71 qn_226 sh_33 (fun _ => rfl) rfl (by decide) (a33) (Nat.le_of_ble_eq_true rfl) (Nat.le_of_ble_eq_true rfl) rfl rfl ?_
  refine nv_putF (ci := 8) (N := 15) (C := RX8) (T := TX8) (kf := 13) (fs' := [.ref (qad X 25), .int 0, .int 0, .ref (qad X 26), .ref (qad X 27), .int 0, .ref (qad X 28), .ref (qad X 29), .int 0, .ref (qad X 30), .ref (qad X 31), .ref (qad X 32), .int 0, .ref (qad X 33), .null]) tyX8 dX8_init_73 rfl lay_8 tyX8_ok nmX8 (by decide) qn_192 rfl rfl (fun _ => rfl) (fun _ => rfl) (Nat.le_of_ble_eq_true rfl) rfl rfl ?_
  refine nb_aload_n dX8_init_76 rfl rfl ?_
  refine nb_bipush dX8_init_77 (by decide) rfl ?_
  refine nv_nI (c := 34) (L' := [25, 26, 27, 28, 29, 30, 31, 32, 33, 34]) dX8_init_79 qn_226 sh_34 (fun _ => rfl) rfl (by decide) (a34) (Nat.le_of_ble_eq_true rfl) (Nat.le_of_ble_eq_true rfl) rfl rfl ?_
  refine nv_putF (ci := 8) (N := 15) (C := RX8) (T := TX8) (kf := 14) (fs' := [.ref (qad X 25), .int 0, .int 0, .ref (qad X 26), .ref (qad X 27), .int 0, .ref (qad X 28), .ref (qad X 29), .int 0, .ref (qad X 30), .ref (qad X 31), .ref (qad X 32), .int 0, .ref (qad X 33), .ref (qad X 34)]) tyX8 dX8_init_81 rfl lay_8 tyX8_ok nmX8 (by decide) qn_193 rfl rfl (fun _ => rfl) (fun _ => rfl) (Nat.le_of_ble_eq_true rfl) rfl rfl ?_
  exact nv_ret dX8_init_84 rfl rfl (Nat.le_of_ble_eq_true rfl)
set_option maxHeartbeats 4000000 in
set_option maxRecDepth 20000 in
theorem mk_4 {X : qX} {F : qSto} {sz : Nat} (a35 : qad X 35 = sz + 0) : nbC X 1 yX5_init cX5_init 3 [qr 4, qr 1, qr 3] [(qad X 4, .inr (5, [.null, .null, .null, .int 0, .int 0, .int 0, .int 0]))] sz (fun _ => True) (nws X (nSb F) [4, 35]) 1 9 := by
  refine nv_entry (nSb F) (lv := [(0, qr 4), (1, qr 1), (2, qr 3)]) pn_X5 rfl (Nat.le_of_ble_eq_true rfl) rfl ?_
  refine nb_aload_n dX5_init_0 rfl rfl ?_
  refine nb_obj dX5_init_1 qn_244 qn_152 qn_153 (Nat.le_of_ble_eq_true rfl) (Nat.le_of_ble_eq_true rfl) rfl ?_
  refine nb_aload_n dX5_init_4 rfl rfl ?_
  refine nb_bipush dX5_init_5 (by decide) rfl ?_
  refine nv_nI (c := 35) (L' := [35]) dX5_init_7 qn_226 sh_35 (fun _ => rfl) rfl (by decide) (a35) (Nat.le_of_ble_eq_true rfl) (Nat.le_of_ble_eq_true rfl) rfl rfl ?_
  refine nv_putF (ci := 5) (N := 7) (C := RX5) (T := TX5) (kf := 2) (fs' := [.null, .null, .ref (qad X 35), .int 0, .int 0, .int 0, .int 0]) tyX5 dX5_init_9 rfl lay_5 tyX5_ok nmX5 (by decide) qn_247 rfl rfl (fun _ => rfl) (fun _ => rfl) (Nat.le_of_ble_eq_true rfl) rfl rfl ?_
  refine nb_aload_n dX5_init_12 rfl rfl ?_
  refine nb_iconst (v := -1) dX5_init_13 (by decide) rfl ?_
  refine nv_putI (ci := 5) (N := 7) (C := RX5) (T := TX5) (kf := 6) (fs' := [.null, .null, .ref (qad X 35), .int 0, .int 0, .int 0, .int (Int32.ofInt (-1))]) tyX5 dX5_init_14 rfl lay_5 tyX5_ok nmX5 (by decide) qn_252 rfl rfl (Nat.le_of_ble_eq_true rfl) rfl rfl ?_
  refine nb_aload_n dX5_init_17 rfl rfl ?_
  refine nb_aload_n dX5_init_18 rfl rfl ?_
  refine nv_putF (ci := 5) (N := 7) (C := RX5) (T := TX5) (kf := 0) (fs' := [.ref (qad X 1), .null, .ref (qad X 35), .int 0, .int 0, .int 0, .int (Int32.ofInt (-1))]) tyX5 dX5_init_19 rfl lay_5 tyX5_ok nmX5 (by decide) qn_245 rfl rfl (fun _ => rfl) (fun _ => rfl) (Nat.le_of_ble_eq_true rfl) rfl rfl ?_
  refine nb_aload_n dX5_init_22 rfl rfl ?_
  refine nb_aload_n dX5_init_23 rfl rfl ?_
  refine nv_putF (ci := 5) (N := 7) (C := RX5) (T := TX5) (kf := 1) (fs' := [.ref (qad X 1), .ref (qad X 3), .ref (qad X 35), .int 0, .int 0, .int 0, .int (Int32.ofInt (-1))]) tyX5 dX5_init_24 rfl lay_5 tyX5_ok nmX5 (by decide) qn_246 rfl rfl (fun _ => rfl) (fun _ => rfl) (Nat.le_of_ble_eq_true rfl) rfl rfl ?_
  exact nv_ret dX5_init_27 rfl rfl (Nat.le_of_ble_eq_true rfl)
set_option maxHeartbeats 4000000 in
set_option maxRecDepth 20000 in
theorem mk_5 {X : qX} {F : qSto} {sz : Nat} (a36 : qad X 36 = sz + 0) : nbC X 1 yX9_init cX9_init 2 [qr 5, qr 2] [(qad X 5, .inr (9, [.null, .null]))] sz (fun _ => True) (nws X (nSb F) [5, 36]) 1 336 := by
  refine nv_entry (nSb F) (lv := [(0, qr 5), (1, qr 2)]) pn_X9 rfl (Nat.le_of_ble_eq_true rfl) rfl ?_
  refine nb_aload_n dX9_init_0 rfl rfl ?_
  refine nb_obj dX9_init_1 qn_274 qn_152 qn_153 (Nat.le_of_ble_eq_true rfl) (Nat.le_of_ble_eq_true rfl) rfl ?_
  refine nb_aload_n dX9_init_4 rfl rfl ?_
  refine nb_sipush dX9_init_5 (by decide) rfl ?_
  refine nv_nI (c := 36) (L' := [36]) dX9_init_8 qn_226 sh_36 (fun _ => rfl) rfl (by decide) (a36) (Nat.le_of_ble_eq_true rfl) (Nat.le_of_ble_eq_true rfl) rfl rfl ?_
  refine nv_putF (ci := 9) (N := 2) (C := RX9) (T := TX9) (kf := 1) (fs' := [.null, .ref (qad X 36)]) tyX9 dX9_init_10 rfl lay_9 tyX9_ok nmX9 (by decide) qn_276 rfl rfl (fun _ => rfl) (fun _ => rfl) (Nat.le_of_ble_eq_true rfl) rfl rfl ?_
  refine nb_aload_n dX9_init_13 rfl rfl ?_
  refine nb_aload_n dX9_init_14 rfl rfl ?_
  refine nv_putF (ci := 9) (N := 2) (C := RX9) (T := TX9) (kf := 0) (fs' := [.ref (qad X 2), .ref (qad X 36)]) tyX9 dX9_init_15 rfl lay_9 tyX9_ok nmX9 (by decide) qn_275 rfl rfl (fun _ => rfl) (fun _ => rfl) (Nat.le_of_ble_eq_true rfl) rfl rfl ?_
  exact nv_ret dX9_init_18 rfl rfl (Nat.le_of_ble_eq_true rfl)
set_option maxHeartbeats 4000000 in
set_option maxRecDepth 20000 in
theorem mk_6 {X : qX} {F : qSto} {sz : Nat} (a37 : qad X 37 = sz + 0) (a38 : qad X 38 = sz + 1) (a39 : qad X 39 = sz + 2) (a40 : qad X 40 = sz + 3) (a41 : qad X 41 = sz + 4) (a42 : qad X 42 = sz + 5) (a43 : qad X 43 = sz + 6) (a44 : qad X 44 = sz + 7) : nbC X 1 yX7_init cX7_init 3 [qr 6, qr 2, qr 5] [(qad X 6, .inr (7, [.null, .null, .null, .null, .null, .null, .null, .null, .null, .null, .int 0, .int 0, .int 0, .int 0]))] sz (fun _ => True) (nws X (nSb F) [6, 37, 38, 39, 40, 41, 42, 43, 44]) 8 434 := by
  refine nv_entry (nSb F) (lv := [(0, qr 6), (1, qr 2), (2, qr 5)]) pn_X7 rfl (Nat.le_of_ble_eq_true rfl) rfl ?_
  refine nb_aload_n dX7_init_0 rfl rfl ?_
  refine nb_obj dX7_init_1 qn_288 qn_152 qn_153 (Nat.le_of_ble_eq_true rfl) (Nat.le_of_ble_eq_true rfl) rfl ?_
  refine nb_aload_n dX7_init_4 rfl rfl ?_
  refine nb_bipush dX7_init_5 (by decide) rfl ?_
  refine nv_nI (c := 37) (L' := [37]) dX7_init_7 qn_226 sh_37 (fun _ => rfl) rfl (by decide) (a37) (Nat.le_of_ble_eq_true rfl) (Nat.le_of_ble_eq_true rfl) rfl rfl ?_
  refine nv_putF (ci := 7) (N := 14) (C := RX7) (T := TX7) (kf := 2) (fs' := [.null, .null, .ref (qad X 37), .null, .null, .null, .null, .null, .null, .null, .int 0, .int 0, .int 0, .int 0]) tyX7 dX7_init_9 rfl lay_7 tyX7_ok nmX7 (by decide) qn_291 rfl rfl (fun _ => rfl) (fun _ => rfl) (Nat.le_of_ble_eq_true rfl) rfl rfl ?_
  refine nb_aload_n dX7_init_12 rfl rfl ?_
  refine nb_bipush dX7_init_13 (by decide) rfl ?_
  refine nv_nI (c := 38) (L' := [37, 38]) dX7_init_15 qn_226 sh_38 (fun _ => rfl) rfl (by decide) (a38) (Nat.le_of_ble_eq_true rfl) (Nat.le_of_ble_eq_true rfl) rfl rfl ?_
  refine nv_putF (ci := 7) (N := 14) (C := RX7) (T := TX7) (kf := 3) (fs' := [.null, .null, .ref (qad X 37), .ref (qad X 38), .null, .null, .null, .null, .null, .null, .int 0, .int 0, .int 0, .int 0]) tyX7 dX7_init_17 rfl lay_7 tyX7_ok nmX7 (by decide) qn_295 rfl rfl (fun _ => rfl) (fun _ => rfl) (Nat.le_of_ble_eq_true rfl) rfl rfl ?_
  refine nb_aload_n dX7_init_20 rfl rfl ?_
  refine nb_bipush dX7_init_21 (by decide) rfl ?_
  refine nv_nI (c := 39) (L' := [37, 38, 39]) dX7_init_23 qn_226 sh_39 (fun _ => rfl) rfl (by decide) (a39) (Nat.le_of_ble_eq_true rfl) (Nat.le_of_ble_eq_true rfl) rfl rfl ?_
  refine nv_putF (ci := 7) (N := 14) (C := RX7) (T := TX7) (kf := 4) (fs' := [.null, .null, .ref (qad X 37), .ref (qad X 38), .ref (qad X 39), .null, .null, .null, .null, .null, .int 0, .int 0, .int 0, .int 0]) tyX7 dX7_init_25 rfl lay_7 tyX7_ok nmX7 (by decide) qn_299 rfl rfl (fun _ => rfl) (fun _ => rfl) (Nat.le_of_ble_eq_true rfl) rfl rfl ?_
  refine nb_aload_n dX7_init_28 rfl rfl ?_
  refine nb_bipush dX7_init_29 (by decide) rfl ?_
  refine nv_nI (c := 40) (L' := [37, 38, 39, 40]) dX7_init_31 qn_226 sh_40 (fun _ => rfl) rfl (by decide) (a40) (Nat.le_of_ble_eq_true rfl) (Nat.le_of_ble_eq_true rfl) rfl rfl ?_
  refine nv_putF (ci := 7) (N := 14) (C := RX7) (T := TX7) (kf := 5) (fs' := [.null, .null, .ref (qad X 37), .ref (qad X 38), .ref (qad X 39), .ref (qad X 40), .null, .null, .null, .null, .int 0, .int 0, .int 0, .int 0]) tyX7 dX7_init_33 rfl lay_7 tyX7_ok nmX7 (by decide) qn_303 rfl rfl (fun _ => rfl) (fun _ => rfl) (Nat.le_of_ble_eq_true rfl) rfl rfl ?_
  refine nb_aload_n dX7_init_36 rfl rfl ?_
  refine nb_bipush dX7_init_37 (by decide) rfl ?_
  refine nv_nI (c := 41) (L' := [37, 38, 39, 40, 41]) dX7_init_39 qn_226 sh_41 (fun _ => rfl) rfl (by decide) (a41) (Nat.le_of_ble_eq_true rfl) (Nat.le_of_ble_eq_true rfl) rfl rfl ?_
  refine nv_putF (ci := 7) (N := 14) (C := RX7) (T := TX7) (kf := 6) (fs' := [.null, .null, .ref (qad X 37), .ref (qad X 38), .ref (qad X 39), .ref (qad X 40), .ref (qad X 41), .null, .null, .null, .int 0, .int 0, .int 0, .int 0]) tyX7 dX7_init_41 rfl lay_7 tyX7_ok nmX7 (by decide) qn_306 rfl rfl (fun _ => rfl) (fun _ => rfl) (Nat.le_of_ble_eq_true rfl) rfl rfl ?_
  refine nb_aload_n dX7_init_44 rfl rfl ?_
  refine nb_bipush dX7_init_45 (by decide) rfl ?_
  refine nv_nI (c := 42) (L' := [37, 38, 39, 40, 41, 42]) dX7_init_47 qn_226 sh_42 (fun _ => rfl) rfl (by decide) (a42) (Nat.le_of_ble_eq_true rfl) (Nat.le_of_ble_eq_true rfl) rfl rfl ?_
  refine nv_putF (ci := 7) (N := 14) (C := RX7) (T := TX7) (kf := 7) (fs' := [.null, .null, .ref (qad X 37), .ref (qad X 38), .ref (qad X 39), .ref (qad X 40), .ref (qad X 41), .ref (qad X 42), .null, .null, .int 0, .int 0, .int 0, .int 0]) tyX7 dX7_init_49 rfl lay_7 tyX7_ok nmX7 (by decide) qn_309 rfl rfl (fun _ => rfl) (fun _ => rfl) (Nat.le_of_ble_eq_true rfl) rfl rfl ?_
  refine nb_aload_n dX7_init_52 rfl rfl ?_
  refine nb_sipush dX7_init_53 (by decide) rfl ?_
  refine nv_nI (c := 43) (L' := [37, 38, 39, 40, 41, 42, 43]) dX7_init_56 qn_226 sh_43 (fun _ => rfl) rfl (by decide) (a43) (Nat.le_of_ble_eq_true rfl) (Nat.le_of_ble_eq_true rfl) rfl rfl ?_
  refine nv_putF (ci := 7) (N := 14) (C := RX7) (T := TX7) (kf := 8) (fs' := [.null, .null, .ref (qad X 37), .ref (qad X 38), .ref (qad X 39), .ref (qad X 40), .ref (qad X 41), .ref (qad X 42), .ref (qad X 43), .null, .int 0, .int 0, .int 0, .int 0]) tyX7 dX7_init_58 rfl lay_7 tyX7_ok nmX7 (by decide) qn_312 rfl rfl (fun _ => rfl) (fun _ => rfl) (Nat.le_of_ble_eq_true rfl) rfl rfl ?_
  refine nb_aload_n dX7_init_61 rfl rfl ?_
  refine nb_bipush dX7_init_62 (by decide) rfl ?_
  refine nv_nI (c := 44) (L' := [37, 38, 39, 40, 41, 42, 43, 44]) dX7_init_64 qn_226 sh_44 (fun _ => rfl) rfl (by decide) (a44) (Nat.le_of_ble_eq_true rfl) (Nat.le_of_ble_eq_true rfl) rfl rfl ?_
  refine nv_putF (ci := 7) (N := 14) (C := RX7) (T := TX7) (kf := 9) (fs' := [.null, .null, .ref (qad X 37), .ref (qad X 38), .ref (qad X 39), .ref (qad X 40), .ref (qad X 41), .ref (qad X 42), .ref (qad X 43), .ref (qad X 44), .int 0, .int 0, .int 0, .int 0]) tyX7 dX7_init_66 rfl lay_7 tyX7_ok nmX7 (by decide) qn_315 rfl rfl (fun _ => rfl) (fun _ => rfl) (Nat.le_of_ble_eq_true rfl) rfl rfl ?_
  refine nb_aload_n dX7_init_69 rfl rfl ?_
  refine nb_aload_n dX7_init_70 rfl rfl ?_
  refine nv_putF (ci := 7) (N := 14) (C := RX7) (T := TX7) (kf := 0) (fs' := [.ref (qad X 2), .null, .ref (qad X 37), .ref (qad X 38), .ref (qad X 39), .ref (qad X 40), .ref (qad X 41), .ref (qad X 42), .ref (qad X 43), .ref (qad X 44), .int 0, .int 0, .int 0, .int 0]) tyX7 dX7_init_71 rfl lay_7 tyX7_ok nmX7 (by decide) qn_289 rfl rfl (fun _ => rfl) (fun _ => rfl) (Nat.le_of_ble_eq_true rfl) rfl rfl ?_
  refine nb_aload_n dX7_init_74 rfl rfl ?_
  refine nb_aload_n dX7_init_75 rfl rfl ?_
  refine nv_putF (ci := 7) (N := 14) (C := RX7) (T := TX7) (kf := 1) (fs' := [.ref (qad X 2), .ref (qad X 5), .ref (qad X 37), .ref (qad X 38), .ref (qad X 39), .ref (qad X 40), .ref (qad X 41), .ref (qad X 42), .ref (qad X 43), .ref (qad X 44), .int 0, .int 0, .int 0, .int 0]) tyX7 dX7_init_76 rfl lay_7 tyX7_ok nmX7 (by decide) qn_290 rfl rfl (fun _ => rfl) (fun _ => rfl) (Nat.le_of_ble_eq_true rfl) rfl rfl ?_
  exact nv_ret dX7_init_79 rfl rfl (Nat.le_of_ble_eq_true rfl)
set_option maxHeartbeats 4000000 in
set_option maxRecDepth 20000 in
theorem mk_7 {X : qX} {F : qSto} {sz : Nat} (a45 : qad X 45 = sz + 0) : nbC X 1 yX0_init cX0_init 3 [qr 7, qr 2, qr 6] [(qad X 7, .inr (0, [.null, .null, .null]))] sz (fun _ => True) (nws X (nSb F) [7, 45]) 1 8 := by
  refine nv_entry (nSb F) (lv := [(0, qr 7), (1, qr 2), (2, qr 6)]) pn_X0 rfl (Nat.le_of_ble_eq_true rfl) rfl ?_
  refine nb_aload_n dX0_init_0 rfl rfl ?_
  refine nb_obj dX0_init_1 qn_358 qn_152 qn_153 (Nat.le_of_ble_eq_true rfl) (Nat.le_of_ble_eq_true rfl) rfl ?_
  refine nb_aload_n dX0_init_4 rfl rfl ?_
  refine nb_bipush dX0_init_5 (by decide) rfl ?_
  refine nv_nI (c := 45) (L' := [45]) dX0_init_7 qn_226 sh_45 (fun _ => rfl) rfl (by decide) (a45) (Nat.le_of_ble_eq_true rfl) (Nat.le_of_ble_eq_true rfl) rfl rfl ?_
  refine nv_putF (ci := 0) (N := 3) (C := RX0) (T := TX0) (kf := 2) (fs' := [.null, .null, .ref (qad X 45)]) tyX0 dX0_init_9 rfl lay_0 tyX0_ok nmX0 (by decide) qn_361 rfl rfl (fun _ => rfl) (fun _ => rfl) (Nat.le_of_ble_eq_true rfl) rfl rfl ?_
  refine nb_aload_n dX0_init_12 rfl rfl ?_
  refine nb_aload_n dX0_init_13 rfl rfl ?_
  refine nv_putF (ci := 0) (N := 3) (C := RX0) (T := TX0) (kf := 0) (fs' := [.ref (qad X 2), .null, .ref (qad X 45)]) tyX0 dX0_init_14 rfl lay_0 tyX0_ok nmX0 (by decide) qn_359 rfl rfl (fun _ => rfl) (fun _ => rfl) (Nat.le_of_ble_eq_true rfl) rfl rfl ?_
  refine nb_aload_n dX0_init_17 rfl rfl ?_
  refine nb_aload_n dX0_init_18 rfl rfl ?_
  refine nv_putF (ci := 0) (N := 3) (C := RX0) (T := TX0) (kf := 1) (fs' := [.ref (qad X 2), .ref (qad X 6), .ref (qad X 45)]) tyX0 dX0_init_19 rfl lay_0 tyX0_ok nmX0 (by decide) qn_360 rfl rfl (fun _ => rfl) (fun _ => rfl) (Nat.le_of_ble_eq_true rfl) rfl rfl ?_
  exact nv_ret dX0_init_22 rfl rfl (Nat.le_of_ble_eq_true rfl)
set_option maxHeartbeats 4000000 in
set_option maxRecDepth 20000 in
theorem mk_8 {X : qX} {F : qSto} {sz : Nat} : nbC X 1 yX3_init cX3_init 5 [qr 8, qr 2, qr 5, qr 6, qr 7] [(qad X 8, .inr (3, [.null, .null, .null, .null, .int 0, .int 0]))] sz (fun _ => True) (nws X (nSb F) [8]) 0 0 := by
  refine nv_entry (nSb F) (lv := [(0, qr 8), (1, qr 2), (2, qr 5), (3, qr 6), (4, qr 7)]) pn_X3 rfl (Nat.le_of_ble_eq_true rfl) rfl ?_
  refine nb_aload_n dX3_init_0 rfl rfl ?_
  refine nb_obj dX3_init_1 qn_375 qn_152 qn_153 (Nat.le_of_ble_eq_true rfl) (Nat.le_of_ble_eq_true rfl) rfl ?_
  refine nb_aload_n dX3_init_4 rfl rfl ?_
  refine nb_aload_n dX3_init_5 rfl rfl ?_
  refine nv_putF (ci := 3) (N := 6) (C := RX3) (T := TX3) (kf := 0) (fs' := [.ref (qad X 2), .null, .null, .null, .int 0, .int 0]) tyX3 dX3_init_6 rfl lay_3 tyX3_ok nmX3 (by decide) qn_376 rfl rfl (fun _ => rfl) (fun _ => rfl) (Nat.le_of_ble_eq_true rfl) rfl rfl ?_
  refine nb_aload_n dX3_init_9 rfl rfl ?_
  refine nb_aload_n dX3_init_10 rfl rfl ?_
  refine nv_putF (ci := 3) (N := 6) (C := RX3) (T := TX3) (kf := 1) (fs' := [.ref (qad X 2), .ref (qad X 5), .null, .null, .int 0, .int 0]) tyX3 dX3_init_11 rfl lay_3 tyX3_ok nmX3 (by decide) qn_377 rfl rfl (fun _ => rfl) (fun _ => rfl) (Nat.le_of_ble_eq_true rfl) rfl rfl ?_
  refine nb_aload_n dX3_init_14 rfl rfl ?_
  refine nb_aload_n dX3_init_15 rfl rfl ?_
  refine nv_putF (ci := 3) (N := 6) (C := RX3) (T := TX3) (kf := 2) (fs' := [.ref (qad X 2), .ref (qad X 5), .ref (qad X 6), .null, .int 0, .int 0]) tyX3 dX3_init_16 rfl lay_3 tyX3_ok nmX3 (by decide) qn_378 rfl rfl (fun _ => rfl) (fun _ => rfl) (Nat.le_of_ble_eq_true rfl) rfl rfl ?_
  refine nb_aload_n dX3_init_19 rfl rfl ?_
  refine nb_aload dX3_init_20 rfl rfl ?_
  refine nv_putF (ci := 3) (N := 6) (C := RX3) (T := TX3) (kf := 3) (fs' := [.ref (qad X 2), .ref (qad X 5), .ref (qad X 6), .ref (qad X 7), .int 0, .int 0]) tyX3 dX3_init_22 rfl lay_3 tyX3_ok nmX3 (by decide) qn_379 rfl rfl (fun _ => rfl) (fun _ => rfl) (Nat.le_of_ble_eq_true rfl) rfl rfl ?_
  exact nv_ret dX3_init_25 rfl rfl (Nat.le_of_ble_eq_true rfl)
set_option maxHeartbeats 4000000 in
set_option maxRecDepth 20000 in
theorem mk_9 {X : qX} {F : qSto} {sz : Nat} (a46 : qad X 46 = sz + 0) : nbC X 1 yX6_init cX6_init 5 [qr 9, qr 2, qr 5, qr 8, qr 7] [(qad X 9, .inr (6, [.null, .null, .null, .null, .null, .int 0, .int 0, .int 0, .int 0]))] sz (fun _ => True) (nws X (nSb F) [9, 46]) 1 100 := by
  refine nv_entry (nSb F) (lv := [(0, qr 9), (1, qr 2), (2, qr 5), (3, qr 8), (4, qr 7)]) pn_X6 rfl (Nat.le_of_ble_eq_true rfl) rfl ?_
  refine nb_aload_n dX6_init_0 rfl rfl ?_
  refine nb_obj dX6_init_1 qn_402 qn_152 qn_153 (Nat.le_of_ble_eq_true rfl) (Nat.le_of_ble_eq_true rfl) rfl ?_
  refine nb_aload_n dX6_init_4 rfl rfl ?_
  refine nb_bipush dX6_init_5 (by decide) rfl ?_
  refine nv_nI (c := 46) (L' := [46]) dX6_init_7 qn_226 sh_46 (fun _ => rfl) rfl (by decide) (a46) (Nat.le_of_ble_eq_true rfl) (Nat.le_of_ble_eq_true rfl) rfl rfl ?_
  refine nv_putF (ci := 6) (N := 9) (C := RX6) (T := TX6) (kf := 4) (fs' := [.null, .null, .null, .null, .ref (qad X 46), .int 0, .int 0, .int 0, .int 0]) tyX6 dX6_init_9 rfl lay_6 tyX6_ok nmX6 (by decide) qn_407 rfl rfl (fun _ => rfl) (fun _ => rfl) (Nat.le_of_ble_eq_true rfl) rfl rfl ?_
  refine nb_aload_n dX6_init_12 rfl rfl ?_
  refine nb_aload_n dX6_init_13 rfl rfl ?_
  refine nv_putF (ci := 6) (N := 9) (C := RX6) (T := TX6) (kf := 0) (fs' := [.ref (qad X 2), .null, .null, .null, .ref (qad X 46), .int 0, .int 0, .int 0, .int 0]) tyX6 dX6_init_14 rfl lay_6 tyX6_ok nmX6 (by decide) qn_403 rfl rfl (fun _ => rfl) (fun _ => rfl) (Nat.le_of_ble_eq_true rfl) rfl rfl ?_
  refine nb_aload_n dX6_init_17 rfl rfl ?_
  refine nb_aload_n dX6_init_18 rfl rfl ?_
  refine nv_putF (ci := 6) (N := 9) (C := RX6) (T := TX6) (kf := 1) (fs' := [.ref (qad X 2), .ref (qad X 5), .null, .null, .ref (qad X 46), .int 0, .int 0, .int 0, .int 0]) tyX6 dX6_init_19 rfl lay_6 tyX6_ok nmX6 (by decide) qn_404 rfl rfl (fun _ => rfl) (fun _ => rfl) (Nat.le_of_ble_eq_true rfl) rfl rfl ?_
  refine nb_aload_n dX6_init_22 rfl rfl ?_
  refine nb_aload_n dX6_init_23 rfl rfl ?_
  refine nv_putF (ci := 6) (N := 9) (C := RX6) (T := TX6) (kf := 2) (fs' := [.ref (qad X 2), .ref (qad X 5), .ref (qad X 8), .null, .ref (qad X 46), .int 0, .int 0, .int 0, .int 0]) tyX6 dX6_init_24 rfl lay_6 tyX6_ok nmX6 (by decide) qn_405 rfl rfl (fun _ => rfl) (fun _ => rfl) (Nat.le_of_ble_eq_true rfl) rfl rfl ?_
  refine nb_aload_n dX6_init_27 rfl rfl ?_
  refine nb_aload dX6_init_28 rfl rfl ?_
  refine nv_putF (ci := 6) (N := 9) (C := RX6) (T := TX6) (kf := 3) (fs' := [.ref (qad X 2), .ref (qad X 5), .ref (qad X 8), .ref (qad X 7), .ref (qad X 46), .int 0, .int 0, .int 0, .int 0]) tyX6 dX6_init_30 rfl lay_6 tyX6_ok nmX6 (by decide) qn_406 rfl rfl (fun _ => rfl) (fun _ => rfl) (Nat.le_of_ble_eq_true rfl) rfl rfl ?_
  exact nv_ret dX6_init_33 rfl rfl (Nat.le_of_ble_eq_true rfl)
set_option maxHeartbeats 4000000 in
set_option maxRecDepth 20000 in
theorem mk_10 {X : qX} {F : qSto} {sz : Nat} : nbC X 1 yX4_init cX4_init 2 [qr 10, qr 2] [(qad X 10, .inr (4, [.null]))] sz (fun _ => True) (nws X (nSb F) [10]) 0 0 := by
  refine nv_entry (nSb F) (lv := [(0, qr 10), (1, qr 2)]) pn_X4 rfl (Nat.le_of_ble_eq_true rfl) rfl ?_
  refine nb_aload_n dX4_init_0 rfl rfl ?_
  refine nb_obj dX4_init_1 qn_443 qn_152 qn_153 (Nat.le_of_ble_eq_true rfl) (Nat.le_of_ble_eq_true rfl) rfl ?_
  refine nb_aload_n dX4_init_4 rfl rfl ?_
  refine nb_aload_n dX4_init_5 rfl rfl ?_
  refine nv_putF (ci := 4) (N := 1) (C := RX4) (T := TX4) (kf := 0) (fs' := [.ref (qad X 2)]) tyX4 dX4_init_6 rfl lay_4 tyX4_ok nmX4 (by decide) qn_444 rfl rfl (fun _ => rfl) (fun _ => rfl) (Nat.le_of_ble_eq_true rfl) rfl rfl ?_
  exact nv_ret dX4_init_9 rfl rfl (Nat.le_of_ble_eq_true rfl)
set_option maxHeartbeats 4000000 in
set_option maxRecDepth 20000 in
theorem mk_11 {X : qX} {F : qSto} {sz : Nat} (a47 : qad X 47 = sz + 0) (a48 : qad X 48 = sz + 1) (a49 : qad X 49 = sz + 2) (a50 : qad X 50 = sz + 3) : nbC X 1 yX1_init cX1_init 4 [qr 11, qr 2, qr 6, qr 9] [(qad X 11, .inr (1, [.null, .null, .null, .int 0, .int 0, .int 0, .int 0, .null, .null, .null, .null]))] sz (fun _ => True) (nws X (nSb F) [11, 47, 48, 49, 50]) 4 16 := by
  refine nv_entry (nSb F) (lv := [(0, qr 11), (1, qr 2), (2, qr 6), (3, qr 9)]) pn_X1 rfl (Nat.le_of_ble_eq_true rfl) rfl ?_
  refine nb_aload_n dX1_init_0 rfl rfl ?_
  refine nb_obj dX1_init_1 qn_453 qn_152 qn_153 (Nat.le_of_ble_eq_true rfl) (Nat.le_of_ble_eq_true rfl) rfl ?_
  refine nb_aload_n dX1_init_4 rfl rfl ?_
  refine nb_iconst (v := 4) dX1_init_5 (by decide) rfl ?_
  refine nv_nI (c := 47) (L' := [47]) dX1_init_6 qn_226 sh_47 (fun _ => rfl) rfl (by decide) (a47) (Nat.le_of_ble_eq_true rfl) (Nat.le_of_ble_eq_true rfl) rfl rfl ?_
  refine nv_putF (ci := 1) (N := 11) (C := RX1) (T := TX1) (kf := 7) (fs' := [.null, .null, .null, .int 0, .int 0, .int 0, .int 0, .ref (qad X 47), .null, .null, .null]) tyX1 dX1_init_8 rfl lay_1 tyX1_ok nmX1 (by decide) qn_465 rfl rfl (fun _ => rfl) (fun _ => rfl) (Nat.le_of_ble_eq_true rfl) rfl rfl ?_
  refine nb_aload_n dX1_init_11 rfl rfl ?_
  refine nb_iconst (v := 4) dX1_init_12 (by decide) rfl ?_
  refine nv_nI (c := 48) (L' := [47, 48]) dX1_init_13 qn_226 sh_48 (fun _ => rfl) rfl (by decide) (a48) (Nat.le_of_ble_eq_true rfl) (Nat.le_of_ble_eq_true rfl) rfl rfl ?_
  refine nv_putF (ci := 1) (N := 11) (C := RX1) (T := TX1) (kf := 8) (fs' := [.null, .null, .null, .int 0, .int 0, .int 0, .int 0, .ref (qad X 47), .ref (qad X 48), .null, .null]) tyX1 dX1_init_15 rfl lay_1 tyX1_ok nmX1 (by decide) qn_467 rfl rfl (fun _ => rfl) (fun _ => rfl) (Nat.le_of_ble_eq_true rfl) rfl rfl ?_
  refine nb_aload_n dX1_init_18 rfl rfl ?_
  refine nb_iconst (v := 4) dX1_init_19 (by decide) rfl ?_
  refine nv_nI (c := 49) (L' := [47, 48, 49]) dX1_init_20 qn_226 sh_49 (fun _ => rfl) rfl (by decide) (a49) (Nat.le_of_ble_eq_true rfl) (Nat.le_of_ble_eq_true rfl) rfl rfl ?_
  refine nv_putF (ci := 1) (N := 11) (C := RX1) (T := TX1) (kf := 9) (fs' := [.null, .null, .null, .int 0, .int 0, .int 0, .int 0, .ref (qad X 47), .ref (qad X 48), .ref (qad X 49), .null]) tyX1 dX1_init_22 rfl lay_1 tyX1_ok nmX1 (by decide) qn_468 rfl rfl (fun _ => rfl) (fun _ => rfl) (Nat.le_of_ble_eq_true rfl) rfl rfl ?_
  refine nb_aload_n dX1_init_25 rfl rfl ?_
  refine nb_iconst (v := 4) dX1_init_26 (by decide) rfl ?_
  refine nv_nZ (c := 50) (L' := [47, 48, 49, 50]) dX1_init_27 qn_493 sh_50 (fun _ => rfl) rfl (by decide) (a50) (Nat.le_of_ble_eq_true rfl) (Nat.le_of_ble_eq_true rfl) rfl rfl ?_
  refine nv_putF (ci := 1) (N := 11) (C := RX1) (T := TX1) (kf := 10) (fs' := [.null, .null, .null, .int 0, .int 0, .int 0, .int 0, .ref (qad X 47), .ref (qad X 48), .ref (qad X 49), .ref (qad X 50)]) tyX1 dX1_init_29 rfl lay_1 tyX1_ok nmX1 (by decide) qn_469 rfl rfl (fun _ => rfl) (fun _ => rfl) (Nat.le_of_ble_eq_true rfl) rfl rfl ?_
  refine nb_aload_n dX1_init_32 rfl rfl ?_
  refine nb_aload_n dX1_init_33 rfl rfl ?_
  refine nv_putF (ci := 1) (N := 11) (C := RX1) (T := TX1) (kf := 0) (fs' := [.ref (qad X 2), .null, .null, .int 0, .int 0, .int 0, .int 0, .ref (qad X 47), .ref (qad X 48), .ref (qad X 49), .ref (qad X 50)]) tyX1 dX1_init_34 rfl lay_1 tyX1_ok nmX1 (by decide) qn_454 rfl rfl (fun _ => rfl) (fun _ => rfl) (Nat.le_of_ble_eq_true rfl) rfl rfl ?_
  refine nb_aload_n dX1_init_37 rfl rfl ?_
  refine nb_aload_n dX1_init_38 rfl rfl ?_
  refine nv_putF (ci := 1) (N := 11) (C := RX1) (T := TX1) (kf := 1) (fs' := [.ref (qad X 2), .ref (qad X 6), .null, .int 0, .int 0, .int 0, .int 0, .ref (qad X 47), .ref (qad X 48), .ref (qad X 49), .ref (qad X 50)]) tyX1 dX1_init_39 rfl lay_1 tyX1_ok nmX1 (by decide) qn_455 rfl rfl (fun _ => rfl) (fun _ => rfl) (Nat.le_of_ble_eq_true rfl) rfl rfl ?_
  refine nb_aload_n dX1_init_42 rfl rfl ?_
  refine nb_aload_n dX1_init_43 rfl rfl ?_
  refine nv_putF (ci := 1) (N := 11) (C := RX1) (T := TX1) (kf := 2) (fs' := [.ref (qad X 2), .ref (qad X 6), .ref (qad X 9), .int 0, .int 0, .int 0, .int 0, .ref (qad X 47), .ref (qad X 48), .ref (qad X 49), .ref (qad X 50)]) tyX1 dX1_init_44 rfl lay_1 tyX1_ok nmX1 (by decide) qn_456 rfl rfl (fun _ => rfl) (fun _ => rfl) (Nat.le_of_ble_eq_true rfl) rfl rfl ?_
  exact nv_ret dX1_init_47 rfl rfl (Nat.le_of_ble_eq_true rfl)
set_option maxHeartbeats 4000000 in
set_option maxRecDepth 20000 in
theorem mk_12 {X : qX} {F : qSto} {sz : Nat} (a51 : qad X 51 = sz + 0) (a52 : qad X 52 = sz + 1) (a53 : qad X 53 = sz + 2) (a54 : qad X 54 = sz + 3) (a55 : qad X 55 = sz + 4) (a56 : qad X 56 = sz + 5) (a57 : qad X 57 = sz + 6) (a58 : qad X 58 = sz + 7) (a59 : qad X 59 = sz + 8) (a60 : qad X 60 = sz + 9) (a61 : qad X 61 = sz + 10) (a62 : qad X 62 = sz + 11) (a63 : qad X 63 = sz + 12) (a64 : qad X 64 = sz + 13) (a65 : qad X 65 = sz + 14) (a66 : qad X 66 = sz + 15) (a67 : qad X 67 = sz + 16) (a68 : qad X 68 = sz + 17) : nbC X 1 yX2_init cX2_init 1 [qr 12] [(qad X 12, .inr (2, [.null, .int 0, .int 0, .null, .int 0]))] sz nAO (nws X (nSb F) [12, 51, 52, 53, 54, 55, 56, 57, 58, 59, 60, 61, 62, 63, 64, 65, 66, 67, 68]) 18 688 := by
  refine nv_entry (nSb F) (lv := [(0, qr 12)]) pn_X2 rfl (Nat.le_of_ble_eq_true rfl) rfl ?_
  refine nb_aload_n dX2_init_0 rfl rfl ?_
  refine nb_obj dX2_init_1 qn_499 qn_152 qn_153 (Nat.le_of_ble_eq_true rfl) (Nat.le_of_ble_eq_true rfl) rfl ?_
  refine nb_aload_n dX2_init_4 rfl rfl ?_
  refine nb_bipush dX2_init_5 (by decide) rfl ?_
  refine nb_bipush dX2_init_7 (by decide) rfl ?_
  refine nv_nM (c := 51) (L' := [51, 52, 53, 54, 55, 56, 57, 58, 59, 60, 61, 62, 63]) (N := 12) (M := 42) dX2_init_9 qn_500 (fun _ h => h) qn_226 rfl (fun j hj => ?_) (fun j hj => ?_) rfl rfl (by decide) (by decide) (a51) (fun j hj => ?_) (Nat.le_of_ble_eq_true rfl) (Nat.le_of_ble_eq_true rfl) rfl rfl ?_
  · rcases n_lt12 hj with rfl | rfl | rfl | rfl | rfl | rfl | rfl | rfl | rfl | rfl | rfl | rfl <;> rfl
  · rcases n_lt12 hj with rfl | rfl | rfl | rfl | rfl | rfl | rfl | rfl | rfl | rfl | rfl | rfl <;> exact fun _ => rfl
  · rcases n_lt12 hj with rfl | rfl | rfl | rfl | rfl | rfl | rfl | rfl | rfl | rfl | rfl | rfl
    · exact a52
    · exact a53
    · exact a54
    · exact a55
    · exact a56
    · exact a57
    · exact a58
    · exact a59
    · exact a60
    · exact a61
    · exact a62
    · exact a63
  refine nv_putF (ci := 2) (N := 5) (C := RX2) (T := TX2) (kf := 0) (fs' := [.ref (qad X 51), .int 0, .int 0, .null, .int 0]) tyX2 dX2_init_13 rfl lay_2 tyX2_ok nmX2 (by decide) qn_502 rfl rfl (fun _ => rfl) (fun _ => rfl) (Nat.le_of_ble_eq_true rfl) rfl rfl ?_
  refine nb_aload_n dX2_init_16 rfl rfl ?_
  refine nb_iconst (v := 4) dX2_init_17 (by decide) rfl ?_
  refine nb_bipush dX2_init_18 (by decide) rfl ?_
  refine nv_nM (c := 64) (L' := [51, 52, 53, 54, 55, 56, 57, 58, 59, 60, 61, 62, 63, 64, 65, 66, 67, 68]) (N := 4) (M := 42) dX2_init_20 qn_500 (fun _ h => h) qn_226 rfl (fun j hj => ?_) (fun j hj => ?_) rfl rfl (by decide) (by decide) (a64) (fun j hj => ?_) (Nat.le_of_ble_eq_true rfl) (Nat.le_of_ble_eq_true rfl) rfl rfl ?_
  · rcases n_lt4 hj with rfl | rfl | rfl | rfl <;> rfl
  · rcases n_lt4 hj with rfl | rfl | rfl | rfl <;> exact fun _ => rfl
  · rcases n_lt4 hj with rfl | rfl | rfl | rfl
    · exact a65
    · exact a66
    · exact a67
    · exact a68
  refine nv_putF (ci := 2) (N := 5) (C := RX2) (T := TX2) (kf := 3) (fs' := [.ref (qad X 51), .int 0, .int 0, .ref (qad X 64), .int 0]) tyX2 dX2_init_24 rfl lay_2 tyX2_ok nmX2 (by decide) qn_506 rfl rfl (fun _ => rfl) (fun _ => rfl) (Nat.le_of_ble_eq_true rfl) rfl rfl ?_
  exact nv_ret dX2_init_27 rfl rfl (Nat.le_of_ble_eq_true rfl)
set_option maxHeartbeats 4000000 in
set_option maxRecDepth 20000 in
theorem mk_13 {X : qX} {F : qSto} {sz : Nat} (a69 : qad X 69 = sz + 0) : nbC X 1 yX10_init cX10_init 1 [qr 13] [(qad X 13, .inr (10, [.null, .int 0]))] sz (fun _ => True) (nws X (nSb F) [13, 69]) 1 266 := by
  refine nv_entry (nSb F) (lv := [(0, qr 13)]) pn_X10 rfl (Nat.le_of_ble_eq_true rfl) rfl ?_
  refine nb_aload_n dX10_init_0 rfl rfl ?_
  refine nb_obj dX10_init_1 qn_526 qn_152 qn_153 (Nat.le_of_ble_eq_true rfl) (Nat.le_of_ble_eq_true rfl) rfl ?_
  refine nb_aload_n dX10_init_4 rfl rfl ?_
  refine nb_sipush dX10_init_5 (by decide) rfl ?_
  refine nv_nB (c := 69) (L' := [69]) dX10_init_8 qn_225 sh_69 (fun _ => rfl) rfl (by decide) (a69) (Nat.le_of_ble_eq_true rfl) (Nat.le_of_ble_eq_true rfl) rfl rfl ?_
  refine nv_putF (ci := 10) (N := 2) (C := RX10) (T := TX10) (kf := 0) (fs' := [.ref (qad X 69), .int 0]) tyX10 dX10_init_10 rfl lay_10 tyX10_ok nmX10 (by decide) qn_527 rfl rfl (fun _ => rfl) (fun _ => rfl) (Nat.le_of_ble_eq_true rfl) rfl rfl ?_
  exact nv_ret dX10_init_13 rfl rfl (Nat.le_of_ble_eq_true rfl)
