/-! THE MAKING: the class, whole -/
def nol : List Nat := [0, 1, 2, 13, 24, 26, 28, 37, 39, 40, 42, 43, 48, 67, 69, 3, 4, 5, 6, 7, 8, 9, 10, 11, 12, 14, 15, 16, 17, 18, 19, 20, 21, 22, 23, 25, 27, 29, 30, 31, 32, 33, 34, 35, 36, 38, 41, 44, 45, 46, 47, 49, 50, 51, 52, 53, 54, 55, 56, 57, 58, 59, 60, 61, 62, 63, 64, 65, 66, 68]
/-- the cells of the class, by the order of the world behind its constructor -/
def nLQ : List Nat := [0, 1, 3, 25, 26, 27, 28, 29, 30, 31, 32, 33, 34, 2, 15, 16, 17, 18, 19, 20, 21, 22, 23, 24, 4, 35, 5, 36, 6, 37, 38, 39, 40, 41, 42, 43, 44, 7, 45, 8, 9, 46, 10, 11, 47, 48, 49, 50, 12, 51, 52, 53, 54, 55, 56, 57, 58, 59, 60, 61, 62, 63, 64, 65, 66, 67, 68, 13, 69, 14]
/-- told, seen as heard: for its first forget() -/
def nXt (X : qX) : qX := (X.1, X.2.1, X.2.2.1, fun c => if c = 3 then qad X 2 else if c < 25 then qad X c else if c < 35 then qad X (c - 10) else qad X c, X.2.2.2.2.1, [3, 25, 26, 27, 28, 29, 30, 31, 32, 33, 34])
theorem nXt_far (X : qX) : ∀ c, 100 ≤ c → qad (nXt X) c = qad X c := fun c h => by
  show (if c = 3 then qad X 2 else if c < 25 then qad X c else if c < 35 then qad X (c - 10) else qad X c) = _
  rw [if_neg (by omega), if_neg (by omega), if_neg (by omega)]
theorem nXt_L (X : qX) : ∀ c, c = 3 ∨ c = 25 ∨ c = 32 → c ∈ qLs (nXt X) := by
  intro c h
  have e : qLs (nXt X) = [3, 25, 26, 27, 28, 29, 30, 31, 32, 33, 34] := rfl
  rw [e]
  rcases h with rfl | rfl | rfl <;> decide
theorem nXt_ws {X : qX} {F : qSto} : qws (nXt X) F = nws X (nSb F) [2, 15, 16, 17, 18, 19, 20, 21, 22, 23, 24] := rfl
theorem nSb_off {F : qSto} {c : Nat} (h : c ≠ 2 ∧ (c < 15 ∨ 25 ≤ c)) : nSb F c = nS0 c := by
  funext j
  unfold nSb
  rw [if_neg h.1]
  split
  · rfl
  · rw [if_neg (by omega)]
theorem nws_off {X : qX} {F G : qSto} (L : List Nat) (h : ∀ c ∈ L, c ≠ 2 ∧ (c < 15 ∨ 25 ≤ c)) : nws X (nSb G) L = nws X (nSb F) L := by
  unfold nws
  apply List.map_congr_left
  intro c hc
  rw [qcell_off (show nSb G c = nSb F c by rw [nSb_off (h c hc), nSb_off (h c hc)])]
theorem ml_X11_23 : qML RX11 23 yX8_forget cX8_forget 1 none 0 := ⟨qn_227, qn_228, qn_229, qn_126, qn_230, ⟨by decide +kernel, by decide +kernel, by decide +kernel⟩, by decide⟩
theorem nXt_in {X : qX} {sz : Nat} {e : va_E} (ha : ∀ c, c < 70 → 1 ≤ c → qad X c = sz + nol.getD c 0) {q : Nat} (h : qA (nXt X) q) : va_A [(qad X 0, e)] (sz + 1) q := by
  obtain ⟨c, hc, rfl⟩ := h
  have e : qLs (nXt X) = [3, 25, 26, 27, 28, 29, 30, 31, 32, 33, 34] := rfl
  rw [e] at hc
  simp only [List.mem_cons, List.not_mem_nil, or_false] at hc
  rcases hc with rfl | rfl | rfl | rfl | rfl | rfl | rfl | rfl | rfl | rfl | rfl
  · refine Or.inr ?_
    rw [show qad (nXt X) 3 = sz + 2 from ha 2 (by decide) (by decide)]
    omega
  · refine Or.inr ?_
    rw [show qad (nXt X) 25 = sz + 3 from ha 15 (by decide) (by decide)]
    omega
  · refine Or.inr ?_
    rw [show qad (nXt X) 26 = sz + 4 from ha 16 (by decide) (by decide)]
    omega
  · refine Or.inr ?_
    rw [show qad (nXt X) 27 = sz + 5 from ha 17 (by decide) (by decide)]
    omega
  · refine Or.inr ?_
    rw [show qad (nXt X) 28 = sz + 6 from ha 18 (by decide) (by decide)]
    omega
  · refine Or.inr ?_
    rw [show qad (nXt X) 29 = sz + 7 from ha 19 (by decide) (by decide)]
    omega
  · refine Or.inr ?_
    rw [show qad (nXt X) 30 = sz + 8 from ha 20 (by decide) (by decide)]
    omega
  · refine Or.inr ?_
    rw [show qad (nXt X) 31 = sz + 9 from ha 21 (by decide) (by decide)]
    omega
  · refine Or.inr ?_
    rw [show qad (nXt X) 32 = sz + 10 from ha 22 (by decide) (by decide)]
    omega
  · refine Or.inr ?_
    rw [show qad (nXt X) 33 = sz + 11 from ha 23 (by decide) (by decide)]
    omega
  · refine Or.inr ?_
    rw [show qad (nXt X) 34 = sz + 12 from ha 24 (by decide) (by decide)]
    omega
set_option maxRecDepth 20000 in
theorem Told_fill_L5_ok {X : qX} (hL : ∀ c, c = 3 ∨ c = 25 ∨ c = 32 → c ∈ qLs X) (d : Nat) {Q : Option qV → qSto → Prop} : ∀ (n : Nat) (x1 : Int) (x2 : Int) (S : qSto) (o : qSto), Ja_fill_32_L5 n x1 x2 S = some o → (qW X d yJ7_fill_53178 cJ7_fill_53178 4 none 20 [] [] o Q) → qW X d yJ7_fill_53178 cJ7_fill_53178 4 none 5 [(0, qr 32), (1, qi x1), (2, qi x2), (3, qi 21)] [] S Q := by
  intro n
  induction n with
  | zero =>
    intro x1 x2 S o h
    simp [Ja_fill_32_L5] at h
  | succ n ih =>
    intro x1 x2 S o h hE
    rw [Ja_fill_32_L5] at h
    refine q_iload_n dJ7_fill_53178_5 rfl rfl ?_
    refine q_iload_n dJ7_fill_53178_6 rfl rfl ?_
    obtain ⟨c25, h⟩ := qk_some h
    refine q_icmp_ge (tgt := 20) dJ7_fill_53178_7 (by decide) rfl (qRb_R c25) ⟨by decide, by decide⟩ (fun g => ?_) (fun g => ?_)
    · rw [if_pos (show 21 ≤ x2 from g)] at h
      cases h
      exact q_pick [] rfl (hE)
    · rw [if_neg (show ¬ (21 ≤ x2) from g)] at h
      refine q_aload_n dJ7_fill_53178_10 rfl rfl ?_
      refine q_iload_n dJ7_fill_53178_11 rfl rfl ?_
      refine q_iload_n dJ7_fill_53178_12 rfl rfl ?_
      obtain ⟨c26, h⟩ := qk_some h
      refine q_iastore dJ7_fill_53178_13 (hL 32 (by decide)) sh_32 (qIx_0 c26) (qIx_1 c26) rfl ?_
      refine q_iinc (lv' := [(2, qi (x2 + 1)), (0, qr 32), (1, qi x1), (3, qi 21)]) dJ7_fill_53178_14 (by decide) rfl rfl rfl ?_
      refine q_goto (pc' := 5) dJ7_fill_53178_17 (by decide) ?_
      exact q_pick [1, 2, 0, 3] rfl (ih x1 (x2 + 1) _ _ h hE)
set_option maxRecDepth 20000 in
theorem Told_fill_ok {X : qX} (hL : ∀ c, c = 3 ∨ c = 25 ∨ c = 32 → c ∈ qLs X) (d : Nat) (a1 : Int) (S : qSto) (o : qSto) (h : Ja_fill_32 a1 S = some o) (Q : Option qV → qSto → Prop) (hQ : Q none o) : qC X d yJ7_fill_53178 cJ7_fill_53178 4 none [qr 32, qi a1] S Q := by
  refine q_entry (lv := [(0, qr 32), (1, qi a1)]) pn_J7 (Nat.le_of_ble_eq_true rfl) rfl ?_
  unfold Ja_fill_32 at h
  refine q_iconst dJ7_fill_53178_0 rfl rfl ?_
  refine q_istore_n (lv' := [(2, qi 0), (0, qr 32), (1, qi a1)]) dJ7_fill_53178_1 (by decide) rfl rfl ?_
  refine q_aload_n dJ7_fill_53178_2 rfl rfl ?_
  refine q_alen (k0 := 0) dJ7_fill_53178_3 (hL 32 (by decide)) sh_32 (by decide) rfl ?_
  refine q_istore_n (lv' := [(3, qi 21), (2, qi 0), (0, qr 32), (1, qi a1)]) dJ7_fill_53178_4 (by decide) rfl rfl ?_
  obtain ⟨q27, h28, h⟩ := Option.bind_eq_some_iff.mp h
  refine q_pick [2, 3, 1, 0] rfl (Told_fill_L5_ok hL d qF a1 0 _ _ h28 ?_)
  cases h
  exact q_return dJ7_fill_53178_20 rfl hQ
set_option maxRecDepth 20000 in
theorem Told_forget_ok {X : qX} (hL : ∀ c, c = 3 ∨ c = 25 ∨ c = 32 → c ∈ qLs X) (d : Nat) (S : qSto) (o : qSto) (h : Heard_forget S = some o) (Q : Option qV → qSto → Prop) (hQ : Q none o) : qC X (d + 1) yX8_forget cX8_forget 1 none [qr 3] S Q := by
  refine q_entry (lv := [(0, qr 3)]) pn_X8 (Nat.le_of_ble_eq_true rfl) rfl ?_
  unfold Heard_forget at h
  refine q_gets (i := 4) dX8_forget_0 (by decide) (by decide) rfl ?_
  refine q_iconst dX8_forget_3 rfl rfl ?_
  refine q_aload_n dX8_forget_4 rfl rfl ?_
  refine q_getA dX8_forget_5 fl_X8_9 (hL 3 (by decide)) sh_3 (by decide) rfl rfl ?_
  refine q_iconst dX8_forget_8 rfl rfl ?_
  refine q_bipush dX8_forget_9 (by decide) rfl ?_
  refine q_copyT (t := 4) dX8_forget_11 cw_X8_45 (by decide) (hL 25 (by decide)) sh_25 (by decide) (by decide) (by decide) (by decide) (by decide) (Nat.le_of_ble_eq_true rfl) rfl ?_
  refine q_aload_n dX8_forget_14 rfl rfl ?_
  refine q_iconst dX8_forget_15 rfl rfl ?_
  refine q_putI dX8_forget_16 fl_X8_51 (hL 3 (by decide)) sh_3 (by decide) pf_8_1 pt_8_1 rfl rfl ?_
  refine q_aload_n dX8_forget_19 rfl rfl ?_
  refine q_iconst dX8_forget_20 rfl rfl ?_
  refine q_putI dX8_forget_21 fl_X8_55 (hL 3 (by decide)) sh_3 (by decide) pf_8_2 pt_8_2 rfl rfl ?_
  refine q_aload_n dX8_forget_24 rfl rfl ?_
  refine q_iconst dX8_forget_25 rfl rfl ?_
  refine q_putI dX8_forget_26 fl_X8_58 (hL 3 (by decide)) sh_3 (by decide) pf_8_5 pt_8_5 rfl rfl ?_
  refine q_aload_n dX8_forget_29 rfl rfl ?_
  refine q_iconst dX8_forget_30 rfl rfl ?_
  refine q_putI dX8_forget_31 fl_X8_61 (hL 3 (by decide)) sh_3 (by decide) pf_8_8 pt_8_8 rfl rfl ?_
  refine q_aload_n dX8_forget_34 rfl rfl ?_
  refine q_getA dX8_forget_35 fl_X8_33 (hL 3 (by decide)) sh_3 (by decide) rfl rfl ?_
  refine q_iconst dX8_forget_38 rfl rfl ?_
  obtain ⟨q29, h30, h⟩ := Option.bind_eq_some_iff.mp h
  refine q_callSv (as := [qr 32, qi (-1)]) dX8_forget_39 ml_X8_64 rfl rfl (Nat.le_of_ble_eq_true rfl) (Told_fill_ok hL d (-1) _ _ h30) rfl ?_
  refine q_aload_n dX8_forget_42 rfl rfl ?_
  refine q_iconst dX8_forget_43 rfl rfl ?_
  refine q_putI dX8_forget_44 fl_X8_70 (hL 3 (by decide)) sh_3 (by decide) pf_8_12 pt_8_12 rfl rfl ?_
  cases h
  exact q_return dX8_forget_47 rfl hQ
def nQE (X : qX) (A : Nat → Prop) : State → Prop := fun U => nEx X A U U.heap ∧ va_Nw (.methodLinkNest RX11 15 yX8_init "QuayBerths") U ∧ va_Nw (.methodLinkNest RX11 98 yX2_init "QuayBerths") U ∧ va_Nw (.methodLinkNest RX11 105 yX10_init "QuayBerths") U ∧ nAO U
set_option maxHeartbeats 8000000 in
set_option maxRecDepth 50000 in
theorem mk_0 {X : qX} {F : qSto} {sz : Nat} {A : Nat → Prop} (ha : ∀ c, c < 70 → 1 ≤ c → qad X c = sz + nol.getD c 0) (hA : ∀ q, va_A [(qad X 0, .inr (11, [.null, .int 0, .null, .null, .null, .null, .null, .null, .null, .null, .null, .null, .null, .null, .null]))] (sz + 1) q → A q) (hf : Heard_forget (fun _ _ => 0) = some F) : nbC X 4 yX11_init cX11_init 1 [qr 0] [(qad X 0, .inr (11, [.null, .int 0, .null, .null, .null, .null, .null, .null, .null, .null, .null, .null, .null, .null, .null]))] (sz + 1) (nQE X A) (nws X (nSb F) nLQ) 69 3903 := by
  refine nv_entry (nSb (fun _ _ => 0)) (lv := [(0, qr 0)]) pn_X11 rfl (Nat.le_of_ble_eq_true rfl) rfl ?_
  refine nb_aload_n dX11_init_0 rfl rfl ?_
  refine nb_obj dX11_init_1 qn_151 qn_152 qn_153 (Nat.le_of_ble_eq_true rfl) (Nat.le_of_ble_eq_true rfl) rfl ?_
  refine nb_aload_n dX11_init_4 rfl rfl ?_
  refine nb_sipush dX11_init_5 (by decide) rfl ?_
  refine nv_nB (c := 1) (L' := [1]) dX11_init_8 qn_225 sh_1 (fun _ => rfl) rfl (by decide) (show qad X 1 = sz + 1 from ha 1 (by decide) (by decide)) (Nat.le_of_ble_eq_true rfl) (Nat.le_of_ble_eq_true rfl) rfl rfl ?_
  refine nv_putF (ci := 11) (N := 15) (C := RX11) (T := TX11) (kf := 0) (fs' := [.ref (qad X 1), .int 0, .null, .null, .null, .null, .null, .null, .null, .null, .null, .null, .null, .null, .null]) tyX11 dX11_init_10 rfl lay_11 tyX11_ok nmX11 (by decide) qn_536 rfl rfl (fun _ => rfl) (fun _ => rfl) (Nat.le_of_ble_eq_true rfl) rfl rfl ?_
  refine nb_aload_n dX11_init_13 rfl rfl ?_
  refine nv_new (o := 2) (ci := 8) (N := 15) (C := RX8) (T := TX8) (fs := [.null, .int 0, .int 0, .null, .null, .int 0, .null, .null, .int 0, .null, .null, .null, .int 0, .null, .null]) tyX8 dX11_init_14 rfl lay_8 tyX8_ok qn_154 qn_155 qn_126 (fun j hj => n_df8 j hj) (show qad X 2 = sz + 2 from ha 2 (by decide) (by decide)) (Nat.le_of_ble_eq_true rfl) (Nat.le_of_ble_eq_true rfl) rfl ?_
  refine nb_dup dX11_init_17 rfl ?_
  refine nv_callN (o := 2) (n := 0) (Ez := fun _ => True) (Lo := [2, 15, 16, 17, 18, 19, 20, 21, 22, 23, 24]) (L' := [1, 2, 15, 16, 17, 18, 19, 20, 21, 22, 23, 24]) (as := []) dX11_init_18 (fun U hU => hU.2.1) qn_157 qn_126 qn_158 rfl ⟨by decide +kernel, by decide +kernel, by decide +kernel⟩ (by decide) rfl rfl (Nat.le_of_ble_eq_true rfl) (Nat.le_of_ble_eq_true rfl) (Nat.le_of_ble_eq_true rfl) (Nat.le_of_ble_eq_true rfl) (Nat.le_of_ble_eq_true rfl) (fun _ _ _ _ _ => trivial) (fun _ _ _ _ _ _ _ _ => trivial) (mk_2 (F := F) (show qad X 15 = sz + 3 from ha 15 (by decide) (by decide)) (show qad X 16 = sz + 4 from ha 16 (by decide) (by decide)) (show qad X 17 = sz + 5 from ha 17 (by decide) (by decide)) (show qad X 18 = sz + 6 from ha 18 (by decide) (by decide)) (show qad X 19 = sz + 7 from ha 19 (by decide) (by decide)) (show qad X 20 = sz + 8 from ha 20 (by decide) (by decide)) (show qad X 21 = sz + 9 from ha 21 (by decide) (by decide)) (show qad X 22 = sz + 10 from ha 22 (by decide) (by decide)) (show qad X 23 = sz + 11 from ha 23 (by decide) (by decide)) (show qad X 24 = sz + 12 from ha 24 (by decide) (by decide))) rfl rfl ?_
  refine nv_putF (ci := 11) (N := 15) (C := RX11) (T := TX11) (kf := 2) (fs' := [.ref (qad X 1), .int 0, .ref (qad X 2), .null, .null, .null, .null, .null, .null, .null, .null, .null, .null, .null, .null]) tyX11 dX11_init_21 rfl lay_11 tyX11_ok nmX11 (by decide) qn_538 rfl rfl (fun _ => rfl) (fun _ => rfl) (Nat.le_of_ble_eq_true rfl) rfl rfl ?_
  refine nb_aload_n dX11_init_24 rfl rfl ?_
  refine nv_new (o := 3) (ci := 8) (N := 15) (C := RX8) (T := TX8) (fs := [.null, .int 0, .int 0, .null, .null, .int 0, .null, .null, .int 0, .null, .null, .null, .int 0, .null, .null]) tyX8 dX11_init_25 rfl lay_8 tyX8_ok qn_154 qn_155 qn_126 (fun j hj => n_df8 j hj) (show qad X 3 = sz + 13 from ha 3 (by decide) (by decide)) (Nat.le_of_ble_eq_true rfl) (Nat.le_of_ble_eq_true rfl) rfl ?_
  refine nb_dup dX11_init_28 rfl ?_
  refine nv_callN (o := 3) (n := 0) (Ez := fun _ => True) (Lo := [3, 25, 26, 27, 28, 29, 30, 31, 32, 33, 34]) (L' := [1, 2, 15, 16, 17, 18, 19, 20, 21, 22, 23, 24, 3, 25, 26, 27, 28, 29, 30, 31, 32, 33, 34]) (as := []) dX11_init_29 (fun U hU => hU.2.1) qn_157 qn_126 qn_158 rfl ⟨by decide +kernel, by decide +kernel, by decide +kernel⟩ (by decide) rfl rfl (Nat.le_of_ble_eq_true rfl) (Nat.le_of_ble_eq_true rfl) (Nat.le_of_ble_eq_true rfl) (Nat.le_of_ble_eq_true rfl) (Nat.le_of_ble_eq_true rfl) (fun _ _ _ _ _ => trivial) (fun _ _ _ _ _ _ _ _ => trivial) (mk_3 (F := F) (show qad X 25 = sz + 14 from ha 25 (by decide) (by decide)) (show qad X 26 = sz + 15 from ha 26 (by decide) (by decide)) (show qad X 27 = sz + 16 from ha 27 (by decide) (by decide)) (show qad X 28 = sz + 17 from ha 28 (by decide) (by decide)) (show qad X 29 = sz + 18 from ha 29 (by decide) (by decide)) (show qad X 30 = sz + 19 from ha 30 (by decide) (by decide)) (show qad X 31 = sz + 20 from ha 31 (by decide) (by decide)) (show qad X 32 = sz + 21 from ha 32 (by decide) (by decide)) (show qad X 33 = sz + 22 from ha 33 (by decide) (by decide)) (show qad X 34 = sz + 23 from ha 34 (by decide) (by decide))) rfl rfl ?_
  refine nv_putF (ci := 11) (N := 15) (C := RX11) (T := TX11) (kf := 3) (fs' := [.ref (qad X 1), .int 0, .ref (qad X 2), .ref (qad X 3), .null, .null, .null, .null, .null, .null, .null, .null, .null, .null, .null]) tyX11 dX11_init_32 rfl lay_11 tyX11_ok nmX11 (by decide) qn_539 rfl rfl (fun _ => rfl) (fun _ => rfl) (Nat.le_of_ble_eq_true rfl) rfl rfl ?_
  refine nb_aload_n dX11_init_35 rfl rfl ?_
  refine nv_get (v := 2) (ci := 11) (N := 15) (C := RX11) (T := TX11) (kf := 2) dX11_init_36 rfl lay_11 (by decide) qn_538 rfl rfl ?_
  refine nb_sub (ws' := (((qad X 0, .inr (11, [.ref (qad X 1), .int 0, .ref (qad X 2), .ref (qad X 3), .null, .null, .null, .null, .null, .null, .null, .null, .null, .null, .null])) : Nat × va_E) :: nws X (nSb (fun _ _ => 0)) [1, 3, 25, 26, 27, 28, 29, 30, 31, 32, 33, 34]) ++ nws X (nSb (fun _ _ => 0)) [2, 15, 16, 17, 18, 19, 20, 21, 22, 23, 24]) [0, 1, 13, 14, 15, 16, 17, 18, 19, 20, 21, 22, 23, 2, 3, 4, 5, 6, 7, 8, 9, 10, 11, 12] rfl rfl rfl ?_
  refine nb_eqw (ws' := (((qad X 0, .inr (11, [.ref (qad X 1), .int 0, .ref (qad X 2), .ref (qad X 3), .null, .null, .null, .null, .null, .null, .null, .null, .null, .null, .null])) : Nat × va_E) :: nws X (nSb F) [1, 3, 25, 26, 27, 28, 29, 30, 31, 32, 33, 34]) ++ qws (nXt X) (fun _ _ => 0)) (by rw [nXt_ws, nws_off (F := F) [1, 3, 25, 26, 27, 28, 29, 30, 31, 32, 33, 34] (by decide)]) ?_
  refine nb_callQ (X' := nXt X) (o := 2) (o' := 3) (d := 1) (ci := 8) (nf := 15) (q := (RX8, TX8, 15)) (S := fun _ _ => 0) (S1 := F) (wr := ((qad X 0, .inr (11, [.ref (qad X 1), .int 0, .ref (qad X 2), .ref (qad X 3), .null, .null, .null, .null, .null, .null, .null, .null, .null, .null, .null])) : Nat × va_E) :: nws X (nSb F) [1, 3, 25, 26, 27, 28, 29, 30, 31, 32, 33, 34]) rfl rfl rfl dX11_init_39 ml_X11_23 rfl rfl (nXt_L X 3 (by decide)) sh_3 rfl rfl (Nat.le_of_ble_eq_true rfl) (Nat.le_of_ble_eq_true rfl) (Nat.le_of_ble_eq_true rfl) (Nat.le_of_ble_eq_true rfl) (Nat.le_of_ble_eq_true rfl) (fun s U H locs hE hS hW hU => nEx_ex (hE.1.at hS hA hW hU) (nXt_far X) (fun q hq => hA q (nXt_in ha hq))) (fun Q' hQ' => Told_forget_ok (nXt_L X) 0 _ F hf Q' hQ') rfl rfl ?_
  refine nb_eqw (ws' := ((qad X 0, .inr (11, [.ref (qad X 1), .int 0, .ref (qad X 2), .ref (qad X 3), .null, .null, .null, .null, .null, .null, .null, .null, .null, .null, .null])) : Nat × va_E) :: nws X (nSb F) [1, 3, 25, 26, 27, 28, 29, 30, 31, 32, 33, 34, 2, 15, 16, 17, 18, 19, 20, 21, 22, 23, 24]) (by rw [nXt_ws, nws_app]; rfl) ?_
  refine nb_aload_n dX11_init_42 rfl rfl ?_
  refine nv_new (o := 4) (ci := 5) (N := 7) (C := RX5) (T := TX5) (fs := [.null, .null, .null, .int 0, .int 0, .int 0, .int 0]) tyX5 dX11_init_43 rfl lay_5 tyX5_ok qn_239 qn_240 qn_129 (fun j hj => n_df5 j hj) (show qad X 4 = sz + 24 from ha 4 (by decide) (by decide)) (Nat.le_of_ble_eq_true rfl) (Nat.le_of_ble_eq_true rfl) rfl ?_
  refine nb_dup dX11_init_46 rfl ?_
  refine nb_aload_n dX11_init_47 rfl rfl ?_
  refine nv_get (v := 1) (ci := 11) (N := 15) (C := RX11) (T := TX11) (kf := 0) dX11_init_48 rfl lay_11 (by decide) qn_536 rfl rfl ?_
  refine nb_aload_n dX11_init_51 rfl rfl ?_
  refine nv_get (v := 3) (ci := 11) (N := 15) (C := RX11) (T := TX11) (kf := 3) dX11_init_52 rfl lay_11 (by decide) qn_539 rfl rfl ?_
  refine nv_callI (o := 4) (n := 2) (Ez := fun _ => True) (Lo := [4, 35]) (L' := [1, 3, 25, 26, 27, 28, 29, 30, 31, 32, 33, 34, 2, 15, 16, 17, 18, 19, 20, 21, 22, 23, 24, 4, 35]) (as := [qr 1, qr 3]) dX11_init_55 qn_241 qn_242 qn_129 qn_243 rfl ⟨by decide +kernel, by decide +kernel, by decide +kernel⟩ (by decide) rfl rfl (Nat.le_of_ble_eq_true rfl) (Nat.le_of_ble_eq_true rfl) (Nat.le_of_ble_eq_true rfl) (Nat.le_of_ble_eq_true rfl) (Nat.le_of_ble_eq_true rfl) (fun _ _ _ _ _ => trivial) (fun _ _ _ _ _ _ _ _ => trivial) (mk_4 (F := F) (show qad X 35 = sz + 25 from ha 35 (by decide) (by decide))) rfl rfl ?_
  refine nv_putF (ci := 11) (N := 15) (C := RX11) (T := TX11) (kf := 4) (fs' := [.ref (qad X 1), .int 0, .ref (qad X 2), .ref (qad X 3), .ref (qad X 4), .null, .null, .null, .null, .null, .null, .null, .null, .null, .null]) tyX11 dX11_init_58 rfl lay_11 tyX11_ok nmX11 (by decide) qn_540 rfl rfl (fun _ => rfl) (fun _ => rfl) (Nat.le_of_ble_eq_true rfl) rfl rfl ?_
  refine nb_aload_n dX11_init_61 rfl rfl ?_
  refine nv_new (o := 5) (ci := 9) (N := 2) (C := RX9) (T := TX9) (fs := [.null, .null]) tyX9 dX11_init_62 rfl lay_9 tyX9_ok qn_269 qn_270 qn_130 (fun j hj => n_df9 j hj) (show qad X 5 = sz + 26 from ha 5 (by decide) (by decide)) (Nat.le_of_ble_eq_true rfl) (Nat.le_of_ble_eq_true rfl) rfl ?_
  refine nb_dup dX11_init_65 rfl ?_
  refine nb_aload_n dX11_init_66 rfl rfl ?_
  refine nv_get (v := 2) (ci := 11) (N := 15) (C := RX11) (T := TX11) (kf := 2) dX11_init_67 rfl lay_11 (by decide) qn_538 rfl rfl ?_
  refine nv_callI (o := 5) (n := 1) (Ez := fun _ => True) (Lo := [5, 36]) (L' := [1, 3, 25, 26, 27, 28, 29, 30, 31, 32, 33, 34, 2, 15, 16, 17, 18, 19, 20, 21, 22, 23, 24, 4, 35, 5, 36]) (as := [qr 2]) dX11_init_70 qn_271 qn_272 qn_130 qn_273 rfl ⟨by decide +kernel, by decide +kernel, by decide +kernel⟩ (by decide) rfl rfl (Nat.le_of_ble_eq_true rfl) (Nat.le_of_ble_eq_true rfl) (Nat.le_of_ble_eq_true rfl) (Nat.le_of_ble_eq_true rfl) (Nat.le_of_ble_eq_true rfl) (fun _ _ _ _ _ => trivial) (fun _ _ _ _ _ _ _ _ => trivial) (mk_5 (F := F) (show qad X 36 = sz + 27 from ha 36 (by decide) (by decide))) rfl rfl ?_
  refine nv_putF (ci := 11) (N := 15) (C := RX11) (T := TX11) (kf := 5) (fs' := [.ref (qad X 1), .int 0, .ref (qad X 2), .ref (qad X 3), .ref (qad X 4), .ref (qad X 5), .null, .null, .null, .null, .null, .null, .null, .null, .null]) tyX11 dX11_init_73 rfl lay_11 tyX11_ok nmX11 (by decide) qn_541 rfl rfl (fun _ => rfl) (fun _ => rfl) (Nat.le_of_ble_eq_true rfl) rfl rfl ?_
  refine nb_aload_n dX11_init_76 rfl rfl ?_
  refine nv_new (o := 6) (ci := 7) (N := 14) (C := RX7) (T := TX7) (fs := [.null, .null, .null, .null, .null, .null, .null, .null, .null, .null, .int 0, .int 0, .int 0, .int 0]) tyX7 dX11_init_77 rfl lay_7 tyX7_ok qn_283 qn_284 qn_131 (fun j hj => n_df7 j hj) (show qad X 6 = sz + 28 from ha 6 (by decide) (by decide)) (Nat.le_of_ble_eq_true rfl) (Nat.le_of_ble_eq_true rfl) rfl ?_
  refine nb_dup dX11_init_80 rfl ?_
  refine nb_aload_n dX11_init_81 rfl rfl ?_
  refine nv_get (v := 2) (ci := 11) (N := 15) (C := RX11) (T := TX11) (kf := 2) dX11_init_82 rfl lay_11 (by decide) qn_538 rfl rfl ?_
  refine nb_aload_n dX11_init_85 rfl rfl ?_
  refine nv_get (v := 5) (ci := 11) (N := 15) (C := RX11) (T := TX11) (kf := 5) dX11_init_86 rfl lay_11 (by decide) qn_541 rfl rfl ?_
  refine nv_callI (o := 6) (n := 2) (Ez := fun _ => True) (Lo := [6, 37, 38, 39, 40, 41, 42, 43, 44]) (L' := [1, 3, 25, 26, 27, 28, 29, 30, 31, 32, 33, 34, 2, 15, 16, 17, 18, 19, 20, 21, 22, 23, 24, 4, 35, 5, 36, 6, 37, 38, 39, 40, 41, 42, 43, 44]) (as := [qr 2, qr 5]) dX11_init_89 qn_285 qn_286 qn_131 qn_287 rfl ⟨by decide +kernel, by decide +kernel, by decide +kernel⟩ (by decide) rfl rfl (Nat.le_of_ble_eq_true rfl) (Nat.le_of_ble_eq_true rfl) (Nat.le_of_ble_eq_true rfl) (Nat.le_of_ble_eq_true rfl) (Nat.le_of_ble_eq_true rfl) (fun _ _ _ _ _ => trivial) (fun _ _ _ _ _ _ _ _ => trivial) (mk_6 (F := F) (show qad X 37 = sz + 29 from ha 37 (by decide) (by decide)) (show qad X 38 = sz + 30 from ha 38 (by decide) (by decide)) (show qad X 39 = sz + 31 from ha 39 (by decide) (by decide)) (show qad X 40 = sz + 32 from ha 40 (by decide) (by decide)) (show qad X 41 = sz + 33 from ha 41 (by decide) (by decide)) (show qad X 42 = sz + 34 from ha 42 (by decide) (by decide)) (show qad X 43 = sz + 35 from ha 43 (by decide) (by decide)) (show qad X 44 = sz + 36 from ha 44 (by decide) (by decide))) rfl rfl ?_
  refine nv_putF (ci := 11) (N := 15) (C := RX11) (T := TX11) (kf := 6) (fs' := [.ref (qad X 1), .int 0, .ref (qad X 2), .ref (qad X 3), .ref (qad X 4), .ref (qad X 5), .ref (qad X 6), .null, .null, .null, .null, .null, .null, .null, .null]) tyX11 dX11_init_92 rfl lay_11 tyX11_ok nmX11 (by decide) qn_542 rfl rfl (fun _ => rfl) (fun _ => rfl) (Nat.le_of_ble_eq_true rfl) rfl rfl ?_
  refine nb_aload_n dX11_init_95 rfl rfl ?_
  refine nv_new (o := 7) (ci := 0) (N := 3) (C := RX0) (T := TX0) (fs := [.null, .null, .null]) tyX0 dX11_init_96 rfl lay_0 tyX0_ok qn_353 qn_354 qn_132 (fun j hj => n_df0 j hj) (show qad X 7 = sz + 37 from ha 7 (by decide) (by decide)) (Nat.le_of_ble_eq_true rfl) (Nat.le_of_ble_eq_true rfl) rfl ?_
  refine nb_dup dX11_init_99 rfl ?_
  refine nb_aload_n dX11_init_100 rfl rfl ?_
  refine nv_get (v := 2) (ci := 11) (N := 15) (C := RX11) (T := TX11) (kf := 2) dX11_init_101 rfl lay_11 (by decide) qn_538 rfl rfl ?_
  refine nb_aload_n dX11_init_104 rfl rfl ?_
  refine nv_get (v := 6) (ci := 11) (N := 15) (C := RX11) (T := TX11) (kf := 6) dX11_init_105 rfl lay_11 (by decide) qn_542 rfl rfl ?_
  refine nv_callI (o := 7) (n := 2) (Ez := fun _ => True) (Lo := [7, 45]) (L' := [1, 3, 25, 26, 27, 28, 29, 30, 31, 32, 33, 34, 2, 15, 16, 17, 18, 19, 20, 21, 22, 23, 24, 4, 35, 5, 36, 6, 37, 38, 39, 40, 41, 42, 43, 44, 7, 45]) (as := [qr 2, qr 6]) dX11_init_108 qn_355 qn_356 qn_132 qn_357 rfl ⟨by decide +kernel, by decide +kernel, by decide +kernel⟩ (by decide) rfl rfl (Nat.le_of_ble_eq_true rfl) (Nat.le_of_ble_eq_true rfl) (Nat.le_of_ble_eq_true rfl) (Nat.le_of_ble_eq_true rfl) (Nat.le_of_ble_eq_true rfl) (fun _ _ _ _ _ => trivial) (fun _ _ _ _ _ _ _ _ => trivial) (mk_7 (F := F) (show qad X 45 = sz + 38 from ha 45 (by decide) (by decide))) rfl rfl ?_
  refine nv_putF (ci := 11) (N := 15) (C := RX11) (T := TX11) (kf := 7) (fs' := [.ref (qad X 1), .int 0, .ref (qad X 2), .ref (qad X 3), .ref (qad X 4), .ref (qad X 5), .ref (qad X 6), .ref (qad X 7), .null, .null, .null, .null, .null, .null, .null]) tyX11 dX11_init_111 rfl lay_11 tyX11_ok nmX11 (by decide) qn_543 rfl rfl (fun _ => rfl) (fun _ => rfl) (Nat.le_of_ble_eq_true rfl) rfl rfl ?_
  refine nb_aload_n dX11_init_114 rfl rfl ?_
  refine nv_new (o := 8) (ci := 3) (N := 6) (C := RX3) (T := TX3) (fs := [.null, .null, .null, .null, .int 0, .int 0]) tyX3 dX11_init_115 rfl lay_3 tyX3_ok qn_370 qn_371 qn_133 (fun j hj => n_df3 j hj) (show qad X 8 = sz + 39 from ha 8 (by decide) (by decide)) (Nat.le_of_ble_eq_true rfl) (Nat.le_of_ble_eq_true rfl) rfl ?_
  refine nb_dup dX11_init_118 rfl ?_
  refine nb_aload_n dX11_init_119 rfl rfl ?_
  refine nv_get (v := 2) (ci := 11) (N := 15) (C := RX11) (T := TX11) (kf := 2) dX11_init_120 rfl lay_11 (by decide) qn_538 rfl rfl ?_
  refine nb_aload_n dX11_init_123 rfl rfl ?_
  refine nv_get (v := 5) (ci := 11) (N := 15) (C := RX11) (T := TX11) (kf := 5) dX11_init_124 rfl lay_11 (by decide) qn_541 rfl rfl ?_
  refine nb_aload_n dX11_init_127 rfl rfl ?_
  refine nv_get (v := 6) (ci := 11) (N := 15) (C := RX11) (T := TX11) (kf := 6) dX11_init_128 rfl lay_11 (by decide) qn_542 rfl rfl ?_
  refine nb_aload_n dX11_init_131 rfl rfl ?_
  refine nv_get (v := 7) (ci := 11) (N := 15) (C := RX11) (T := TX11) (kf := 7) dX11_init_132 rfl lay_11 (by decide) qn_543 rfl rfl ?_
  refine nv_callI (o := 8) (n := 4) (Ez := fun _ => True) (Lo := [8]) (L' := [1, 3, 25, 26, 27, 28, 29, 30, 31, 32, 33, 34, 2, 15, 16, 17, 18, 19, 20, 21, 22, 23, 24, 4, 35, 5, 36, 6, 37, 38, 39, 40, 41, 42, 43, 44, 7, 45, 8]) (as := [qr 2, qr 5, qr 6, qr 7]) dX11_init_135 qn_372 qn_373 qn_133 qn_374 rfl ⟨by decide +kernel, by decide +kernel, by decide +kernel⟩ (by decide) rfl rfl (Nat.le_of_ble_eq_true rfl) (Nat.le_of_ble_eq_true rfl) (Nat.le_of_ble_eq_true rfl) (Nat.le_of_ble_eq_true rfl) (Nat.le_of_ble_eq_true rfl) (fun _ _ _ _ _ => trivial) (fun _ _ _ _ _ _ _ _ => trivial) (mk_8 (F := F)) rfl rfl ?_
  refine nv_putF (ci := 11) (N := 15) (C := RX11) (T := TX11) (kf := 8) (fs' := [.ref (qad X 1), .int 0, .ref (qad X 2), .ref (qad X 3), .ref (qad X 4), .ref (qad X 5), .ref (qad X 6), .ref (qad X 7), .ref (qad X 8), .null, .null, .null, .null, .null, .null]) tyX11 dX11_init_138 rfl lay_11 tyX11_ok nmX11 (by decide) qn_544 rfl rfl (fun _ => rfl) (fun _ => rfl) (Nat.le_of_ble_eq_true rfl) rfl rfl ?_
  refine nb_aload_n dX11_init_141 rfl rfl ?_
  refine nv_new (o := 9) (ci := 6) (N := 9) (C := RX6) (T := TX6) (fs := [.null, .null, .null, .null, .null, .int 0, .int 0, .int 0, .int 0]) tyX6 dX11_init_142 rfl lay_6 tyX6_ok qn_397 qn_398 qn_134 (fun j hj => n_df6 j hj) (show qad X 9 = sz + 40 from ha 9 (by decide) (by decide)) (Nat.le_of_ble_eq_true rfl) (Nat.le_of_ble_eq_true rfl) rfl ?_
  refine nb_dup dX11_init_145 rfl ?_
  refine nb_aload_n dX11_init_146 rfl rfl ?_
  refine nv_get (v := 2) (ci := 11) (N := 15) (C := RX11) (T := TX11) (kf := 2) dX11_init_147 rfl lay_11 (by decide) qn_538 rfl rfl ?_
  refine nb_aload_n dX11_init_150 rfl rfl ?_
  refine nv_get (v := 5) (ci := 11) (N := 15) (C := RX11) (T := TX11) (kf := 5) dX11_init_151 rfl lay_11 (by decide) qn_541 rfl rfl ?_
  refine nb_aload_n dX11_init_154 rfl rfl ?_
  refine nv_get (v := 8) (ci := 11) (N := 15) (C := RX11) (T := TX11) (kf := 8) dX11_init_155 rfl lay_11 (by decide) qn_544 rfl rfl ?_
  refine nb_aload_n dX11_init_158 rfl rfl ?_
  refine nv_get (v := 7) (ci := 11) (N := 15) (C := RX11) (T := TX11) (kf := 7) dX11_init_159 rfl lay_11 (by decide) qn_543 rfl rfl ?_
  refine nv_callI (o := 9) (n := 4) (Ez := fun _ => True) (Lo := [9, 46]) (L' := [1, 3, 25, 26, 27, 28, 29, 30, 31, 32, 33, 34, 2, 15, 16, 17, 18, 19, 20, 21, 22, 23, 24, 4, 35, 5, 36, 6, 37, 38, 39, 40, 41, 42, 43, 44, 7, 45, 8, 9, 46]) (as := [qr 2, qr 5, qr 8, qr 7]) dX11_init_162 qn_399 qn_400 qn_134 qn_401 rfl ⟨by decide +kernel, by decide +kernel, by decide +kernel⟩ (by decide) rfl rfl (Nat.le_of_ble_eq_true rfl) (Nat.le_of_ble_eq_true rfl) (Nat.le_of_ble_eq_true rfl) (Nat.le_of_ble_eq_true rfl) (Nat.le_of_ble_eq_true rfl) (fun _ _ _ _ _ => trivial) (fun _ _ _ _ _ _ _ _ => trivial) (mk_9 (F := F) (show qad X 46 = sz + 41 from ha 46 (by decide) (by decide))) rfl rfl ?_
  refine nv_putF (ci := 11) (N := 15) (C := RX11) (T := TX11) (kf := 9) (fs' := [.ref (qad X 1), .int 0, .ref (qad X 2), .ref (qad X 3), .ref (qad X 4), .ref (qad X 5), .ref (qad X 6), .ref (qad X 7), .ref (qad X 8), .ref (qad X 9), .null, .null, .null, .null, .null]) tyX11 dX11_init_165 rfl lay_11 tyX11_ok nmX11 (by decide) qn_545 rfl rfl (fun _ => rfl) (fun _ => rfl) (Nat.le_of_ble_eq_true rfl) rfl rfl ?_
  refine nb_aload_n dX11_init_168 rfl rfl ?_
  refine nv_new (o := 10) (ci := 4) (N := 1) (C := RX4) (T := TX4) (fs := [.null]) tyX4 dX11_init_169 rfl lay_4 tyX4_ok qn_438 qn_439 qn_135 (fun j hj => n_df4 j hj) (show qad X 10 = sz + 42 from ha 10 (by decide) (by decide)) (Nat.le_of_ble_eq_true rfl) (Nat.le_of_ble_eq_true rfl) rfl ?_
  refine nb_dup dX11_init_172 rfl ?_
  refine nb_aload_n dX11_init_173 rfl rfl ?_
  refine nv_get (v := 2) (ci := 11) (N := 15) (C := RX11) (T := TX11) (kf := 2) dX11_init_174 rfl lay_11 (by decide) qn_538 rfl rfl ?_
  refine nv_callI (o := 10) (n := 1) (Ez := fun _ => True) (Lo := [10]) (L' := [1, 3, 25, 26, 27, 28, 29, 30, 31, 32, 33, 34, 2, 15, 16, 17, 18, 19, 20, 21, 22, 23, 24, 4, 35, 5, 36, 6, 37, 38, 39, 40, 41, 42, 43, 44, 7, 45, 8, 9, 46, 10]) (as := [qr 2]) dX11_init_177 qn_440 qn_441 qn_135 qn_442 rfl ⟨by decide +kernel, by decide +kernel, by decide +kernel⟩ (by decide) rfl rfl (Nat.le_of_ble_eq_true rfl) (Nat.le_of_ble_eq_true rfl) (Nat.le_of_ble_eq_true rfl) (Nat.le_of_ble_eq_true rfl) (Nat.le_of_ble_eq_true rfl) (fun _ _ _ _ _ => trivial) (fun _ _ _ _ _ _ _ _ => trivial) (mk_10 (F := F)) rfl rfl ?_
  refine nv_putF (ci := 11) (N := 15) (C := RX11) (T := TX11) (kf := 10) (fs' := [.ref (qad X 1), .int 0, .ref (qad X 2), .ref (qad X 3), .ref (qad X 4), .ref (qad X 5), .ref (qad X 6), .ref (qad X 7), .ref (qad X 8), .ref (qad X 9), .ref (qad X 10), .null, .null, .null, .null]) tyX11 dX11_init_180 rfl lay_11 tyX11_ok nmX11 (by decide) qn_546 rfl rfl (fun _ => rfl) (fun _ => rfl) (Nat.le_of_ble_eq_true rfl) rfl rfl ?_
  refine nb_aload_n dX11_init_183 rfl rfl ?_
  refine nv_new (o := 11) (ci := 1) (N := 11) (C := RX1) (T := TX1) (fs := [.null, .null, .null, .int 0, .int 0, .int 0, .int 0, .null, .null, .null, .null]) tyX1 dX11_init_184 rfl lay_1 tyX1_ok qn_448 qn_449 qn_136 (fun j hj => n_df1 j hj) (show qad X 11 = sz + 43 from ha 11 (by decide) (by decide)) (Nat.le_of_ble_eq_true rfl) (Nat.le_of_ble_eq_true rfl) rfl ?_
  refine nb_dup dX11_init_187 rfl ?_
  refine nb_aload_n dX11_init_188 rfl rfl ?_
  refine nv_get (v := 2) (ci := 11) (N := 15) (C := RX11) (T := TX11) (kf := 2) dX11_init_189 rfl lay_11 (by decide) qn_538 rfl rfl ?_
  refine nb_aload_n dX11_init_192 rfl rfl ?_
  refine nv_get (v := 6) (ci := 11) (N := 15) (C := RX11) (T := TX11) (kf := 6) dX11_init_193 rfl lay_11 (by decide) qn_542 rfl rfl ?_
  refine nb_aload_n dX11_init_196 rfl rfl ?_
  refine nv_get (v := 9) (ci := 11) (N := 15) (C := RX11) (T := TX11) (kf := 9) dX11_init_197 rfl lay_11 (by decide) qn_545 rfl rfl ?_
  refine nv_callI (o := 11) (n := 3) (Ez := fun _ => True) (Lo := [11, 47, 48, 49, 50]) (L' := [1, 3, 25, 26, 27, 28, 29, 30, 31, 32, 33, 34, 2, 15, 16, 17, 18, 19, 20, 21, 22, 23, 24, 4, 35, 5, 36, 6, 37, 38, 39, 40, 41, 42, 43, 44, 7, 45, 8, 9, 46, 10, 11, 47, 48, 49, 50]) (as := [qr 2, qr 6, qr 9]) dX11_init_200 qn_450 qn_451 qn_136 qn_452 rfl ⟨by decide +kernel, by decide +kernel, by decide +kernel⟩ (by decide) rfl rfl (Nat.le_of_ble_eq_true rfl) (Nat.le_of_ble_eq_true rfl) (Nat.le_of_ble_eq_true rfl) (Nat.le_of_ble_eq_true rfl) (Nat.le_of_ble_eq_true rfl) (fun _ _ _ _ _ => trivial) (fun _ _ _ _ _ _ _ _ => trivial) (mk_11 (F := F) (show qad X 47 = sz + 44 from ha 47 (by decide) (by decide)) (show qad X 48 = sz + 45 from ha 48 (by decide) (by decide)) (show qad X 49 = sz + 46 from ha 49 (by decide) (by decide)) (show qad X 50 = sz + 47 from ha 50 (by decide) (by decide))) rfl rfl ?_
  refine nv_putF (ci := 11) (N := 15) (C := RX11) (T := TX11) (kf := 11) (fs' := [.ref (qad X 1), .int 0, .ref (qad X 2), .ref (qad X 3), .ref (qad X 4), .ref (qad X 5), .ref (qad X 6), .ref (qad X 7), .ref (qad X 8), .ref (qad X 9), .ref (qad X 10), .ref (qad X 11), .null, .null, .null]) tyX11 dX11_init_203 rfl lay_11 tyX11_ok nmX11 (by decide) qn_547 rfl rfl (fun _ => rfl) (fun _ => rfl) (Nat.le_of_ble_eq_true rfl) rfl rfl ?_
  refine nb_aload_n dX11_init_206 rfl rfl ?_
  refine nv_new (o := 12) (ci := 2) (N := 5) (C := RX2) (T := TX2) (fs := [.null, .int 0, .int 0, .null, .int 0]) tyX2 dX11_init_207 rfl lay_2 tyX2_ok qn_494 qn_495 qn_137 (fun j hj => n_df2 j hj) (show qad X 12 = sz + 48 from ha 12 (by decide) (by decide)) (Nat.le_of_ble_eq_true rfl) (Nat.le_of_ble_eq_true rfl) rfl ?_
  refine nb_dup dX11_init_210 rfl ?_
  refine nv_callN (o := 12) (n := 0) (Ez := nAO) (Lo := [12, 51, 52, 53, 54, 55, 56, 57, 58, 59, 60, 61, 62, 63, 64, 65, 66, 67, 68]) (L' := [1, 3, 25, 26, 27, 28, 29, 30, 31, 32, 33, 34, 2, 15, 16, 17, 18, 19, 20, 21, 22, 23, 24, 4, 35, 5, 36, 6, 37, 38, 39, 40, 41, 42, 43, 44, 7, 45, 8, 9, 46, 10, 11, 47, 48, 49, 50, 12, 51, 52, 53, 54, 55, 56, 57, 58, 59, 60, 61, 62, 63, 64, 65, 66, 67, 68]) (as := []) dX11_init_211 (fun U hU => hU.2.2.1) qn_497 qn_137 qn_498 rfl ⟨by decide +kernel, by decide +kernel, by decide +kernel⟩ (by decide) rfl rfl (Nat.le_of_ble_eq_true rfl) (Nat.le_of_ble_eq_true rfl) (Nat.le_of_ble_eq_true rfl) (Nat.le_of_ble_eq_true rfl) (Nat.le_of_ble_eq_true rfl) (fun _ _ _ _ h => h) (fun _ _ _ _ h _ hW _ => h.2.2.2.2.moved hW.alike) (mk_12 (F := F) (show qad X 51 = sz + 49 from ha 51 (by decide) (by decide)) (show qad X 52 = sz + 50 from ha 52 (by decide) (by decide)) (show qad X 53 = sz + 51 from ha 53 (by decide) (by decide)) (show qad X 54 = sz + 52 from ha 54 (by decide) (by decide)) (show qad X 55 = sz + 53 from ha 55 (by decide) (by decide)) (show qad X 56 = sz + 54 from ha 56 (by decide) (by decide)) (show qad X 57 = sz + 55 from ha 57 (by decide) (by decide)) (show qad X 58 = sz + 56 from ha 58 (by decide) (by decide)) (show qad X 59 = sz + 57 from ha 59 (by decide) (by decide)) (show qad X 60 = sz + 58 from ha 60 (by decide) (by decide)) (show qad X 61 = sz + 59 from ha 61 (by decide) (by decide)) (show qad X 62 = sz + 60 from ha 62 (by decide) (by decide)) (show qad X 63 = sz + 61 from ha 63 (by decide) (by decide)) (show qad X 64 = sz + 62 from ha 64 (by decide) (by decide)) (show qad X 65 = sz + 63 from ha 65 (by decide) (by decide)) (show qad X 66 = sz + 64 from ha 66 (by decide) (by decide)) (show qad X 67 = sz + 65 from ha 67 (by decide) (by decide)) (show qad X 68 = sz + 66 from ha 68 (by decide) (by decide))) rfl rfl ?_
  refine nv_putF (ci := 11) (N := 15) (C := RX11) (T := TX11) (kf := 12) (fs' := [.ref (qad X 1), .int 0, .ref (qad X 2), .ref (qad X 3), .ref (qad X 4), .ref (qad X 5), .ref (qad X 6), .ref (qad X 7), .ref (qad X 8), .ref (qad X 9), .ref (qad X 10), .ref (qad X 11), .ref (qad X 12), .null, .null]) tyX11 dX11_init_214 rfl lay_11 tyX11_ok nmX11 (by decide) qn_548 rfl rfl (fun _ => rfl) (fun _ => rfl) (Nat.le_of_ble_eq_true rfl) rfl rfl ?_
  refine nb_aload_n dX11_init_217 rfl rfl ?_
  refine nv_new (o := 13) (ci := 10) (N := 2) (C := RX10) (T := TX10) (fs := [.null, .int 0]) tyX10 dX11_init_218 rfl lay_10 tyX10_ok qn_521 qn_522 qn_138 (fun j hj => n_df10 j hj) (show qad X 13 = sz + 67 from ha 13 (by decide) (by decide)) (Nat.le_of_ble_eq_true rfl) (Nat.le_of_ble_eq_true rfl) rfl ?_
  refine nb_dup dX11_init_221 rfl ?_
  refine nv_callN (o := 13) (n := 0) (Ez := fun _ => True) (Lo := [13, 69]) (L' := [1, 3, 25, 26, 27, 28, 29, 30, 31, 32, 33, 34, 2, 15, 16, 17, 18, 19, 20, 21, 22, 23, 24, 4, 35, 5, 36, 6, 37, 38, 39, 40, 41, 42, 43, 44, 7, 45, 8, 9, 46, 10, 11, 47, 48, 49, 50, 12, 51, 52, 53, 54, 55, 56, 57, 58, 59, 60, 61, 62, 63, 64, 65, 66, 67, 68, 13, 69]) (as := []) dX11_init_222 (fun U hU => hU.2.2.2.1) qn_524 qn_138 qn_525 rfl ⟨by decide +kernel, by decide +kernel, by decide +kernel⟩ (by decide) rfl rfl (Nat.le_of_ble_eq_true rfl) (Nat.le_of_ble_eq_true rfl) (Nat.le_of_ble_eq_true rfl) (Nat.le_of_ble_eq_true rfl) (Nat.le_of_ble_eq_true rfl) (fun _ _ _ _ _ => trivial) (fun _ _ _ _ _ _ _ _ => trivial) (mk_13 (F := F) (show qad X 69 = sz + 68 from ha 69 (by decide) (by decide))) rfl rfl ?_
  refine nv_putF (ci := 11) (N := 15) (C := RX11) (T := TX11) (kf := 13) (fs' := [.ref (qad X 1), .int 0, .ref (qad X 2), .ref (qad X 3), .ref (qad X 4), .ref (qad X 5), .ref (qad X 6), .ref (qad X 7), .ref (qad X 8), .ref (qad X 9), .ref (qad X 10), .ref (qad X 11), .ref (qad X 12), .ref (qad X 13), .null]) tyX11 dX11_init_225 rfl lay_11 tyX11_ok nmX11 (by decide) qn_549 rfl rfl (fun _ => rfl) (fun _ => rfl) (Nat.le_of_ble_eq_true rfl) rfl rfl ?_
  refine nb_aload_n dX11_init_228 rfl rfl ?_
  refine nb_bipush dX11_init_229 (by decide) rfl ?_
  refine nv_nI (c := 14) (L' := [1, 3, 25, 26, 27, 28, 29, 30, 31, 32, 33, 34, 2, 15, 16, 17, 18, 19, 20, 21, 22, 23, 24, 4, 35, 5, 36, 6, 37, 38, 39, 40, 41, 42, 43, 44, 7, 45, 8, 9, 46, 10, 11, 47, 48, 49, 50, 12, 51, 52, 53, 54, 55, 56, 57, 58, 59, 60, 61, 62, 63, 64, 65, 66, 67, 68, 13, 69, 14]) dX11_init_231 qn_226 sh_14 (fun _ => rfl) rfl (by decide) (show qad X 14 = sz + 69 from ha 14 (by decide) (by decide)) (Nat.le_of_ble_eq_true rfl) (Nat.le_of_ble_eq_true rfl) rfl rfl ?_
  refine nv_putF (ci := 11) (N := 15) (C := RX11) (T := TX11) (kf := 14) (fs' := [.ref (qad X 1), .int 0, .ref (qad X 2), .ref (qad X 3), .ref (qad X 4), .ref (qad X 5), .ref (qad X 6), .ref (qad X 7), .ref (qad X 8), .ref (qad X 9), .ref (qad X 10), .ref (qad X 11), .ref (qad X 12), .ref (qad X 13), .ref (qad X 14)]) tyX11 dX11_init_233 rfl lay_11 tyX11_ok nmX11 (by decide) qn_550 rfl rfl (fun _ => rfl) (fun _ => rfl) (Nat.le_of_ble_eq_true rfl) rfl rfl ?_
  exact nv_ret dX11_init_236 rfl rfl (Nat.le_of_ble_eq_true rfl)
