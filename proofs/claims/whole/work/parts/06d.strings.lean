theorem pn_J0_coder_7d493 : plainFor yJ0_coder_7d493 = true := by decide +kernel
theorem pn_J0_isLatin1_aae02 : plainFor yJ0_isLatin1_aae02 = true := by decide +kernel
theorem pn_J0_length_8abf5 : plainFor yJ0_length_8abf5 = true := by decide +kernel
theorem pn_J0_charAt_5068e : plainFor yJ0_charAt_5068e = true := by decide +kernel
theorem pn_J0_checkIndex_df160 : plainFor yJ0_checkIndex_df160 = true := by decide +kernel
theorem pn_J1_charAt_3b067 : plainFor yJ1_charAt_3b067 = true := by decide +kernel
theorem pn_J3_checkIndex_8e157 : plainFor yJ3_checkIndex_8e157 = true := by decide +kernel
theorem js_coder {X : qX} (d i : Nat) (hi : i < 11) (S : qSto) (Q : Option qV → qSto → Prop) (hQ : Q (some (qi 0)) S) : qC X d yJ0_coder_7d493 cJ0_coder_7d493 1 (some .byte) [qr (200 + i)] S Q := by
  refine q_entryF (lv := [(0, qr (200 + i))]) pn_J0_coder_7d493 (Nat.le_of_ble_eq_true rfl) rfl ?_
  refine q_getCS dJ0_coder_7d493_0 qw_644 rfl ?_
  refine q_if_eq (tgt := 13) dJ0_coder_7d493_3 (by decide) rfl ⟨by decide, by decide⟩ (fun g => absurd g (by decide)) (fun g => ?_)
  refine q_aload_n dJ0_coder_7d493_6 rfl rfl ?_
  refine q_getSC dJ0_coder_7d493_7 hi qw_2105 rfl ?_
  refine q_goto (pc' := 14) dJ0_coder_7d493_10 (by decide) ?_
  exact q_creturn (Or.inr rfl) dJ0_coder_7d493_14 rfl (by decide) (by decide) hQ
theorem js_isLatin1 {X : qX} (d i : Nat) (hi : i < 11) (S : qSto) (Q : Option qV → qSto → Prop) (hQ : Q (some (qi 1)) S) : qC X d yJ0_isLatin1_aae02 cJ0_isLatin1_aae02 1 (some .boolean) [qr (200 + i)] S Q := by
  refine q_entryF (lv := [(0, qr (200 + i))]) pn_J0_isLatin1_aae02 (Nat.le_of_ble_eq_true rfl) rfl ?_
  refine q_getCS dJ0_isLatin1_aae02_0 qw_644 rfl ?_
  refine q_if_eq (tgt := 17) dJ0_isLatin1_aae02_3 (by decide) rfl ⟨by decide, by decide⟩ (fun g => absurd g (by decide)) (fun g => ?_)
  refine q_aload_n dJ0_isLatin1_aae02_6 rfl rfl ?_
  refine q_getSC dJ0_isLatin1_aae02_7 hi qw_2105 rfl ?_
  refine q_if_ne (tgt := 17) dJ0_isLatin1_aae02_10 (by decide) rfl ⟨by decide, by decide⟩ (fun g => absurd rfl g) (fun g => ?_)
  refine q_iconst dJ0_isLatin1_aae02_13 rfl rfl ?_
  refine q_goto (pc' := 18) dJ0_isLatin1_aae02_14 (by decide) ?_
  exact q_zreturn dJ0_isLatin1_aae02_18 rfl (by decide) hQ
theorem js_shr : ∀ i, i < 11 → qb_ishr ((qslen.getD i 0 : Nat) : Int) 0 = ((qslen.getD i 0 : Nat) : Int) := by decide +kernel
theorem js_and : ∀ i, i < 11 → ∀ j, j < 8 → qb_iand ((qsch.getD i []).getD j 0) 255 = (qsch.getD i []).getD j 0 := by decide +kernel
def Js_length (c : Nat) (S : qSto) : Option (Int × qSto) := some (((qslen.getD (c - 200) 0 : Nat) : Int), S)
def Js_charAt (c : Nat) (i : Int) (S : qSto) : Option (Int × qSto) := qk (decide (0 ≤ i ∧ i < ((qslen.getD (c - 200) 0 : Nat) : Int))) (some ((qsch.getD (c - 200) []).getD i.toNat 0, S))
theorem qStr_ex {c : Nat} (h : qStr c = true) : ∃ i, i < 11 ∧ c = 200 + i := ⟨c - 200, by have := of_decide_eq_true (p := 200 ≤ c ∧ c < 211) h; omega, by have := of_decide_eq_true (p := 200 ≤ c ∧ c < 211) h; omega⟩
theorem Js_length_ok {X : qX} (d c : Nat) (hs : qStr c = true) (S : qSto) (o : Int × qSto) (h : Js_length c S = some o) (Q : Option qV → qSto → Prop) (hQ : Q (some (qi o.1)) o.2) : qC X (d + 1) yJ0_length_8abf5 cJ0_length_8abf5 1 (some .int) [qr c] S Q := by
  obtain ⟨i, hi, rfl⟩ := qStr_ex hs
  cases h
  have e : 200 + i - 200 = i := by omega
  rw [e] at hQ
  refine q_entryF (lv := [(0, qr (200 + i))]) pn_J0_length_8abf5 (Nat.le_of_ble_eq_true rfl) rfl ?_
  refine q_aload_n dJ0_length_8abf5_0 rfl rfl ?_
  refine q_getSV dJ0_length_8abf5_1 hi qw_2104 rfl ?_
  refine q_lenS dJ0_length_8abf5_4 hi rfl ?_
  refine q_aload_n dJ0_length_8abf5_5 rfl rfl ?_
  refine q_callTi (as := []) (o := (0, S)) dJ0_length_8abf5_6 ml_J0_335 rfl rfl (qStr_of (by omega) (by omega)) rfl (Nat.le_of_ble_eq_true rfl) (fun Q' h => js_coder d i hi S Q' h) rfl ?_
  refine q_ishr dJ0_length_8abf5_9 rfl ?_
  rw [js_shr i hi]
  exact q_ireturn dJ0_length_8abf5_10 rfl hQ
theorem js_check {X : qX} (d : Nat) {i n : Int} {v : Value} (hv : v.category = 1) (h0 : 0 ≤ i) (h1 : i < n) (h2 : n ≤ 100) (S : qSto) (Q : Option qV → qSto → Prop) (hQ : Q (some (qi i)) S) : qC X d yJ3_checkIndex_8e157 cJ3_checkIndex_8e157 3 (some .int) [qi i, qi n, qo v] S Q := by
  refine q_entryF (lv := [(0, qi i), (1, qi n), (2, qo v)]) pn_J3_checkIndex_8e157 (by simp [qsz, qlong, hv]) rfl ?_
  have r0 : qR i := ⟨by omega, by omega⟩
  have r1 : qR n := ⟨by omega, by omega⟩
  refine q_iload_n dJ3_checkIndex_8e157_0 rfl rfl ?_
  refine q_if_lt (tgt := 9) dJ3_checkIndex_8e157_1 (by decide) rfl r0 (fun g => absurd g (by omega)) (fun g => ?_)
  refine q_iload_n dJ3_checkIndex_8e157_4 rfl rfl ?_
  refine q_iload_n dJ3_checkIndex_8e157_5 rfl rfl ?_
  refine q_icmp_lt (tgt := 16) dJ3_checkIndex_8e157_6 (by decide) rfl r0 r1 (fun g => ?_) (fun g => absurd h1 g)
  refine q_iload_n dJ3_checkIndex_8e157_16 rfl rfl ?_
  exact q_ireturn dJ3_checkIndex_8e157_17 rfl hQ
theorem js_checkS {X : qX} (d : Nat) {i n : Int} (h0 : 0 ≤ i) (h1 : i < n) (h2 : n ≤ 100) (S : qSto) (Q : Option qV → qSto → Prop) (hQ : Q none S) : qC X (d + 1) yJ0_checkIndex_df160 cJ0_checkIndex_df160 2 none [qi i, qi n] S Q := by
  refine q_entryF (lv := [(0, qi i), (1, qi n)]) pn_J0_checkIndex_df160 (Nat.le_of_ble_eq_true rfl) rfl ?_
  refine q_iload_n dJ0_checkIndex_df160_0 rfl rfl ?_
  refine q_iload_n dJ0_checkIndex_df160_1 rfl rfl ?_
  refine q_getFM dJ0_checkIndex_df160_2 qw_660 rfl (fun v hv => ?_)
  refine q_callSi (as := [qi i, qi n, qo v]) (o := (i, S)) dJ0_checkIndex_df160_5 ml_J0_1059 rfl rfl (Nat.le_of_ble_eq_true rfl) (fun Q' h => js_check d hv h0 h1 h2 S Q' h) rfl ?_
  refine q_popI dJ0_checkIndex_df160_8 rfl ?_
  exact q_return dJ0_checkIndex_df160_9 rfl hQ
theorem js_charL {X : qX} (d i : Nat) (hi : i < 11) {j : Int} (h0 : 0 ≤ j) (h1 : j < ((qslen.getD i 0 : Nat) : Int)) (S : qSto) (Q : Option qV → qSto → Prop) (hQ : Q (some (qi ((qsch.getD i []).getD j.toNat 0))) S) : qC X (d + 2) yJ1_charAt_3b067 cJ1_charAt_3b067 2 (some .char) [qr (300 + i), qi j] S Q := by
  have hle := qslen_le i hi
  refine q_entryF (lv := [(0, qr (300 + i)), (1, qi j)]) pn_J1_charAt_3b067 (Nat.le_of_ble_eq_true rfl) rfl ?_
  refine q_iload_n dJ1_charAt_3b067_0 rfl rfl ?_
  refine q_aload_n dJ1_charAt_3b067_1 rfl rfl ?_
  refine q_lenS dJ1_charAt_3b067_2 hi rfl ?_
  refine q_callSv (as := [qi j, qi ((qslen.getD i 0 : Nat) : Int)]) (o := S) dJ1_charAt_3b067_3 ml_J1_9 rfl rfl (Nat.le_of_ble_eq_true rfl) (fun Q' h => js_checkS d h0 h1 (by omega) S Q' h) rfl ?_
  refine q_aload_n dJ1_charAt_3b067_6 rfl rfl ?_
  refine q_iload_n dJ1_charAt_3b067_7 rfl rfl ?_
  refine q_baS dJ1_charAt_3b067_8 hi h0 h1 rfl ?_
  refine q_sipush dJ1_charAt_3b067_9 (by decide) rfl ?_
  refine q_iand dJ1_charAt_3b067_12 rfl ?_
  rw [js_and i hi j.toNat (by omega)]
  have hr := qsch_rng i hi j.toNat (by omega)
  refine q_i2c dJ1_charAt_3b067_13 hr.1 hr.2 rfl ?_
  exact q_creturn (Or.inl rfl) dJ1_charAt_3b067_14 rfl hr.1 hr.2 hQ
theorem Js_charAt_ok {X : qX} (d c : Nat) (hs : qStr c = true) (j : Int) (S : qSto) (o : Int × qSto) (h : Js_charAt c j S = some o) (Q : Option qV → qSto → Prop) (hQ : Q (some (qi o.1)) o.2) : qC X (d + 3) yJ0_charAt_5068e cJ0_charAt_5068e 2 (some .char) [qr c, qi j] S Q := by
  obtain ⟨i, hi, rfl⟩ := qStr_ex hs
  obtain ⟨hc, h⟩ := qk_some h
  obtain ⟨h0, h1⟩ := of_decide_eq_true hc
  have h9 := Option.some.inj h
  subst h9
  have e : 200 + i - 200 = i := by omega
  rw [e] at hQ h1
  have hle := qslen_le i hi
  have hr := qsch_rng i hi j.toNat (by omega)
  refine q_entryF (lv := [(0, qr (200 + i)), (1, qi j)]) pn_J0_charAt_5068e (Nat.le_of_ble_eq_true rfl) rfl ?_
  refine q_aload_n dJ0_charAt_5068e_0 rfl rfl ?_
  refine q_callTi (as := []) (o := (1, S)) dJ0_charAt_5068e_1 ml_J0_492 rfl rfl (qStr_of (by omega) (by omega)) rfl (Nat.le_of_ble_eq_true rfl) (fun Q' h => js_isLatin1 (d + 2) i hi S Q' h) rfl ?_
  refine q_if_eq (a := 1) (tgt := 16) dJ0_charAt_5068e_4 (by decide) rfl ⟨by decide, by decide⟩ (fun g => absurd g (by decide)) (fun g => ?_)
  refine q_aload_n dJ0_charAt_5068e_7 rfl rfl ?_
  refine q_getSV dJ0_charAt_5068e_8 hi qw_2104 rfl ?_
  refine q_iload_n dJ0_charAt_5068e_11 rfl rfl ?_
  refine q_callSi (as := [qr (300 + i), qi j]) (o := ((qsch.getD i []).getD j.toNat 0, S)) dJ0_charAt_5068e_12 ml_J0_495 rfl rfl (Nat.le_of_ble_eq_true rfl) (fun Q' h => js_charL d i hi h0 h1 S Q' h) rfl ?_
  exact q_creturn (Or.inl rfl) dJ0_charAt_5068e_15 rfl hr.1 hr.2 hQ
