/-! the reference: four() -/
def M_fourAll_L38 : Nat → Int → Int → qSto → Option (Int × qSto)
  | 0, _, _, _ => none
  | n + 1, x1, x2, S => qk (qRb x2) (qk (qRb (S 70 37)) (if (S 70 37) ≤ x2 then some (x1, S) else (qk (qIx x2 4) (Option.bind (M_laysItself (S 91 (Int.toNat x2)) S) (fun q4302 => Option.bind (qk (qRb q4302.1) (if q4302.1 = 0 then some x1 else some (x1 + 1)) : Option Int) (fun t4305 => M_fourAll_L38 n t4305 (x2 + 1) q4302.2))))))
def M_fourAll (S : qSto) : Option (Int × qSto) := Option.bind (M_laysFour S) (fun q4290 => qk (qRb (q4290 70 37)) (if (q4290 70 37) = 0 then some ((-1), q4290) else (qk (qRb (q4290 70 38)) (qk (qRb (q4290 70 37)) (if (q4290 70 38) = (q4290 70 37) then some ((-1), q4290) else (Option.bind (M_puts 16 q4290) (fun q4295 => Option.bind (M_keeps q4295) (fun q4297 => Option.bind (M_fourAll_L38 qF 0 0 q4297) (fun q4306 => some (q4306.1, q4306.2))))))))))
set_option maxRecDepth 20000 in
theorem M_fourAll_L38_ok {X : qX} (hL : ∀ c, c < 93 → c ∈ qLs X) (d : Nat) {Q : Option qV → qSto → Prop} : ∀ (n : Nat) (x1 : Int) (x2 : Int) (S : qSto) (o : (Int × qSto)), M_fourAll_L38 n x1 x2 S = some o → (qW X (d + 11) yX12_four_ cX12_four_ 3 (some .int) 73 [(1, qi o.1)] [] o.2 Q) → qW X (d + 11) yX12_four_ cX12_four_ 3 (some .int) 38 [(0, qr 70), (1, qi x1), (2, qi x2)] [] S Q := by
  intro n
  induction n with
  | zero =>
    intro x1 x2 S o h
    simp [M_fourAll_L38] at h
  | succ n ih =>
    intro x1 x2 S o h hE
    rw [M_fourAll_L38] at h
    refine q_iload_n dX12_four__38 rfl rfl ?_
    refine q_aload_n dX12_four__39 rfl rfl ?_
    refine q_getI dX12_four__40 fl_X12_444 (hL 70 (by decide)) sh_70 (by decide) rfl rfl ?_
    obtain ⟨c4299, h⟩ := qk_some h
    obtain ⟨c4300, h⟩ := qk_some h
    refine q_icmp_ge (tgt := 73) dX12_four__43 (by decide) rfl (qRb_R c4299) (qRb_R c4300) (fun g => ?_) (fun g => ?_)
    · rw [if_pos (show (S 70 37) ≤ x2 from g)] at h
      cases h
      exact q_pick [1] rfl (hE)
    · rw [if_neg (show ¬ ((S 70 37) ≤ x2) from g)] at h
      refine q_aload_n dX12_four__46 rfl rfl ?_
      refine q_aload_n dX12_four__47 rfl rfl ?_
      refine q_getA dX12_four__48 fl_X12_76 (hL 70 (by decide)) sh_70 (by decide) rfl rfl ?_
      refine q_iload_n dX12_four__51 rfl rfl ?_
      obtain ⟨c4301, h⟩ := qk_some h
      refine q_iaload dX12_four__52 (hL 91 (by decide)) sh_91 (qIx_0 c4301) (qIx_1 c4301) rfl ?_
      obtain ⟨q4302, h4303, h⟩ := Option.bind_eq_some_iff.mp h
      refine q_callVi (as := [qi (S 91 (Int.toNat x2))]) (c := 70) dX12_four__53 ml_X12_420 rfl rfl (hL 70 (by decide)) sh_70 rfl rfl (Nat.le_of_ble_eq_true rfl) (M_laysItself_ok hL (d + 2) (S 91 (Int.toNat x2)) _ _ h4303) rfl ?_
      refine q_jn (G := fun (t4305 : Int) => qW X (d + 11) yX12_four_ cX12_four_ 3 (some .int) 66 [(0, qr 70), (2, qi x2)] [qi t4305] q4302.2 Q) h (fun t4305 h => ?_) (fun t4305 h hk4308 => ?_)
      · try dsimp only at h
        refine q_istore_n (lv' := [(1, qi t4305), (0, qr 70), (2, qi x2)]) dX12_four__66 (by decide) rfl rfl ?_
        refine q_iinc (lv' := [(2, qi (x2 + 1)), (1, qi t4305), (0, qr 70)]) dX12_four__67 (by decide) rfl rfl rfl ?_
        refine q_goto (pc' := 38) dX12_four__70 (by decide) ?_
        exact q_pick [2, 1, 0] rfl (ih t4305 (x2 + 1) _ _ h hE)
      · skip
        obtain ⟨c4304, h⟩ := qk_some h
        refine q_if_eq (tgt := 65) dX12_four__56 (by decide) rfl (qRb_R c4304)  (fun g => ?_) (fun g => ?_)
        · rw [if_pos (show q4302.1 = 0 from g)] at h
          refine q_iload_n dX12_four__65 rfl rfl ?_
          cases h
          exact q_pick [0, 2] rfl hk4308
        · rw [if_neg (show ¬ (q4302.1 = 0) from g)] at h
          refine q_iload_n dX12_four__59 rfl rfl ?_
          refine q_iconst dX12_four__60 rfl rfl ?_
          refine q_iadd dX12_four__61 rfl ?_
          refine q_goto (pc' := 66) dX12_four__62 (by decide) ?_
          cases h
          exact q_pick [0, 2] rfl hk4308
set_option maxRecDepth 20000 in
theorem M_fourAll_ok {X : qX} (hL : ∀ c, c < 93 → c ∈ qLs X) (d : Nat) (S : qSto) (o : (Int × qSto)) (h : M_fourAll S = some o) (Q : Option qV → qSto → Prop) (hQ : Q (some (qi o.1)) o.2) : qC X (d + 11) yX12_four_ cX12_four_ 3 (some .int) [qr 70] S Q := by
  refine q_entry (lv := [(0, qr 70)]) pn_X12 (Nat.le_of_ble_eq_true rfl) rfl ?_
  unfold M_fourAll at h
  refine q_aload_n dX12_four__0 rfl rfl ?_
  obtain ⟨q4290, h4291, h⟩ := Option.bind_eq_some_iff.mp h
  refine q_callVv (as := []) (c := 70) dX12_four__1 ml_X12_468 rfl rfl (hL 70 (by decide)) sh_70 rfl rfl (Nat.le_of_ble_eq_true rfl) (M_laysFour_ok hL d _ _ h4291) rfl ?_
  refine q_aload_n dX12_four__4 rfl rfl ?_
  refine q_getI dX12_four__5 fl_X12_444 (hL 70 (by decide)) sh_70 (by decide) rfl rfl ?_
  obtain ⟨c4292, h⟩ := qk_some h
  refine q_if_eq (tgt := 22) dX12_four__8 (by decide) rfl (qRb_R c4292)  (fun g => ?_) (fun g => ?_)
  · rw [if_pos (show (q4290 70 37) = 0 from g)] at h
    refine q_iconst dX12_four__22 rfl rfl ?_
    cases h
    exact q_ireturn dX12_four__23 rfl hQ
  · rw [if_neg (show ¬ ((q4290 70 37) = 0) from g)] at h
    refine q_aload_n dX12_four__11 rfl rfl ?_
    refine q_getI dX12_four__12 fl_X12_450 (hL 70 (by decide)) sh_70 (by decide) rfl rfl ?_
    refine q_aload_n dX12_four__15 rfl rfl ?_
    refine q_getI dX12_four__16 fl_X12_444 (hL 70 (by decide)) sh_70 (by decide) rfl rfl ?_
    obtain ⟨c4293, h⟩ := qk_some h
    obtain ⟨c4294, h⟩ := qk_some h
    refine q_icmp_ne (tgt := 24) dX12_four__19 (by decide) rfl (qRb_R c4293) (qRb_R c4294) (fun g => ?_) (fun g => ?_)
    · rw [if_neg (show ¬ ((q4290 70 38) = (q4290 70 37)) from g)] at h
      refine q_aload_n dX12_four__24 rfl rfl ?_
      refine q_bipush dX12_four__25 (by decide) rfl ?_
      obtain ⟨q4295, h4296, h⟩ := Option.bind_eq_some_iff.mp h
      refine q_callVv (as := [qi 16]) (c := 70) dX12_four__27 ml_X12_414 rfl rfl (hL 70 (by decide)) sh_70 rfl rfl (Nat.le_of_ble_eq_true rfl) (M_puts_ok hL (d + 10) 16 _ _ h4296) rfl ?_
      refine q_aload_n dX12_four__30 rfl rfl ?_
      obtain ⟨q4297, h4298, h⟩ := Option.bind_eq_some_iff.mp h
      refine q_callVv (as := []) (c := 70) dX12_four__31 ml_X12_417 rfl rfl (hL 70 (by decide)) sh_70 rfl rfl (Nat.le_of_ble_eq_true rfl) (M_keeps_ok hL (d + 9) _ _ h4298) rfl ?_
      refine q_iconst dX12_four__34 rfl rfl ?_
      refine q_istore_n (lv' := [(1, qi 0), (0, qr 70)]) dX12_four__35 (by decide) rfl rfl ?_
      refine q_iconst dX12_four__36 rfl rfl ?_
      refine q_istore_n (lv' := [(2, qi 0), (1, qi 0), (0, qr 70)]) dX12_four__37 (by decide) rfl rfl ?_
      obtain ⟨q4306, h4307, h⟩ := Option.bind_eq_some_iff.mp h
      refine q_pick [2, 1, 0] rfl (M_fourAll_L38_ok hL d qF 0 0 _ _ h4307 ?_)
      refine q_iload_n dX12_four__73 rfl rfl ?_
      cases h
      exact q_ireturn dX12_four__74 rfl hQ
    · rw [if_pos (show (q4290 70 38) = (q4290 70 37) from g)] at h
      refine q_iconst dX12_four__22 rfl rfl ?_
      cases h
      exact q_ireturn dX12_four__23 rfl hQ
