/-! the class tries orders, depth by depth -/
section PTR
variable {T lev : Nat → Int}
theorem try_L3 {Y0 : qY} {l : List Nat} (hT : bT T) (hl : lOK T Y0 l) (ih : tOK T lev Y0 l 4 FirstFour_tryFrom_n4) {tk : Int} {pre : List Nat} {a : qY × Int × Int} (hp : pre.length = 3) (hd : 3 < l.length) (hB : tB tk pre) (he : sE T lev Y0 l pre a) : ∀ (j n i : Nat) (b : Int × Int × List Nat) (S : qSto), i + j = l.length → j < n → tS T lev Y0 l pre a b S → ∃ S', FirstFour_tryFrom_n3_L68 n tk a.2.1 a.2.2 (i : Int) S = some S' ∧ fQ 3 S S' ∧ tS T lev Y0 l pre a ((List.range' i j).foldl (fun b (i : Nat) => if qb_iand (qb_ishr tk (i : Int)) 1 = 0 then (pmT l.length (l.length - 4) (qb_ior tk (qb_ishl 1 (i : Int)))).foldl (fUp T lev l (fStep T lev l a i) (pre ++ [i])) b else b) b) S'
  | 0, n + 1, i, b, S, e, _, hS => by
    have hl4 := hl.1
    rw [FirstFour_tryFrom_n3_L68]
    simp (disch := omega) only [qk_r, hS.2.2.1, if_pos (show (l.length : Int) ≤ (i : Int) by omega)]
    exact ⟨S, rfl, fQ_rfl, hS⟩
  | j + 1, n + 1, i, b, S, e, hn, hS => by
    have hl4 := hl.1
    have hi : i < l.length := by omega
    obtain ⟨s1, s2, s3, ⟨s4, s4'⟩, s5, s6, s7, s8⟩ := id hS
    obtain ⟨f1, f2, f3⟩ := s7 i hi
    obtain ⟨e1, e2, e3, e4, e5, e6⟩ := id he
    have hs := hl.2.2.1 _ (getD_mem hi)
    have b9 := bT_n hT
    have hbit := hB.2 i (by omega)
    rw [List.range'_succ, List.foldl_cons]
    rw [FirstFour_tryFrom_n3_L68]
    by_cases g : i ∈ pre
    · rw [if_pos g] at hbit
      obtain ⟨S', t1, t2, t3⟩ := try_L3 hT hl ih hp hd hB he j n (i + 1) b S (by omega) (by omega) hS
      simp (disch := omega) only [qk_r, s3, if_neg (show ¬ (l.length : Int) ≤ (i : Int) by omega), hbit, if_neg (show ¬ (1 : Int) = 0 by omega), ob_some]
      exact ⟨S', t1, t2, t3⟩
    · rw [if_neg g] at hbit
      have h0 := e4 i hi g
      rw [if_pos hbit]
      -- the trial's next place
      have o1 : ∀ c, c ≠ 49 → (qup S 49 3 (S 48 i)) c = S c := fun c hc => qup_off hc
      have o2 : ∀ u, (qup S 49 3 (S 48 i)) 49 u = if u = 3 then S 48 i else S 49 u := fun u => by rw [qup_on]
      have q1 : fQ 3 S (qup S 49 3 (S 48 i)) := ⟨fun c hc => o1 c (by omega), fun u _ _ => by rw [o1 11 (by omega)], fun u hu => by rw [o2, if_neg (by omega)]⟩
      have p49 : ∀ u, u < (pre ++ [i]).length → (qup S 49 3 (S 48 i)) 49 u = (l.getD ((pre ++ [i]).getD u 0) 0 : Nat) := fun u hu => by
        have hu' : u < pre.length + 1 := by simpa using hu
        rw [o2]
        by_cases w : u = 3
        · rw [if_pos w, f1, w, List.getD_eq_getElem?_getD (l := pre ++ [i]), List.getElem?_append_right (by omega)]
          simp [hp]
        · rw [if_neg w, s8 u (by omega), List.getD_eq_getElem?_getD (l := pre ++ [i]), List.getElem?_append_left (by omega), ← List.getD_eq_getElem?_getD]
      have hI1 : iT (qup S 49 3 (S 48 i)) T lev := iT_off s1 (fun c hc => o1 c (by omega))
      have hc1 : cY (qup S 49 3 (S 48 i)) T lev a.1 := cY_off s2 (fun c hc => o1 c (by omega))
      have x50 : (qup S 49 3 (S 48 i)) 50 i = S 50 i := by rw [o1 50 (by omega)]
      have x48 : S 48 i = ((l.getD i 0 : Nat) : Int) := f1
      have d := fd_or s1 e1 s2 hs h0
      have hst := sE_step hT hl he hi g d
      have hBt := tB_step hB (show i < 4 by omega)
      have mk : ∀ S2, iT S2 T lev → (∀ c, c = 11 ∨ (47 ≤ c ∧ c ≤ 50) → S2 c = (qup S 49 3 (S 48 i)) c) → cY S2 T lev (fStep T lev l a i).1 → tS T lev Y0 l (pre ++ [i]) (fStep T lev l a i) b S2 := fun S2 hI2 hf hc2 => by
        refine ⟨hI2, hc2, ?_, ?_, s5, fun u hu => ?_, fun u hu => ?_, fun u hu => ?_⟩
        · rw [hf 11 (by omega), o1 11 (by omega)]
          exact s3
        · rw [hf 11 (by omega), o1 11 (by omega)]
          exact ⟨s4, s4'⟩
        · rw [hf 47 (by omega), o1 47 (by omega)]
          exact s6 u hu
        · rw [hf 48 (by omega), hf 50 (by omega), o1 48 (by omega), o1 50 (by omega)]
          exact s7 u hu
        · rw [hf 49 (by omega)]
          exact p49 u hu
      have hlen : (pre ++ [i]).length = 4 := by simp [hp]
      -- going on behind it
      have go : ∀ b1 S5, fQ 3 S S5 → tS T lev Y0 l (pre ++ [i]) (fStep T lev l a i) b1 S5 ∨ True → iT S5 T lev → cY S5 T lev a.1 → S5 11 4 = l.length → (S5 11 5 = b1.1 ∧ S5 11 6 = b1.2.1) → ((0 ≤ b1.1 ∧ b1.1 ≤ 5) ∧ (0 ≤ b1.2.1 ∧ b1.2.1 ≤ 20000)) → (∀ i, i < b1.2.2.length → S5 47 i = (l.getD (b1.2.2.getD i 0) 0 : Nat)) → tS T lev Y0 l pre a b1 S5 := fun b1 S5 hq _ hI5 hc5 z3 z4 z5 z6 => by
        refine ⟨hI5, hc5, z3, z4, z5, z6, fun u hu => ?_, fun u hu => ?_⟩
        · rw [hq.1 48 (by omega), hq.1 50 (by omega)]
          exact s7 u hu
        · rw [hq.2.2 u (by omega)]
          exact s8 u hu
      -- no place: left out
      have out : ∀ S2, fC (qup S 49 3 (S 48 i)) S2 → cY S2 T lev a.1 → fdN1 T lev a.1 (l.getD i 0) → ∃ S3, FirstFour_tryFrom_n4 (qb_ior tk (qb_ishl 1 (i : Int))) (a.2.1 + 1) a.2.2 S2 = some S3 ∧ fQ 3 S S3 ∧ tS T lev Y0 l pre a ((pmT l.length (l.length - 4) (qb_ior tk (qb_ishl 1 (i : Int)))).foldl (fUp T lev l (fStep T lev l a i) (pre ++ [i])) b) S3 := fun S2 hf hc2 hN => by
        have fs : fStep T lev l a i = (a.1, a.2.1 + 1, a.2.2) := by
          unfold fStep
          rw [sB_N hN, if_neg (by omega)]
        have hI2 := fC_iT hI1 hf
        obtain ⟨S3, t1, t2, t3⟩ := ih _ _ _ b S2 hlen (by omega) hBt hst (mk S2 hI2 (fun c hc => hf c (by omega)) (by rw [fs]; exact hc2))
        have fq : fQ 3 S S3 := fQ_tr (fQ_tr q1 (fC_Q hf)) (fQ_le t2 (by omega))
        rw [fs] at t1
        refine ⟨S3, t1, fq, ?_⟩
        obtain ⟨z1, z2, z3, z4, z5, z6, -, -⟩ := t3
        rw [fs] at z2
        exact go _ S3 fq (Or.inr trivial) z1 z2 z3 z4 z5 z6
      have body : ∃ S3, (qk (qRb ((qup S 49 3 (S 48 i)) 50 i)) (if ((qup S 49 3 (S 48 i)) 50 i) = 0 then (Option.bind (FirstFour_tryFrom_n4 (qb_ior tk (qb_ishl 1 (i : Int))) (a.2.1 + 1) a.2.2 (qup S 49 3 (S 48 i))) (fun q1489 => some q1489)) else (Option.bind (Told_contractOf (S 48 i) 8 (qup S 49 3 (S 48 i))) (fun q1491 => Option.bind (Told_contractOf (S 48 i) 7 q1491.2) (fun q1493 => Option.bind (Search_find (S 48 i) q1491.1 q1493.1 q1493.2) (fun q1495 => qk (qRb q1495.1) (if q1495.1 = 0 then (Option.bind (FirstFour_tryFrom_n4 (qb_ior tk (qb_ishl 1 (i : Int))) (a.2.1 + 1) a.2.2 q1495.2) (fun q1498 => some q1498)) else (Option.bind (Stays_lay (S 48 i) (q1495.2 9 5) (q1495.2 9 6) (q1495.2 9 7) q1495.2) (fun q1500 => Option.bind (Stays_costOf (S 48 i) q1500) (fun q1502 => Option.bind (FirstFour_tryFrom_n4 (qb_ior tk (qb_ishl 1 (i : Int))) a.2.1 (a.2.2 + q1502.1) q1502.2) (fun q1504 => Option.bind (Stays_lift (S 48 i) q1504) (fun q1506 => some q1506)))))))))))) = some S3 ∧ fQ 3 S S3 ∧ tS T lev Y0 l pre a ((pmT l.length (l.length - 4) (qb_ior tk (qb_ishl 1 (i : Int)))).foldl (fUp T lev l (fStep T lev l a i) (pre ++ [i])) b) S3 := by
        rw [x50]
        rcases f2 with w | w
        · rw [w, qk_r (by omega) (by omega), if_pos rfl]
          obtain ⟨S3, t1, t2, t3⟩ := out _ fC_rfl hc1 (fdN_le hT hs e3 (fun s => (e1.1 s).1) (f3 w))
          rw [t1]
          exact ⟨S3, rfl, t2, t3⟩
        · rw [w, qk_r (by omega) (by omega), if_neg (by omega), x48]
          rw [x48] at hI1 hc1
          have cn := bT_con hT hs
          have c8 := Told_contractOf_s hI1 hs (w := 8) (by omega)
          have c7 := Told_contractOf_s hI1 hs (w := 7) (by omega)
          obtain ⟨r, S2, v1, v2, v3, v4⟩ := find_s hI1 e1 hc1 hs h0 (most := sCon T (l.getD i 0) 8) (least := sCon T (l.getD i 0) 7) (by omega) (by omega) (by omega)
          have c8' : Told_contractOf ((l.getD i 0 : Nat) : Int) 8 (qup S 49 3 ((l.getD i 0 : Nat) : Int)) = _ := c8
          have c7' : Told_contractOf ((l.getD i 0 : Nat) : Int) 7 (qup S 49 3 ((l.getD i 0 : Nat) : Int)) = _ := c7
          rw [c8']
          simp only [ob_sn]
          rw [c7']
          simp only [ob_sn]
          rw [v1]
          simp only [ob_sn]
          have hf2 : fC (qup S 49 3 (S 48 i)) S2 := by
            rw [x48]
            exact fF_C v3
          rcases v4 with ⟨y1, y2⟩ | ⟨y1, k, t, x, y2, y3, y4, y5, y6⟩
          · rw [y1, qk_r (by omega) (by omega), if_pos rfl]
            obtain ⟨S3, t1, t2, t3⟩ := out S2 hf2 v2 y2
            rw [t1]
            exact ⟨S3, rfl, t2, t3⟩
          · obtain ⟨ok, -⟩ := fd_ok hT hs y2
            have ob := okS_b hT hs ok
            have hI2 : iT S2 T lev := iT_off s1 (fun c hc => by rw [hf2 c (by omega), o1 c (by omega)])
            obtain ⟨S3, w1, w2, w3⟩ := Stays_lay_s hI2 v2 hs h0 ok
            have hI3 : iT S3 T lev := iT_off hI2 (fun c hc => w3 c (by omega))
            have eB : yB T lev a.1 (l.getD i 0) = yP a.1 (l.getD i 0) x t k := yB_S y2
            have bB : bY T lev (yP a.1 (l.getD i 0) x t k) := bY_put hT e1 hs (Or.inr ok)
            have kk : (yP a.1 (l.getD i 0) x t k).2.2 (l.getD i 0) = k := if_pos rfl
            have co := Stays_costOf_s hI3 bB w2 hs (by rw [kk]; omega)
            have fs : fStep T lev l a i = (yP a.1 (l.getD i 0) x t k, a.2.1, a.2.2 + sCost T lev (yP a.1 (l.getD i 0) x t k) (l.getD i 0)) := by
              unfold fStep
              rw [sB_S y2, if_pos rfl, eB]
            obtain ⟨S4, t1, t2, t3⟩ := ih _ _ _ b S3 hlen (by omega) hBt hst (mk S3 hI3 (fun c hc => by rw [w3 c (by omega), hf2 c (by omega)]) (by rw [fs]; exact w2))
            rw [fs] at t1
            obtain ⟨z1, z2, z3, z4, z5, z6, -, -⟩ := t3
            rw [fs] at z2
            have fq4 : fQ 3 S S4 := fQ_tr (fQ_tr (fQ_tr q1 (fC_Q hf2)) (fC_Q (fY_C w3))) (fQ_le t2 (by omega))
            obtain ⟨S5, r1, r2, r3⟩ := Stays_lift_s z1 bB z2 hs (by rw [kk]; omega)
            have fq5 : fQ 3 S S5 := fQ_tr fq4 (fC_Q (fun c hc => r3 c (by omega) (by omega)))
            have c5 : cY S5 T lev a.1 := by
              have e : yX (yP a.1 (l.getD i 0) x t k) (l.getD i 0) = yX a.1 (l.getD i 0) := yP_yP
              rw [e] at r2
              exact cY_cong (yE_symm (yE_x h0)) r2
            rw [y1, qk_r (by omega) (by omega), if_neg (by omega), y3, y4, y5, w1]
            simp only [ob_sn]
            rw [co]
            simp only [ob_sn]
            rw [t1]
            simp only [ob_sn]
            rw [r1]
            refine ⟨S5, rfl, fq5, go _ S5 fq5 (Or.inr trivial) (iT_off z1 (fun c hc => r3 c (by omega) (by omega))) c5 ?_ ?_ z5 ?_⟩
            · rw [r3 11 (by omega) (by omega)]
              exact z3
            · rw [r3 11 (by omega) (by omega)]
              exact z4
            · rw [r3 47 (by omega) (by omega)]
              exact z6
      obtain ⟨S3, t1, t2, t3⟩ := body
      obtain ⟨S', u1, u2, u3⟩ := try_L3 hT hl ih hp hd hB he j n (i + 1) _ S3 (by omega) (by omega) t3
      rw [qk_r (by omega) (by omega), s3, qk_r (by omega) (by omega), if_neg (show ¬ (l.length : Int) ≤ (i : Int) by omega), hbit, qk_r (by omega) (by omega), if_pos rfl, qk_ix (by omega) (by omega), qk_ix (by omega) (by omega), Int.toNat_natCast, t1]
      exact ⟨S', u1, fQ_tr t2 u2, u3⟩
theorem try_n3 {Y0 : qY} {l : List Nat} (hT : bT T) (hl : lOK T Y0 l) (ih : tOK T lev Y0 l 4 FirstFour_tryFrom_n4) : tOK T lev Y0 l 3 FirstFour_tryFrom_n3 := fun tk pre a b S hp hd hB he hS => by
  obtain ⟨s1, s2, s3, ⟨s4, s4'⟩, ⟨⟨b1, b2⟩, b3, b4⟩, -, -, -⟩ := id hS
  obtain ⟨-, -, -, -, e5, e6⟩ := id he
  have hl4 := hl.1
  have inner : (a.2.1 < b.1 ∨ (a.2.1 = b.1 ∧ a.2.2 < b.2.1)) → ∃ S', (if (l.length : Int) ≤ 3 then some (qua (qup (qup S 11 5 a.2.1) 11 6 a.2.2) 47 (qcpy (qup (qup S 11 5 a.2.1) 11 6 a.2.2) 49 47 0 0 4)) else (Option.bind (FirstFour_tryFrom_n3_L68 qF tk a.2.1 a.2.2 0 S) (fun q1514 => some q1514))) = some S' ∧ fQ 3 S S' ∧ tS T lev Y0 l pre a ((pmT l.length (l.length - 3) tk).foldl (fUp T lev l a pre) b) S' := fun hb => by
    by_cases g : (l.length : Int) ≤ 3
    · rw [if_pos g]
      have z := t_leaf (tk := tk) hl (by omega) he hS hb hp
      exact ⟨_, rfl, z.1, z.2⟩
    · rw [if_neg g]
      obtain ⟨S', t1, t2, t3⟩ := try_L3 hT hl ih hp (by omega) hB he l.length qF 0 b S (by omega) (by unfold qF; omega) hS
      have t1' : FirstFour_tryFrom_n3_L68 qF tk a.2.1 a.2.2 0 S = some S' := t1
      rw [t1']
      refine ⟨S', rfl, t2, ?_⟩
      have e : l.length - 3 = (l.length - 4) + 1 := by omega
      rw [e, fold_pm]
      exact t3
  rw [FirstFour_tryFrom_n3]
  simp (disch := omega) only [qk_r, s3, s4, s4']
  by_cases g : b.1 < a.2.1
  · rw [if_pos g, prune hT hl (Or.inl g)]
    exact ⟨S, rfl, fQ_rfl, hS⟩
  · rw [if_neg g]
    by_cases g2 : a.2.1 = b.1
    · rw [if_pos g2]
      by_cases g3 : a.2.2 < b.2.1
      · rw [if_pos g3]
        exact inner (Or.inr ⟨g2, g3⟩)
      · rw [if_neg g3, prune hT hl (Or.inr ⟨g2, by omega⟩)]
        exact ⟨S, rfl, fQ_rfl, hS⟩
    · rw [if_neg g2]
      exact inner (Or.inl (by omega))
theorem try_L2 {Y0 : qY} {l : List Nat} (hT : bT T) (hl : lOK T Y0 l) (ih : tOK T lev Y0 l 3 FirstFour_tryFrom_n3) {tk : Int} {pre : List Nat} {a : qY × Int × Int} (hp : pre.length = 2) (hd : 2 < l.length) (hB : tB tk pre) (he : sE T lev Y0 l pre a) : ∀ (j n i : Nat) (b : Int × Int × List Nat) (S : qSto), i + j = l.length → j < n → tS T lev Y0 l pre a b S → ∃ S', FirstFour_tryFrom_n2_L68 n tk a.2.1 a.2.2 (i : Int) S = some S' ∧ fQ 2 S S' ∧ tS T lev Y0 l pre a ((List.range' i j).foldl (fun b (i : Nat) => if qb_iand (qb_ishr tk (i : Int)) 1 = 0 then (pmT l.length (l.length - 3) (qb_ior tk (qb_ishl 1 (i : Int)))).foldl (fUp T lev l (fStep T lev l a i) (pre ++ [i])) b else b) b) S'
  | 0, n + 1, i, b, S, e, _, hS => by
    have hl4 := hl.1
    rw [FirstFour_tryFrom_n2_L68]
    simp (disch := omega) only [qk_r, hS.2.2.1, if_pos (show (l.length : Int) ≤ (i : Int) by omega)]
    exact ⟨S, rfl, fQ_rfl, hS⟩
  | j + 1, n + 1, i, b, S, e, hn, hS => by
    have hl4 := hl.1
    have hi : i < l.length := by omega
    obtain ⟨s1, s2, s3, ⟨s4, s4'⟩, s5, s6, s7, s8⟩ := id hS
    obtain ⟨f1, f2, f3⟩ := s7 i hi
    obtain ⟨e1, e2, e3, e4, e5, e6⟩ := id he
    have hs := hl.2.2.1 _ (getD_mem hi)
    have b9 := bT_n hT
    have hbit := hB.2 i (by omega)
    rw [List.range'_succ, List.foldl_cons]
    rw [FirstFour_tryFrom_n2_L68]
    by_cases g : i ∈ pre
    · rw [if_pos g] at hbit
      obtain ⟨S', t1, t2, t3⟩ := try_L2 hT hl ih hp hd hB he j n (i + 1) b S (by omega) (by omega) hS
      simp (disch := omega) only [qk_r, s3, if_neg (show ¬ (l.length : Int) ≤ (i : Int) by omega), hbit, if_neg (show ¬ (1 : Int) = 0 by omega), ob_some]
      exact ⟨S', t1, t2, t3⟩
    · rw [if_neg g] at hbit
      have h0 := e4 i hi g
      rw [if_pos hbit]
      -- the trial's next place
      have o1 : ∀ c, c ≠ 49 → (qup S 49 2 (S 48 i)) c = S c := fun c hc => qup_off hc
      have o2 : ∀ u, (qup S 49 2 (S 48 i)) 49 u = if u = 2 then S 48 i else S 49 u := fun u => by rw [qup_on]
      have q1 : fQ 2 S (qup S 49 2 (S 48 i)) := ⟨fun c hc => o1 c (by omega), fun u _ _ => by rw [o1 11 (by omega)], fun u hu => by rw [o2, if_neg (by omega)]⟩
      have p49 : ∀ u, u < (pre ++ [i]).length → (qup S 49 2 (S 48 i)) 49 u = (l.getD ((pre ++ [i]).getD u 0) 0 : Nat) := fun u hu => by
        have hu' : u < pre.length + 1 := by simpa using hu
        rw [o2]
        by_cases w : u = 2
        · rw [if_pos w, f1, w, List.getD_eq_getElem?_getD (l := pre ++ [i]), List.getElem?_append_right (by omega)]
          simp [hp]
        · rw [if_neg w, s8 u (by omega), List.getD_eq_getElem?_getD (l := pre ++ [i]), List.getElem?_append_left (by omega), ← List.getD_eq_getElem?_getD]
      have hI1 : iT (qup S 49 2 (S 48 i)) T lev := iT_off s1 (fun c hc => o1 c (by omega))
      have hc1 : cY (qup S 49 2 (S 48 i)) T lev a.1 := cY_off s2 (fun c hc => o1 c (by omega))
      have x50 : (qup S 49 2 (S 48 i)) 50 i = S 50 i := by rw [o1 50 (by omega)]
      have x48 : S 48 i = ((l.getD i 0 : Nat) : Int) := f1
      have d := fd_or s1 e1 s2 hs h0
      have hst := sE_step hT hl he hi g d
      have hBt := tB_step hB (show i < 4 by omega)
      have mk : ∀ S2, iT S2 T lev → (∀ c, c = 11 ∨ (47 ≤ c ∧ c ≤ 50) → S2 c = (qup S 49 2 (S 48 i)) c) → cY S2 T lev (fStep T lev l a i).1 → tS T lev Y0 l (pre ++ [i]) (fStep T lev l a i) b S2 := fun S2 hI2 hf hc2 => by
        refine ⟨hI2, hc2, ?_, ?_, s5, fun u hu => ?_, fun u hu => ?_, fun u hu => ?_⟩
        · rw [hf 11 (by omega), o1 11 (by omega)]
          exact s3
        · rw [hf 11 (by omega), o1 11 (by omega)]
          exact ⟨s4, s4'⟩
        · rw [hf 47 (by omega), o1 47 (by omega)]
          exact s6 u hu
        · rw [hf 48 (by omega), hf 50 (by omega), o1 48 (by omega), o1 50 (by omega)]
          exact s7 u hu
        · rw [hf 49 (by omega)]
          exact p49 u hu
      have hlen : (pre ++ [i]).length = 3 := by simp [hp]
      -- going on behind it
      have go : ∀ b1 S5, fQ 2 S S5 → tS T lev Y0 l (pre ++ [i]) (fStep T lev l a i) b1 S5 ∨ True → iT S5 T lev → cY S5 T lev a.1 → S5 11 4 = l.length → (S5 11 5 = b1.1 ∧ S5 11 6 = b1.2.1) → ((0 ≤ b1.1 ∧ b1.1 ≤ 5) ∧ (0 ≤ b1.2.1 ∧ b1.2.1 ≤ 20000)) → (∀ i, i < b1.2.2.length → S5 47 i = (l.getD (b1.2.2.getD i 0) 0 : Nat)) → tS T lev Y0 l pre a b1 S5 := fun b1 S5 hq _ hI5 hc5 z3 z4 z5 z6 => by
        refine ⟨hI5, hc5, z3, z4, z5, z6, fun u hu => ?_, fun u hu => ?_⟩
        · rw [hq.1 48 (by omega), hq.1 50 (by omega)]
          exact s7 u hu
        · rw [hq.2.2 u (by omega)]
          exact s8 u hu
      -- no place: left out
      have out : ∀ S2, fC (qup S 49 2 (S 48 i)) S2 → cY S2 T lev a.1 → fdN1 T lev a.1 (l.getD i 0) → ∃ S3, FirstFour_tryFrom_n3 (qb_ior tk (qb_ishl 1 (i : Int))) (a.2.1 + 1) a.2.2 S2 = some S3 ∧ fQ 2 S S3 ∧ tS T lev Y0 l pre a ((pmT l.length (l.length - 3) (qb_ior tk (qb_ishl 1 (i : Int)))).foldl (fUp T lev l (fStep T lev l a i) (pre ++ [i])) b) S3 := fun S2 hf hc2 hN => by
        have fs : fStep T lev l a i = (a.1, a.2.1 + 1, a.2.2) := by
          unfold fStep
          rw [sB_N hN, if_neg (by omega)]
        have hI2 := fC_iT hI1 hf
        obtain ⟨S3, t1, t2, t3⟩ := ih _ _ _ b S2 hlen (by omega) hBt hst (mk S2 hI2 (fun c hc => hf c (by omega)) (by rw [fs]; exact hc2))
        have fq : fQ 2 S S3 := fQ_tr (fQ_tr q1 (fC_Q hf)) (fQ_le t2 (by omega))
        rw [fs] at t1
        refine ⟨S3, t1, fq, ?_⟩
        obtain ⟨z1, z2, z3, z4, z5, z6, -, -⟩ := t3
        rw [fs] at z2
        exact go _ S3 fq (Or.inr trivial) z1 z2 z3 z4 z5 z6
      have body : ∃ S3, (qk (qRb ((qup S 49 2 (S 48 i)) 50 i)) (if ((qup S 49 2 (S 48 i)) 50 i) = 0 then (Option.bind (FirstFour_tryFrom_n3 (qb_ior tk (qb_ishl 1 (i : Int))) (a.2.1 + 1) a.2.2 (qup S 49 2 (S 48 i))) (fun q1489 => some q1489)) else (Option.bind (Told_contractOf (S 48 i) 8 (qup S 49 2 (S 48 i))) (fun q1491 => Option.bind (Told_contractOf (S 48 i) 7 q1491.2) (fun q1493 => Option.bind (Search_find (S 48 i) q1491.1 q1493.1 q1493.2) (fun q1495 => qk (qRb q1495.1) (if q1495.1 = 0 then (Option.bind (FirstFour_tryFrom_n3 (qb_ior tk (qb_ishl 1 (i : Int))) (a.2.1 + 1) a.2.2 q1495.2) (fun q1498 => some q1498)) else (Option.bind (Stays_lay (S 48 i) (q1495.2 9 5) (q1495.2 9 6) (q1495.2 9 7) q1495.2) (fun q1500 => Option.bind (Stays_costOf (S 48 i) q1500) (fun q1502 => Option.bind (FirstFour_tryFrom_n3 (qb_ior tk (qb_ishl 1 (i : Int))) a.2.1 (a.2.2 + q1502.1) q1502.2) (fun q1504 => Option.bind (Stays_lift (S 48 i) q1504) (fun q1506 => some q1506)))))))))))) = some S3 ∧ fQ 2 S S3 ∧ tS T lev Y0 l pre a ((pmT l.length (l.length - 3) (qb_ior tk (qb_ishl 1 (i : Int)))).foldl (fUp T lev l (fStep T lev l a i) (pre ++ [i])) b) S3 := by
        rw [x50]
        rcases f2 with w | w
        · rw [w, qk_r (by omega) (by omega), if_pos rfl]
          obtain ⟨S3, t1, t2, t3⟩ := out _ fC_rfl hc1 (fdN_le hT hs e3 (fun s => (e1.1 s).1) (f3 w))
          rw [t1]
          exact ⟨S3, rfl, t2, t3⟩
        · rw [w, qk_r (by omega) (by omega), if_neg (by omega), x48]
          rw [x48] at hI1 hc1
          have cn := bT_con hT hs
          have c8 := Told_contractOf_s hI1 hs (w := 8) (by omega)
          have c7 := Told_contractOf_s hI1 hs (w := 7) (by omega)
          obtain ⟨r, S2, v1, v2, v3, v4⟩ := find_s hI1 e1 hc1 hs h0 (most := sCon T (l.getD i 0) 8) (least := sCon T (l.getD i 0) 7) (by omega) (by omega) (by omega)
          have c8' : Told_contractOf ((l.getD i 0 : Nat) : Int) 8 (qup S 49 2 ((l.getD i 0 : Nat) : Int)) = _ := c8
          have c7' : Told_contractOf ((l.getD i 0 : Nat) : Int) 7 (qup S 49 2 ((l.getD i 0 : Nat) : Int)) = _ := c7
          rw [c8']
          simp only [ob_sn]
          rw [c7']
          simp only [ob_sn]
          rw [v1]
          simp only [ob_sn]
          have hf2 : fC (qup S 49 2 (S 48 i)) S2 := by
            rw [x48]
            exact fF_C v3
          rcases v4 with ⟨y1, y2⟩ | ⟨y1, k, t, x, y2, y3, y4, y5, y6⟩
          · rw [y1, qk_r (by omega) (by omega), if_pos rfl]
            obtain ⟨S3, t1, t2, t3⟩ := out S2 hf2 v2 y2
            rw [t1]
            exact ⟨S3, rfl, t2, t3⟩
          · obtain ⟨ok, -⟩ := fd_ok hT hs y2
            have ob := okS_b hT hs ok
            have hI2 : iT S2 T lev := iT_off s1 (fun c hc => by rw [hf2 c (by omega), o1 c (by omega)])
            obtain ⟨S3, w1, w2, w3⟩ := Stays_lay_s hI2 v2 hs h0 ok
            have hI3 : iT S3 T lev := iT_off hI2 (fun c hc => w3 c (by omega))
            have eB : yB T lev a.1 (l.getD i 0) = yP a.1 (l.getD i 0) x t k := yB_S y2
            have bB : bY T lev (yP a.1 (l.getD i 0) x t k) := bY_put hT e1 hs (Or.inr ok)
            have kk : (yP a.1 (l.getD i 0) x t k).2.2 (l.getD i 0) = k := if_pos rfl
            have co := Stays_costOf_s hI3 bB w2 hs (by rw [kk]; omega)
            have fs : fStep T lev l a i = (yP a.1 (l.getD i 0) x t k, a.2.1, a.2.2 + sCost T lev (yP a.1 (l.getD i 0) x t k) (l.getD i 0)) := by
              unfold fStep
              rw [sB_S y2, if_pos rfl, eB]
            obtain ⟨S4, t1, t2, t3⟩ := ih _ _ _ b S3 hlen (by omega) hBt hst (mk S3 hI3 (fun c hc => by rw [w3 c (by omega), hf2 c (by omega)]) (by rw [fs]; exact w2))
            rw [fs] at t1
            obtain ⟨z1, z2, z3, z4, z5, z6, -, -⟩ := t3
            rw [fs] at z2
            have fq4 : fQ 2 S S4 := fQ_tr (fQ_tr (fQ_tr q1 (fC_Q hf2)) (fC_Q (fY_C w3))) (fQ_le t2 (by omega))
            obtain ⟨S5, r1, r2, r3⟩ := Stays_lift_s z1 bB z2 hs (by rw [kk]; omega)
            have fq5 : fQ 2 S S5 := fQ_tr fq4 (fC_Q (fun c hc => r3 c (by omega) (by omega)))
            have c5 : cY S5 T lev a.1 := by
              have e : yX (yP a.1 (l.getD i 0) x t k) (l.getD i 0) = yX a.1 (l.getD i 0) := yP_yP
              rw [e] at r2
              exact cY_cong (yE_symm (yE_x h0)) r2
            rw [y1, qk_r (by omega) (by omega), if_neg (by omega), y3, y4, y5, w1]
            simp only [ob_sn]
            rw [co]
            simp only [ob_sn]
            rw [t1]
            simp only [ob_sn]
            rw [r1]
            refine ⟨S5, rfl, fq5, go _ S5 fq5 (Or.inr trivial) (iT_off z1 (fun c hc => r3 c (by omega) (by omega))) c5 ?_ ?_ z5 ?_⟩
            · rw [r3 11 (by omega) (by omega)]
              exact z3
            · rw [r3 11 (by omega) (by omega)]
              exact z4
            · rw [r3 47 (by omega) (by omega)]
              exact z6
      obtain ⟨S3, t1, t2, t3⟩ := body
      obtain ⟨S', u1, u2, u3⟩ := try_L2 hT hl ih hp hd hB he j n (i + 1) _ S3 (by omega) (by omega) t3
      rw [qk_r (by omega) (by omega), s3, qk_r (by omega) (by omega), if_neg (show ¬ (l.length : Int) ≤ (i : Int) by omega), hbit, qk_r (by omega) (by omega), if_pos rfl, qk_ix (by omega) (by omega), qk_ix (by omega) (by omega), Int.toNat_natCast, t1]
      exact ⟨S', u1, fQ_tr t2 u2, u3⟩
theorem try_n2 {Y0 : qY} {l : List Nat} (hT : bT T) (hl : lOK T Y0 l) (ih : tOK T lev Y0 l 3 FirstFour_tryFrom_n3) : tOK T lev Y0 l 2 FirstFour_tryFrom_n2 := fun tk pre a b S hp hd hB he hS => by
  obtain ⟨s1, s2, s3, ⟨s4, s4'⟩, ⟨⟨b1, b2⟩, b3, b4⟩, -, -, -⟩ := id hS
  obtain ⟨-, -, -, -, e5, e6⟩ := id he
  have hl4 := hl.1
  have inner : (a.2.1 < b.1 ∨ (a.2.1 = b.1 ∧ a.2.2 < b.2.1)) → ∃ S', (if (l.length : Int) ≤ 2 then some (qua (qup (qup S 11 5 a.2.1) 11 6 a.2.2) 47 (qcpy (qup (qup S 11 5 a.2.1) 11 6 a.2.2) 49 47 0 0 4)) else (Option.bind (FirstFour_tryFrom_n2_L68 qF tk a.2.1 a.2.2 0 S) (fun q1514 => some q1514))) = some S' ∧ fQ 2 S S' ∧ tS T lev Y0 l pre a ((pmT l.length (l.length - 2) tk).foldl (fUp T lev l a pre) b) S' := fun hb => by
    by_cases g : (l.length : Int) ≤ 2
    · rw [if_pos g]
      have z := t_leaf (tk := tk) hl (by omega) he hS hb hp
      exact ⟨_, rfl, z.1, z.2⟩
    · rw [if_neg g]
      obtain ⟨S', t1, t2, t3⟩ := try_L2 hT hl ih hp (by omega) hB he l.length qF 0 b S (by omega) (by unfold qF; omega) hS
      have t1' : FirstFour_tryFrom_n2_L68 qF tk a.2.1 a.2.2 0 S = some S' := t1
      rw [t1']
      refine ⟨S', rfl, t2, ?_⟩
      have e : l.length - 2 = (l.length - 3) + 1 := by omega
      rw [e, fold_pm]
      exact t3
  rw [FirstFour_tryFrom_n2]
  simp (disch := omega) only [qk_r, s3, s4, s4']
  by_cases g : b.1 < a.2.1
  · rw [if_pos g, prune hT hl (Or.inl g)]
    exact ⟨S, rfl, fQ_rfl, hS⟩
  · rw [if_neg g]
    by_cases g2 : a.2.1 = b.1
    · rw [if_pos g2]
      by_cases g3 : a.2.2 < b.2.1
      · rw [if_pos g3]
        exact inner (Or.inr ⟨g2, g3⟩)
      · rw [if_neg g3, prune hT hl (Or.inr ⟨g2, by omega⟩)]
        exact ⟨S, rfl, fQ_rfl, hS⟩
    · rw [if_neg g2]
      exact inner (Or.inl (by omega))
theorem try_L1 {Y0 : qY} {l : List Nat} (hT : bT T) (hl : lOK T Y0 l) (ih : tOK T lev Y0 l 2 FirstFour_tryFrom_n2) {tk : Int} {pre : List Nat} {a : qY × Int × Int} (hp : pre.length = 1) (hd : 1 < l.length) (hB : tB tk pre) (he : sE T lev Y0 l pre a) : ∀ (j n i : Nat) (b : Int × Int × List Nat) (S : qSto), i + j = l.length → j < n → tS T lev Y0 l pre a b S → ∃ S', FirstFour_tryFrom_n1_L68 n tk a.2.1 a.2.2 (i : Int) S = some S' ∧ fQ 1 S S' ∧ tS T lev Y0 l pre a ((List.range' i j).foldl (fun b (i : Nat) => if qb_iand (qb_ishr tk (i : Int)) 1 = 0 then (pmT l.length (l.length - 2) (qb_ior tk (qb_ishl 1 (i : Int)))).foldl (fUp T lev l (fStep T lev l a i) (pre ++ [i])) b else b) b) S'
  | 0, n + 1, i, b, S, e, _, hS => by
    have hl4 := hl.1
    rw [FirstFour_tryFrom_n1_L68]
    simp (disch := omega) only [qk_r, hS.2.2.1, if_pos (show (l.length : Int) ≤ (i : Int) by omega)]
    exact ⟨S, rfl, fQ_rfl, hS⟩
  | j + 1, n + 1, i, b, S, e, hn, hS => by
    have hl4 := hl.1
    have hi : i < l.length := by omega
    obtain ⟨s1, s2, s3, ⟨s4, s4'⟩, s5, s6, s7, s8⟩ := id hS
    obtain ⟨f1, f2, f3⟩ := s7 i hi
    obtain ⟨e1, e2, e3, e4, e5, e6⟩ := id he
    have hs := hl.2.2.1 _ (getD_mem hi)
    have b9 := bT_n hT
    have hbit := hB.2 i (by omega)
    rw [List.range'_succ, List.foldl_cons]
    rw [FirstFour_tryFrom_n1_L68]
    by_cases g : i ∈ pre
    · rw [if_pos g] at hbit
      obtain ⟨S', t1, t2, t3⟩ := try_L1 hT hl ih hp hd hB he j n (i + 1) b S (by omega) (by omega) hS
      simp (disch := omega) only [qk_r, s3, if_neg (show ¬ (l.length : Int) ≤ (i : Int) by omega), hbit, if_neg (show ¬ (1 : Int) = 0 by omega), ob_some]
      exact ⟨S', t1, t2, t3⟩
    · rw [if_neg g] at hbit
      have h0 := e4 i hi g
      rw [if_pos hbit]
      -- the trial's next place
      have o1 : ∀ c, c ≠ 49 → (qup S 49 1 (S 48 i)) c = S c := fun c hc => qup_off hc
      have o2 : ∀ u, (qup S 49 1 (S 48 i)) 49 u = if u = 1 then S 48 i else S 49 u := fun u => by rw [qup_on]
      have q1 : fQ 1 S (qup S 49 1 (S 48 i)) := ⟨fun c hc => o1 c (by omega), fun u _ _ => by rw [o1 11 (by omega)], fun u hu => by rw [o2, if_neg (by omega)]⟩
      have p49 : ∀ u, u < (pre ++ [i]).length → (qup S 49 1 (S 48 i)) 49 u = (l.getD ((pre ++ [i]).getD u 0) 0 : Nat) := fun u hu => by
        have hu' : u < pre.length + 1 := by simpa using hu
        rw [o2]
        by_cases w : u = 1
        · rw [if_pos w, f1, w, List.getD_eq_getElem?_getD (l := pre ++ [i]), List.getElem?_append_right (by omega)]
          simp [hp]
        · rw [if_neg w, s8 u (by omega), List.getD_eq_getElem?_getD (l := pre ++ [i]), List.getElem?_append_left (by omega), ← List.getD_eq_getElem?_getD]
      have hI1 : iT (qup S 49 1 (S 48 i)) T lev := iT_off s1 (fun c hc => o1 c (by omega))
      have hc1 : cY (qup S 49 1 (S 48 i)) T lev a.1 := cY_off s2 (fun c hc => o1 c (by omega))
      have x50 : (qup S 49 1 (S 48 i)) 50 i = S 50 i := by rw [o1 50 (by omega)]
      have x48 : S 48 i = ((l.getD i 0 : Nat) : Int) := f1
      have d := fd_or s1 e1 s2 hs h0
      have hst := sE_step hT hl he hi g d
      have hBt := tB_step hB (show i < 4 by omega)
      have mk : ∀ S2, iT S2 T lev → (∀ c, c = 11 ∨ (47 ≤ c ∧ c ≤ 50) → S2 c = (qup S 49 1 (S 48 i)) c) → cY S2 T lev (fStep T lev l a i).1 → tS T lev Y0 l (pre ++ [i]) (fStep T lev l a i) b S2 := fun S2 hI2 hf hc2 => by
        refine ⟨hI2, hc2, ?_, ?_, s5, fun u hu => ?_, fun u hu => ?_, fun u hu => ?_⟩
        · rw [hf 11 (by omega), o1 11 (by omega)]
          exact s3
        · rw [hf 11 (by omega), o1 11 (by omega)]
          exact ⟨s4, s4'⟩
        · rw [hf 47 (by omega), o1 47 (by omega)]
          exact s6 u hu
        · rw [hf 48 (by omega), hf 50 (by omega), o1 48 (by omega), o1 50 (by omega)]
          exact s7 u hu
        · rw [hf 49 (by omega)]
          exact p49 u hu
      have hlen : (pre ++ [i]).length = 2 := by simp [hp]
      -- going on behind it
      have go : ∀ b1 S5, fQ 1 S S5 → tS T lev Y0 l (pre ++ [i]) (fStep T lev l a i) b1 S5 ∨ True → iT S5 T lev → cY S5 T lev a.1 → S5 11 4 = l.length → (S5 11 5 = b1.1 ∧ S5 11 6 = b1.2.1) → ((0 ≤ b1.1 ∧ b1.1 ≤ 5) ∧ (0 ≤ b1.2.1 ∧ b1.2.1 ≤ 20000)) → (∀ i, i < b1.2.2.length → S5 47 i = (l.getD (b1.2.2.getD i 0) 0 : Nat)) → tS T lev Y0 l pre a b1 S5 := fun b1 S5 hq _ hI5 hc5 z3 z4 z5 z6 => by
        refine ⟨hI5, hc5, z3, z4, z5, z6, fun u hu => ?_, fun u hu => ?_⟩
        · rw [hq.1 48 (by omega), hq.1 50 (by omega)]
          exact s7 u hu
        · rw [hq.2.2 u (by omega)]
          exact s8 u hu
      -- no place: left out
      have out : ∀ S2, fC (qup S 49 1 (S 48 i)) S2 → cY S2 T lev a.1 → fdN1 T lev a.1 (l.getD i 0) → ∃ S3, FirstFour_tryFrom_n2 (qb_ior tk (qb_ishl 1 (i : Int))) (a.2.1 + 1) a.2.2 S2 = some S3 ∧ fQ 1 S S3 ∧ tS T lev Y0 l pre a ((pmT l.length (l.length - 2) (qb_ior tk (qb_ishl 1 (i : Int)))).foldl (fUp T lev l (fStep T lev l a i) (pre ++ [i])) b) S3 := fun S2 hf hc2 hN => by
        have fs : fStep T lev l a i = (a.1, a.2.1 + 1, a.2.2) := by
          unfold fStep
          rw [sB_N hN, if_neg (by omega)]
        have hI2 := fC_iT hI1 hf
        obtain ⟨S3, t1, t2, t3⟩ := ih _ _ _ b S2 hlen (by omega) hBt hst (mk S2 hI2 (fun c hc => hf c (by omega)) (by rw [fs]; exact hc2))
        have fq : fQ 1 S S3 := fQ_tr (fQ_tr q1 (fC_Q hf)) (fQ_le t2 (by omega))
        rw [fs] at t1
        refine ⟨S3, t1, fq, ?_⟩
        obtain ⟨z1, z2, z3, z4, z5, z6, -, -⟩ := t3
        rw [fs] at z2
        exact go _ S3 fq (Or.inr trivial) z1 z2 z3 z4 z5 z6
      have body : ∃ S3, (qk (qRb ((qup S 49 1 (S 48 i)) 50 i)) (if ((qup S 49 1 (S 48 i)) 50 i) = 0 then (Option.bind (FirstFour_tryFrom_n2 (qb_ior tk (qb_ishl 1 (i : Int))) (a.2.1 + 1) a.2.2 (qup S 49 1 (S 48 i))) (fun q1489 => some q1489)) else (Option.bind (Told_contractOf (S 48 i) 8 (qup S 49 1 (S 48 i))) (fun q1491 => Option.bind (Told_contractOf (S 48 i) 7 q1491.2) (fun q1493 => Option.bind (Search_find (S 48 i) q1491.1 q1493.1 q1493.2) (fun q1495 => qk (qRb q1495.1) (if q1495.1 = 0 then (Option.bind (FirstFour_tryFrom_n2 (qb_ior tk (qb_ishl 1 (i : Int))) (a.2.1 + 1) a.2.2 q1495.2) (fun q1498 => some q1498)) else (Option.bind (Stays_lay (S 48 i) (q1495.2 9 5) (q1495.2 9 6) (q1495.2 9 7) q1495.2) (fun q1500 => Option.bind (Stays_costOf (S 48 i) q1500) (fun q1502 => Option.bind (FirstFour_tryFrom_n2 (qb_ior tk (qb_ishl 1 (i : Int))) a.2.1 (a.2.2 + q1502.1) q1502.2) (fun q1504 => Option.bind (Stays_lift (S 48 i) q1504) (fun q1506 => some q1506)))))))))))) = some S3 ∧ fQ 1 S S3 ∧ tS T lev Y0 l pre a ((pmT l.length (l.length - 2) (qb_ior tk (qb_ishl 1 (i : Int)))).foldl (fUp T lev l (fStep T lev l a i) (pre ++ [i])) b) S3 := by
        rw [x50]
        rcases f2 with w | w
        · rw [w, qk_r (by omega) (by omega), if_pos rfl]
          obtain ⟨S3, t1, t2, t3⟩ := out _ fC_rfl hc1 (fdN_le hT hs e3 (fun s => (e1.1 s).1) (f3 w))
          rw [t1]
          exact ⟨S3, rfl, t2, t3⟩
        · rw [w, qk_r (by omega) (by omega), if_neg (by omega), x48]
          rw [x48] at hI1 hc1
          have cn := bT_con hT hs
          have c8 := Told_contractOf_s hI1 hs (w := 8) (by omega)
          have c7 := Told_contractOf_s hI1 hs (w := 7) (by omega)
          obtain ⟨r, S2, v1, v2, v3, v4⟩ := find_s hI1 e1 hc1 hs h0 (most := sCon T (l.getD i 0) 8) (least := sCon T (l.getD i 0) 7) (by omega) (by omega) (by omega)
          have c8' : Told_contractOf ((l.getD i 0 : Nat) : Int) 8 (qup S 49 1 ((l.getD i 0 : Nat) : Int)) = _ := c8
          have c7' : Told_contractOf ((l.getD i 0 : Nat) : Int) 7 (qup S 49 1 ((l.getD i 0 : Nat) : Int)) = _ := c7
          rw [c8']
          simp only [ob_sn]
          rw [c7']
          simp only [ob_sn]
          rw [v1]
          simp only [ob_sn]
          have hf2 : fC (qup S 49 1 (S 48 i)) S2 := by
            rw [x48]
            exact fF_C v3
          rcases v4 with ⟨y1, y2⟩ | ⟨y1, k, t, x, y2, y3, y4, y5, y6⟩
          · rw [y1, qk_r (by omega) (by omega), if_pos rfl]
            obtain ⟨S3, t1, t2, t3⟩ := out S2 hf2 v2 y2
            rw [t1]
            exact ⟨S3, rfl, t2, t3⟩
          · obtain ⟨ok, -⟩ := fd_ok hT hs y2
            have ob := okS_b hT hs ok
            have hI2 : iT S2 T lev := iT_off s1 (fun c hc => by rw [hf2 c (by omega), o1 c (by omega)])
            obtain ⟨S3, w1, w2, w3⟩ := Stays_lay_s hI2 v2 hs h0 ok
            have hI3 : iT S3 T lev := iT_off hI2 (fun c hc => w3 c (by omega))
            have eB : yB T lev a.1 (l.getD i 0) = yP a.1 (l.getD i 0) x t k := yB_S y2
            have bB : bY T lev (yP a.1 (l.getD i 0) x t k) := bY_put hT e1 hs (Or.inr ok)
            have kk : (yP a.1 (l.getD i 0) x t k).2.2 (l.getD i 0) = k := if_pos rfl
            have co := Stays_costOf_s hI3 bB w2 hs (by rw [kk]; omega)
            have fs : fStep T lev l a i = (yP a.1 (l.getD i 0) x t k, a.2.1, a.2.2 + sCost T lev (yP a.1 (l.getD i 0) x t k) (l.getD i 0)) := by
              unfold fStep
              rw [sB_S y2, if_pos rfl, eB]
            obtain ⟨S4, t1, t2, t3⟩ := ih _ _ _ b S3 hlen (by omega) hBt hst (mk S3 hI3 (fun c hc => by rw [w3 c (by omega), hf2 c (by omega)]) (by rw [fs]; exact w2))
            rw [fs] at t1
            obtain ⟨z1, z2, z3, z4, z5, z6, -, -⟩ := t3
            rw [fs] at z2
            have fq4 : fQ 1 S S4 := fQ_tr (fQ_tr (fQ_tr q1 (fC_Q hf2)) (fC_Q (fY_C w3))) (fQ_le t2 (by omega))
            obtain ⟨S5, r1, r2, r3⟩ := Stays_lift_s z1 bB z2 hs (by rw [kk]; omega)
            have fq5 : fQ 1 S S5 := fQ_tr fq4 (fC_Q (fun c hc => r3 c (by omega) (by omega)))
            have c5 : cY S5 T lev a.1 := by
              have e : yX (yP a.1 (l.getD i 0) x t k) (l.getD i 0) = yX a.1 (l.getD i 0) := yP_yP
              rw [e] at r2
              exact cY_cong (yE_symm (yE_x h0)) r2
            rw [y1, qk_r (by omega) (by omega), if_neg (by omega), y3, y4, y5, w1]
            simp only [ob_sn]
            rw [co]
            simp only [ob_sn]
            rw [t1]
            simp only [ob_sn]
            rw [r1]
            refine ⟨S5, rfl, fq5, go _ S5 fq5 (Or.inr trivial) (iT_off z1 (fun c hc => r3 c (by omega) (by omega))) c5 ?_ ?_ z5 ?_⟩
            · rw [r3 11 (by omega) (by omega)]
              exact z3
            · rw [r3 11 (by omega) (by omega)]
              exact z4
            · rw [r3 47 (by omega) (by omega)]
              exact z6
      obtain ⟨S3, t1, t2, t3⟩ := body
      obtain ⟨S', u1, u2, u3⟩ := try_L1 hT hl ih hp hd hB he j n (i + 1) _ S3 (by omega) (by omega) t3
      rw [qk_r (by omega) (by omega), s3, qk_r (by omega) (by omega), if_neg (show ¬ (l.length : Int) ≤ (i : Int) by omega), hbit, qk_r (by omega) (by omega), if_pos rfl, qk_ix (by omega) (by omega), qk_ix (by omega) (by omega), Int.toNat_natCast, t1]
      exact ⟨S', u1, fQ_tr t2 u2, u3⟩
theorem try_n1 {Y0 : qY} {l : List Nat} (hT : bT T) (hl : lOK T Y0 l) (ih : tOK T lev Y0 l 2 FirstFour_tryFrom_n2) : tOK T lev Y0 l 1 FirstFour_tryFrom_n1 := fun tk pre a b S hp hd hB he hS => by
  obtain ⟨s1, s2, s3, ⟨s4, s4'⟩, ⟨⟨b1, b2⟩, b3, b4⟩, -, -, -⟩ := id hS
  obtain ⟨-, -, -, -, e5, e6⟩ := id he
  have hl4 := hl.1
  have inner : (a.2.1 < b.1 ∨ (a.2.1 = b.1 ∧ a.2.2 < b.2.1)) → ∃ S', (if (l.length : Int) ≤ 1 then some (qua (qup (qup S 11 5 a.2.1) 11 6 a.2.2) 47 (qcpy (qup (qup S 11 5 a.2.1) 11 6 a.2.2) 49 47 0 0 4)) else (Option.bind (FirstFour_tryFrom_n1_L68 qF tk a.2.1 a.2.2 0 S) (fun q1514 => some q1514))) = some S' ∧ fQ 1 S S' ∧ tS T lev Y0 l pre a ((pmT l.length (l.length - 1) tk).foldl (fUp T lev l a pre) b) S' := fun hb => by
    by_cases g : (l.length : Int) ≤ 1
    · rw [if_pos g]
      have z := t_leaf (tk := tk) hl (by omega) he hS hb hp
      exact ⟨_, rfl, z.1, z.2⟩
    · rw [if_neg g]
      obtain ⟨S', t1, t2, t3⟩ := try_L1 hT hl ih hp (by omega) hB he l.length qF 0 b S (by omega) (by unfold qF; omega) hS
      have t1' : FirstFour_tryFrom_n1_L68 qF tk a.2.1 a.2.2 0 S = some S' := t1
      rw [t1']
      refine ⟨S', rfl, t2, ?_⟩
      have e : l.length - 1 = (l.length - 2) + 1 := by omega
      rw [e, fold_pm]
      exact t3
  rw [FirstFour_tryFrom_n1]
  simp (disch := omega) only [qk_r, s3, s4, s4']
  by_cases g : b.1 < a.2.1
  · rw [if_pos g, prune hT hl (Or.inl g)]
    exact ⟨S, rfl, fQ_rfl, hS⟩
  · rw [if_neg g]
    by_cases g2 : a.2.1 = b.1
    · rw [if_pos g2]
      by_cases g3 : a.2.2 < b.2.1
      · rw [if_pos g3]
        exact inner (Or.inr ⟨g2, g3⟩)
      · rw [if_neg g3, prune hT hl (Or.inr ⟨g2, by omega⟩)]
        exact ⟨S, rfl, fQ_rfl, hS⟩
    · rw [if_neg g2]
      exact inner (Or.inl (by omega))
theorem try_L0 {Y0 : qY} {l : List Nat} (hT : bT T) (hl : lOK T Y0 l) (ih : tOK T lev Y0 l 1 FirstFour_tryFrom_n1) {tk : Int} {pre : List Nat} {a : qY × Int × Int} (hp : pre.length = 0) (hd : 0 < l.length) (hB : tB tk pre) (he : sE T lev Y0 l pre a) : ∀ (j n i : Nat) (b : Int × Int × List Nat) (S : qSto), i + j = l.length → j < n → tS T lev Y0 l pre a b S → ∃ S', FirstFour_tryFrom_n0_L68 n tk a.2.1 a.2.2 (i : Int) S = some S' ∧ fQ 0 S S' ∧ tS T lev Y0 l pre a ((List.range' i j).foldl (fun b (i : Nat) => if qb_iand (qb_ishr tk (i : Int)) 1 = 0 then (pmT l.length (l.length - 1) (qb_ior tk (qb_ishl 1 (i : Int)))).foldl (fUp T lev l (fStep T lev l a i) (pre ++ [i])) b else b) b) S'
  | 0, n + 1, i, b, S, e, _, hS => by
    have hl4 := hl.1
    rw [FirstFour_tryFrom_n0_L68]
    simp (disch := omega) only [qk_r, hS.2.2.1, if_pos (show (l.length : Int) ≤ (i : Int) by omega)]
    exact ⟨S, rfl, fQ_rfl, hS⟩
  | j + 1, n + 1, i, b, S, e, hn, hS => by
    have hl4 := hl.1
    have hi : i < l.length := by omega
    obtain ⟨s1, s2, s3, ⟨s4, s4'⟩, s5, s6, s7, s8⟩ := id hS
    obtain ⟨f1, f2, f3⟩ := s7 i hi
    obtain ⟨e1, e2, e3, e4, e5, e6⟩ := id he
    have hs := hl.2.2.1 _ (getD_mem hi)
    have b9 := bT_n hT
    have hbit := hB.2 i (by omega)
    rw [List.range'_succ, List.foldl_cons]
    rw [FirstFour_tryFrom_n0_L68]
    by_cases g : i ∈ pre
    · rw [if_pos g] at hbit
      obtain ⟨S', t1, t2, t3⟩ := try_L0 hT hl ih hp hd hB he j n (i + 1) b S (by omega) (by omega) hS
      simp (disch := omega) only [qk_r, s3, if_neg (show ¬ (l.length : Int) ≤ (i : Int) by omega), hbit, if_neg (show ¬ (1 : Int) = 0 by omega), ob_some]
      exact ⟨S', t1, t2, t3⟩
    · rw [if_neg g] at hbit
      have h0 := e4 i hi g
      rw [if_pos hbit]
      -- the trial's next place
      have o1 : ∀ c, c ≠ 49 → (qup S 49 0 (S 48 i)) c = S c := fun c hc => qup_off hc
      have o2 : ∀ u, (qup S 49 0 (S 48 i)) 49 u = if u = 0 then S 48 i else S 49 u := fun u => by rw [qup_on]
      have q1 : fQ 0 S (qup S 49 0 (S 48 i)) := ⟨fun c hc => o1 c (by omega), fun u _ _ => by rw [o1 11 (by omega)], fun u hu => by rw [o2, if_neg (by omega)]⟩
      have p49 : ∀ u, u < (pre ++ [i]).length → (qup S 49 0 (S 48 i)) 49 u = (l.getD ((pre ++ [i]).getD u 0) 0 : Nat) := fun u hu => by
        have hu' : u < pre.length + 1 := by simpa using hu
        rw [o2]
        by_cases w : u = 0
        · rw [if_pos w, f1, w, List.getD_eq_getElem?_getD (l := pre ++ [i]), List.getElem?_append_right (by omega)]
          simp [hp]
        · rw [if_neg w, s8 u (by omega), List.getD_eq_getElem?_getD (l := pre ++ [i]), List.getElem?_append_left (by omega), ← List.getD_eq_getElem?_getD]
      have hI1 : iT (qup S 49 0 (S 48 i)) T lev := iT_off s1 (fun c hc => o1 c (by omega))
      have hc1 : cY (qup S 49 0 (S 48 i)) T lev a.1 := cY_off s2 (fun c hc => o1 c (by omega))
      have x50 : (qup S 49 0 (S 48 i)) 50 i = S 50 i := by rw [o1 50 (by omega)]
      have x48 : S 48 i = ((l.getD i 0 : Nat) : Int) := f1
      have d := fd_or s1 e1 s2 hs h0
      have hst := sE_step hT hl he hi g d
      have hBt := tB_step hB (show i < 4 by omega)
      have mk : ∀ S2, iT S2 T lev → (∀ c, c = 11 ∨ (47 ≤ c ∧ c ≤ 50) → S2 c = (qup S 49 0 (S 48 i)) c) → cY S2 T lev (fStep T lev l a i).1 → tS T lev Y0 l (pre ++ [i]) (fStep T lev l a i) b S2 := fun S2 hI2 hf hc2 => by
        refine ⟨hI2, hc2, ?_, ?_, s5, fun u hu => ?_, fun u hu => ?_, fun u hu => ?_⟩
        · rw [hf 11 (by omega), o1 11 (by omega)]
          exact s3
        · rw [hf 11 (by omega), o1 11 (by omega)]
          exact ⟨s4, s4'⟩
        · rw [hf 47 (by omega), o1 47 (by omega)]
          exact s6 u hu
        · rw [hf 48 (by omega), hf 50 (by omega), o1 48 (by omega), o1 50 (by omega)]
          exact s7 u hu
        · rw [hf 49 (by omega)]
          exact p49 u hu
      have hlen : (pre ++ [i]).length = 1 := by simp [hp]
      -- going on behind it
      have go : ∀ b1 S5, fQ 0 S S5 → tS T lev Y0 l (pre ++ [i]) (fStep T lev l a i) b1 S5 ∨ True → iT S5 T lev → cY S5 T lev a.1 → S5 11 4 = l.length → (S5 11 5 = b1.1 ∧ S5 11 6 = b1.2.1) → ((0 ≤ b1.1 ∧ b1.1 ≤ 5) ∧ (0 ≤ b1.2.1 ∧ b1.2.1 ≤ 20000)) → (∀ i, i < b1.2.2.length → S5 47 i = (l.getD (b1.2.2.getD i 0) 0 : Nat)) → tS T lev Y0 l pre a b1 S5 := fun b1 S5 hq _ hI5 hc5 z3 z4 z5 z6 => by
        refine ⟨hI5, hc5, z3, z4, z5, z6, fun u hu => ?_, fun u hu => ?_⟩
        · rw [hq.1 48 (by omega), hq.1 50 (by omega)]
          exact s7 u hu
        · rw [hq.2.2 u (by omega)]
          exact s8 u hu
      -- no place: left out
      have out : ∀ S2, fC (qup S 49 0 (S 48 i)) S2 → cY S2 T lev a.1 → fdN1 T lev a.1 (l.getD i 0) → ∃ S3, FirstFour_tryFrom_n1 (qb_ior tk (qb_ishl 1 (i : Int))) (a.2.1 + 1) a.2.2 S2 = some S3 ∧ fQ 0 S S3 ∧ tS T lev Y0 l pre a ((pmT l.length (l.length - 1) (qb_ior tk (qb_ishl 1 (i : Int)))).foldl (fUp T lev l (fStep T lev l a i) (pre ++ [i])) b) S3 := fun S2 hf hc2 hN => by
        have fs : fStep T lev l a i = (a.1, a.2.1 + 1, a.2.2) := by
          unfold fStep
          rw [sB_N hN, if_neg (by omega)]
        have hI2 := fC_iT hI1 hf
        obtain ⟨S3, t1, t2, t3⟩ := ih _ _ _ b S2 hlen (by omega) hBt hst (mk S2 hI2 (fun c hc => hf c (by omega)) (by rw [fs]; exact hc2))
        have fq : fQ 0 S S3 := fQ_tr (fQ_tr q1 (fC_Q hf)) (fQ_le t2 (by omega))
        rw [fs] at t1
        refine ⟨S3, t1, fq, ?_⟩
        obtain ⟨z1, z2, z3, z4, z5, z6, -, -⟩ := t3
        rw [fs] at z2
        exact go _ S3 fq (Or.inr trivial) z1 z2 z3 z4 z5 z6
      have body : ∃ S3, (qk (qRb ((qup S 49 0 (S 48 i)) 50 i)) (if ((qup S 49 0 (S 48 i)) 50 i) = 0 then (Option.bind (FirstFour_tryFrom_n1 (qb_ior tk (qb_ishl 1 (i : Int))) (a.2.1 + 1) a.2.2 (qup S 49 0 (S 48 i))) (fun q1489 => some q1489)) else (Option.bind (Told_contractOf (S 48 i) 8 (qup S 49 0 (S 48 i))) (fun q1491 => Option.bind (Told_contractOf (S 48 i) 7 q1491.2) (fun q1493 => Option.bind (Search_find (S 48 i) q1491.1 q1493.1 q1493.2) (fun q1495 => qk (qRb q1495.1) (if q1495.1 = 0 then (Option.bind (FirstFour_tryFrom_n1 (qb_ior tk (qb_ishl 1 (i : Int))) (a.2.1 + 1) a.2.2 q1495.2) (fun q1498 => some q1498)) else (Option.bind (Stays_lay (S 48 i) (q1495.2 9 5) (q1495.2 9 6) (q1495.2 9 7) q1495.2) (fun q1500 => Option.bind (Stays_costOf (S 48 i) q1500) (fun q1502 => Option.bind (FirstFour_tryFrom_n1 (qb_ior tk (qb_ishl 1 (i : Int))) a.2.1 (a.2.2 + q1502.1) q1502.2) (fun q1504 => Option.bind (Stays_lift (S 48 i) q1504) (fun q1506 => some q1506)))))))))))) = some S3 ∧ fQ 0 S S3 ∧ tS T lev Y0 l pre a ((pmT l.length (l.length - 1) (qb_ior tk (qb_ishl 1 (i : Int)))).foldl (fUp T lev l (fStep T lev l a i) (pre ++ [i])) b) S3 := by
        rw [x50]
        rcases f2 with w | w
        · rw [w, qk_r (by omega) (by omega), if_pos rfl]
          obtain ⟨S3, t1, t2, t3⟩ := out _ fC_rfl hc1 (fdN_le hT hs e3 (fun s => (e1.1 s).1) (f3 w))
          rw [t1]
          exact ⟨S3, rfl, t2, t3⟩
        · rw [w, qk_r (by omega) (by omega), if_neg (by omega), x48]
          rw [x48] at hI1 hc1
          have cn := bT_con hT hs
          have c8 := Told_contractOf_s hI1 hs (w := 8) (by omega)
          have c7 := Told_contractOf_s hI1 hs (w := 7) (by omega)
          obtain ⟨r, S2, v1, v2, v3, v4⟩ := find_s hI1 e1 hc1 hs h0 (most := sCon T (l.getD i 0) 8) (least := sCon T (l.getD i 0) 7) (by omega) (by omega) (by omega)
          have c8' : Told_contractOf ((l.getD i 0 : Nat) : Int) 8 (qup S 49 0 ((l.getD i 0 : Nat) : Int)) = _ := c8
          have c7' : Told_contractOf ((l.getD i 0 : Nat) : Int) 7 (qup S 49 0 ((l.getD i 0 : Nat) : Int)) = _ := c7
          rw [c8']
          simp only [ob_sn]
          rw [c7']
          simp only [ob_sn]
          rw [v1]
          simp only [ob_sn]
          have hf2 : fC (qup S 49 0 (S 48 i)) S2 := by
            rw [x48]
            exact fF_C v3
          rcases v4 with ⟨y1, y2⟩ | ⟨y1, k, t, x, y2, y3, y4, y5, y6⟩
          · rw [y1, qk_r (by omega) (by omega), if_pos rfl]
            obtain ⟨S3, t1, t2, t3⟩ := out S2 hf2 v2 y2
            rw [t1]
            exact ⟨S3, rfl, t2, t3⟩
          · obtain ⟨ok, -⟩ := fd_ok hT hs y2
            have ob := okS_b hT hs ok
            have hI2 : iT S2 T lev := iT_off s1 (fun c hc => by rw [hf2 c (by omega), o1 c (by omega)])
            obtain ⟨S3, w1, w2, w3⟩ := Stays_lay_s hI2 v2 hs h0 ok
            have hI3 : iT S3 T lev := iT_off hI2 (fun c hc => w3 c (by omega))
            have eB : yB T lev a.1 (l.getD i 0) = yP a.1 (l.getD i 0) x t k := yB_S y2
            have bB : bY T lev (yP a.1 (l.getD i 0) x t k) := bY_put hT e1 hs (Or.inr ok)
            have kk : (yP a.1 (l.getD i 0) x t k).2.2 (l.getD i 0) = k := if_pos rfl
            have co := Stays_costOf_s hI3 bB w2 hs (by rw [kk]; omega)
            have fs : fStep T lev l a i = (yP a.1 (l.getD i 0) x t k, a.2.1, a.2.2 + sCost T lev (yP a.1 (l.getD i 0) x t k) (l.getD i 0)) := by
              unfold fStep
              rw [sB_S y2, if_pos rfl, eB]
            obtain ⟨S4, t1, t2, t3⟩ := ih _ _ _ b S3 hlen (by omega) hBt hst (mk S3 hI3 (fun c hc => by rw [w3 c (by omega), hf2 c (by omega)]) (by rw [fs]; exact w2))
            rw [fs] at t1
            obtain ⟨z1, z2, z3, z4, z5, z6, -, -⟩ := t3
            rw [fs] at z2
            have fq4 : fQ 0 S S4 := fQ_tr (fQ_tr (fQ_tr q1 (fC_Q hf2)) (fC_Q (fY_C w3))) (fQ_le t2 (by omega))
            obtain ⟨S5, r1, r2, r3⟩ := Stays_lift_s z1 bB z2 hs (by rw [kk]; omega)
            have fq5 : fQ 0 S S5 := fQ_tr fq4 (fC_Q (fun c hc => r3 c (by omega) (by omega)))
            have c5 : cY S5 T lev a.1 := by
              have e : yX (yP a.1 (l.getD i 0) x t k) (l.getD i 0) = yX a.1 (l.getD i 0) := yP_yP
              rw [e] at r2
              exact cY_cong (yE_symm (yE_x h0)) r2
            rw [y1, qk_r (by omega) (by omega), if_neg (by omega), y3, y4, y5, w1]
            simp only [ob_sn]
            rw [co]
            simp only [ob_sn]
            rw [t1]
            simp only [ob_sn]
            rw [r1]
            refine ⟨S5, rfl, fq5, go _ S5 fq5 (Or.inr trivial) (iT_off z1 (fun c hc => r3 c (by omega) (by omega))) c5 ?_ ?_ z5 ?_⟩
            · rw [r3 11 (by omega) (by omega)]
              exact z3
            · rw [r3 11 (by omega) (by omega)]
              exact z4
            · rw [r3 47 (by omega) (by omega)]
              exact z6
      obtain ⟨S3, t1, t2, t3⟩ := body
      obtain ⟨S', u1, u2, u3⟩ := try_L0 hT hl ih hp hd hB he j n (i + 1) _ S3 (by omega) (by omega) t3
      rw [qk_r (by omega) (by omega), s3, qk_r (by omega) (by omega), if_neg (show ¬ (l.length : Int) ≤ (i : Int) by omega), hbit, qk_r (by omega) (by omega), if_pos rfl, qk_ix (by omega) (by omega), qk_ix (by omega) (by omega), Int.toNat_natCast, t1]
      exact ⟨S', u1, fQ_tr t2 u2, u3⟩
theorem try_n0 {Y0 : qY} {l : List Nat} (hT : bT T) (hl : lOK T Y0 l) (ih : tOK T lev Y0 l 1 FirstFour_tryFrom_n1) : tOK T lev Y0 l 0 FirstFour_tryFrom_n0 := fun tk pre a b S hp hd hB he hS => by
  obtain ⟨s1, s2, s3, ⟨s4, s4'⟩, ⟨⟨b1, b2⟩, b3, b4⟩, -, -, -⟩ := id hS
  obtain ⟨-, -, -, -, e5, e6⟩ := id he
  have hl4 := hl.1
  have inner : (a.2.1 < b.1 ∨ (a.2.1 = b.1 ∧ a.2.2 < b.2.1)) → ∃ S', (if (l.length : Int) ≤ 0 then some (qua (qup (qup S 11 5 a.2.1) 11 6 a.2.2) 47 (qcpy (qup (qup S 11 5 a.2.1) 11 6 a.2.2) 49 47 0 0 4)) else (Option.bind (FirstFour_tryFrom_n0_L68 qF tk a.2.1 a.2.2 0 S) (fun q1514 => some q1514))) = some S' ∧ fQ 0 S S' ∧ tS T lev Y0 l pre a ((pmT l.length (l.length - 0) tk).foldl (fUp T lev l a pre) b) S' := fun hb => by
    by_cases g : (l.length : Int) ≤ 0
    · rw [if_pos g]
      have z := t_leaf (tk := tk) hl (by omega) he hS hb hp
      exact ⟨_, rfl, z.1, z.2⟩
    · rw [if_neg g]
      obtain ⟨S', t1, t2, t3⟩ := try_L0 hT hl ih hp (by omega) hB he l.length qF 0 b S (by omega) (by unfold qF; omega) hS
      have t1' : FirstFour_tryFrom_n0_L68 qF tk a.2.1 a.2.2 0 S = some S' := t1
      rw [t1']
      refine ⟨S', rfl, t2, ?_⟩
      have e : l.length - 0 = (l.length - 1) + 1 := by omega
      rw [e, fold_pm]
      exact t3
  rw [FirstFour_tryFrom_n0]
  simp (disch := omega) only [qk_r, s3, s4, s4']
  by_cases g : b.1 < a.2.1
  · rw [if_pos g, prune hT hl (Or.inl g)]
    exact ⟨S, rfl, fQ_rfl, hS⟩
  · rw [if_neg g]
    by_cases g2 : a.2.1 = b.1
    · rw [if_pos g2]
      by_cases g3 : a.2.2 < b.2.1
      · rw [if_pos g3]
        exact inner (Or.inr ⟨g2, g3⟩)
      · rw [if_neg g3, prune hT hl (Or.inr ⟨g2, by omega⟩)]
        exact ⟨S, rfl, fQ_rfl, hS⟩
    · rw [if_neg g2]
      exact inner (Or.inl (by omega))
end PTR
