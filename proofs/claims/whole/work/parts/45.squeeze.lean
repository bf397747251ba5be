/-! squeeze: ship by ship in the order of the old slots, each as early as it can -/
theorem behind_e {o b i l : Int} : (if b < o then some (1 : Int) else if o = b then (if i ≤ l then some 0 else some 1) else some 0) = some (if b < o ∨ (o = b ∧ l < i) then 1 else 0) := by
  by_cases g : b < o
  · rw [if_pos g, if_pos (Or.inl g)]
  · rw [if_neg g]
    by_cases g2 : o = b
    · rw [if_pos g2]
      by_cases g3 : i ≤ l
      · rw [if_pos g3, if_neg (by omega)]
      · rw [if_neg g3, if_pos (Or.inr ⟨g2, by omega⟩)]
    · rw [if_neg g2, if_neg (by omega)]
/-- behind a slot and a ship -/
abbrev sBd (Y : qY) (bs bn : Int) (x : Nat) : Prop := bs < Y.2.1 x ∨ (Y.2.1 x = bs ∧ bn < (x : Int))
abbrev sPB (Y : qY) (bs bn : Int) (x : Nat) : Prop := 0 < Y.2.2 x ∧ sBd Y bs bn x
section PSQ
variable {T lev : Nat → Int} {Y : qY}
theorem nextBy_L {S : qSto} (hI : iT S T lev) (hB : bY T lev Y) (hg : gR (S 14) Y) {bs bn : Int} (hbs : qR bs) (hbn : qR bn) : ∀ (j n i : Nat), (i : Int) + j = T 9 → j < n → C_nextByOldSlot_L10 n bs bn (sArg (sPB Y bs bn) Y.2.1 i) (if sArg (sPB Y bs bn) Y.2.1 i = -1 then 336 else Y.2.1 (sArg (sPB Y bs bn) Y.2.1 i).toNat) (i : Int) S = some (sArg (sPB Y bs bn) Y.2.1 (sN T), S)
  | 0, n + 1, i, e, _ => by
    have b9 := bT_n hI.1
    have e1 := hI.2.1.2.2.2.2.1
    rw [C_nextByOldSlot_L10]
    simp (disch := omega) only [qk_r, e1, if_pos (show T 9 ≤ (i : Int) by omega)]
    unfold sN
    rw [show (T 9).toNat = i by omega]
  | j + 1, n + 1, i, e, hn => by
    obtain ⟨u1, u2⟩ := id hbs
    obtain ⟨u3, u4⟩ := id hbn
    have b9 := bT_n hI.1
    have e1 := hI.2.1.2.2.2.2.1
    have f1 : ((i : Int) * 3 + 1).toNat = 3 * i + 1 := by omega
    have f2 : ((i : Int) * 3 + 2).toNat = 3 * i + 2 := by omega
    obtain ⟨g1, g2, g3, g4⟩ := hg i (by omega)
    have kb : 0 ≤ Y.2.2 i ∧ Y.2.2 i ≤ 8 := by
      have p0 := (hB.1 i).1
      by_cases q : 0 < Y.2.2 i
      · have := bY_one hI.1 hB (s := i) (by omega) q
        omega
      · omega
    have ih := nextBy_L hI hB hg hbs hbn j n (i + 1) (by omega) (by omega)
    have fi : (((i + 1 : Nat)) : Int) = (i : Int) + 1 := by omega
    rw [fi] at ih
    have xr : -1 ≤ sArg (sPB Y bs bn) Y.2.1 i ∧ sArg (sPB Y bs bn) Y.2.1 i ≤ 14 ∧ qR (if sArg (sPB Y bs bn) Y.2.1 i = -1 then 336 else Y.2.1 (sArg (sPB Y bs bn) Y.2.1 i).toNat) ∧ (if sArg (sPB Y bs bn) Y.2.1 i = -1 then 336 else Y.2.1 (sArg (sPB Y bs bn) Y.2.1 i).toNat) ≤ 336 := by
      rcases sArg_rng (sPB Y bs bn) Y.2.1 i with ea | ⟨s, ea, a1, a2⟩
      · rw [ea, if_pos rfl]
        exact ⟨by omega, by omega, ⟨by omega, by omega⟩, by omega⟩
      · have := bY_one hI.1 hB (s := s) (by omega) a2.1
        rw [ea, if_neg (by omega), Int.toNat_natCast]
        exact ⟨by omega, by omega, ⟨by omega, by omega⟩, by omega⟩
    obtain ⟨x1, x2, ⟨x3, x4⟩, x5⟩ := xr
    rw [C_nextByOldSlot_L10]
    simp (disch := omega) only [qk_r, qk_ix, e1, if_neg (show ¬ T 9 ≤ (i : Int) by omega), f1, f2, behind_e, ob_some, g1, ite01_r, ite01_e]
    by_cases gk : Y.2.2 i ≤ 0
    · rw [if_pos gk]
      simp only [ob_some]
      have es : sArg (sPB Y bs bn) Y.2.1 (i + 1) = sArg (sPB Y bs bn) Y.2.1 i := by
        rw [sArg, cI_f (fun q => by have := q.1; omega)]
      rw [es] at ih
      exact ih
    · obtain ⟨y1, y2⟩ := g2 (by omega)
      have oi := bY_one hI.1 hB (s := i) (by omega) (by omega)
      rw [if_neg gk, y2]
      by_cases gp : sBd Y bs bn i
      · rw [if_pos gp]
        have es : sArg (sPB Y bs bn) Y.2.1 (i + 1) = (if sArg (sPB Y bs bn) Y.2.1 i = -1 then (i : Int) else if Y.2.1 (sArg (sPB Y bs bn) Y.2.1 i).toNat ≤ Y.2.1 i then sArg (sPB Y bs bn) Y.2.1 i else (i : Int)) := by
          rw [sArg, cI_t ⟨by omega, gp⟩]
        rw [es] at ih
        by_cases ga : sArg (sPB Y bs bn) Y.2.1 i = -1
        · simp only [if_pos ga] at ih ⊢
          rw [if_neg (by omega), Int.toNat_natCast] at ih
          rw [if_neg (by omega)]
          exact ih
        · simp only [if_neg ga] at ih ⊢
          by_cases gf : Y.2.1 (sArg (sPB Y bs bn) Y.2.1 i).toNat ≤ Y.2.1 i
          · simp only [if_pos gf, if_neg ga] at ih ⊢
            exact ih
          · simp only [if_neg gf] at ih ⊢
            rw [if_neg (by omega), Int.toNat_natCast] at ih
            exact ih
      · rw [if_neg gp]
        have es : sArg (sPB Y bs bn) Y.2.1 (i + 1) = sArg (sPB Y bs bn) Y.2.1 i := by
          rw [sArg, cI_f (fun q => gp q.2)]
        rw [es] at ih
        exact ih
theorem nextBy_s {S : qSto} (hI : iT S T lev) (hB : bY T lev Y) (hg : gR (S 14) Y) {bs bn : Int} (hbs : qR bs) (hbn : qR bn) : ∃ r, C_nextByOldSlot bs bn S = some (r, S) ∧ oNext (fun s => 0 < Y.2.2 s) (sBd Y bs bn) Y.2.1 (sN T) r := by
  have b9 := bT_n hI.1
  have e := nextBy_L hI hB hg hbs hbn (T 9).toNat qF 0 (by omega) (by unfold qF; omega)
  have e' : C_nextByOldSlot_L10 qF bs bn (-1) 336 0 S = _ := e
  rw [C_nextByOldSlot, e']
  exact ⟨_, rfl, sArg_next⟩
/-- what the reference keeps of the old slots -/
def sWas (S : qSto) (T : Nat → Int) (Y : qY) : Prop := gB S 87 ∧ ∀ s : Nat, (s : Int) < T 9 → 0 < Y.2.2 s → S 87 s = Y.2.1 s
theorem nextOld_L {S : qSto} {Z : qY} (hI : iT S T lev) (hB : bY T lev Y) (hZ : bY T lev Z) (hk : ∀ s, Z.2.2 s = Y.2.2 s) (hm : mY S T lev Z) (hs : sWas S T Y) {bs bn : Int} (hbs : qR bs) (hbn : qR bn) : ∀ (j n i : Nat), (i : Int) + j = T 9 → j < n → M_nextOld_L5 n bs bn (sArg (sPB Y bs bn) Y.2.1 i) (i : Int) S = some (sArg (sPB Y bs bn) Y.2.1 (sN T), S)
  | 0, n + 1, i, e, _ => by
    have b9 := bT_n hI.1
    have e1 := hI.2.2.1 9
    rw [M_nextOld_L5]
    simp (disch := omega) only [qk_r, e1, if_pos (show T 9 ≤ (i : Int) by omega)]
    unfold sN
    rw [show (T 9).toNat = i by omega]
  | j + 1, n + 1, i, e, hn => by
    obtain ⟨u1, u2⟩ := id hbs
    obtain ⟨u3, u4⟩ := id hbn
    have b9 := bT_n hI.1
    have e1 := hI.2.2.1 9
    have bi := hs.1 i (by omega)
    have ih := nextOld_L hI hB hZ hk hm hs hbs hbn j n (i + 1) (by omega) (by omega)
    have fi : (((i + 1 : Nat)) : Int) = (i : Int) + 1 := by omega
    rw [fi] at ih
    have ms := M_stays_s hZ hm hI.1 (s := i) (by omega)
    rw [hk i] at ms
    by_cases gk : 0 < Y.2.2 i
    · have oi := bY_one hI.1 hB (s := i) (by omega) gk
      have e87 := hs.2 i (by omega) gk
      by_cases gp : sBd Y bs bn i
      · have es : sArg (sPB Y bs bn) Y.2.1 (i + 1) = (if sArg (sPB Y bs bn) Y.2.1 i = -1 then (i : Int) else if Y.2.1 (sArg (sPB Y bs bn) Y.2.1 i).toNat ≤ Y.2.1 i then sArg (sPB Y bs bn) Y.2.1 i else (i : Int)) := by
          rw [sArg, cI_t ⟨gk, gp⟩]
        rw [es] at ih
        rcases sArg_rng (sPB Y bs bn) Y.2.1 i with ea | ⟨s, ea, a1, a2⟩
        · rw [ea, if_pos rfl] at ih
          rw [ea, M_nextOld_L5]
          simp (disch := omega) only [qk_r, qk_ix, e1, if_neg (show ¬ T 9 ≤ (i : Int) by omega), Int.toNat_natCast, e87, behind_e, ob_some, ms, if_pos gk, if_pos gp, if_neg (show ¬ (1 : Int) = 0 by omega), if_true]
          exact ih
        · have os := bY_one hI.1 hB (s := s) (by omega) a2.1
          have f87 := hs.2 s (by omega) a2.1
          rw [ea, if_neg (by omega), Int.toNat_natCast] at ih
          rw [ea, M_nextOld_L5]
          simp (disch := omega) only [qk_r, qk_ix, e1, if_neg (show ¬ T 9 ≤ (i : Int) by omega), Int.toNat_natCast, e87, f87, behind_e, ob_some, ms, if_pos gk, if_pos gp, if_neg (show ¬ (1 : Int) = 0 by omega), if_neg (show ¬ (s : Int) = -1 by omega)]
          by_cases gf : Y.2.1 s ≤ Y.2.1 i
          · simp only [if_pos gf, ob_some] at ih ⊢
            exact ih
          · simp only [if_neg gf, ob_some] at ih ⊢
            exact ih
      · have es : sArg (sPB Y bs bn) Y.2.1 (i + 1) = sArg (sPB Y bs bn) Y.2.1 i := by
          rw [sArg, cI_f (fun q => gp q.2)]
        rw [es] at ih
        rw [M_nextOld_L5]
        simp (disch := omega) only [qk_r, qk_ix, e1, if_neg (show ¬ T 9 ≤ (i : Int) by omega), Int.toNat_natCast, e87, behind_e, ob_some, ms, if_pos gk, if_neg gp, if_neg (show ¬ (1 : Int) = 0 by omega), if_true]
        exact ih
    · have es : sArg (sPB Y bs bn) Y.2.1 (i + 1) = sArg (sPB Y bs bn) Y.2.1 i := by
        rw [sArg, cI_f (fun q => gk q.1)]
      rw [es] at ih
      rw [M_nextOld_L5]
      simp (disch := omega) only [qk_r, qk_ix, e1, if_neg (show ¬ T 9 ≤ (i : Int) by omega), Int.toNat_natCast, behind_e, ob_some, ms, if_neg gk, if_true]
      exact ih
theorem nextOld_s {S : qSto} {Z : qY} (hI : iT S T lev) (hB : bY T lev Y) (hZ : bY T lev Z) (hk : ∀ s, Z.2.2 s = Y.2.2 s) (hm : mY S T lev Z) (hs : sWas S T Y) {bs bn : Int} (hbs : qR bs) (hbn : qR bn) : ∃ r, M_nextOld bs bn S = some (r, S) ∧ oNext (fun s => 0 < Y.2.2 s) (sBd Y bs bn) Y.2.1 (sN T) r := by
  have b9 := bT_n hI.1
  have e := nextOld_L hI hB hZ hk hm hs hbs hbn (T 9).toNat qF 0 (by omega) (by unfold qF; omega)
  have e' : M_nextOld_L5 qF bs bn (-1) 0 S = _ := e
  rw [M_nextOld, e']
  exact ⟨_, rfl, sArg_next⟩
/-! one ship is drawn earlier -/
theorem draw_L {Z : qY} (hT : bT T) (hB : bY T lev Z) (hw : wY T lev Z) {s : Nat} (hs : (s : Int) < T 9) (hk : 0 < Z.2.2 s) : ∀ (j n : Nat) (t : Int), t + j = Z.2.1 s → 0 ≤ t → j < n →
    (∃ u, sLaw T lev (yX Z s) s (Z.1 s) u (Z.2.2 s) = 0 ∧
      (∀ S, iT S T lev → cY S T lev (yX Z s) → ∃ S', C_drawEarlier_L50 n (s : Int) (Z.1 s) (Z.2.2 s) (Z.2.1 s) t S = some (.inr (1, S')) ∧ cY S' T lev (yP Z s (Z.1 s) u (Z.2.2 s)) ∧ fC S S') ∧
      (∀ S, iT S T lev → mY S T lev Z → ∃ S', M_comesSooner_L7 n (s : Int) t S = some (.inr (1, S')) ∧ mY S' T lev (yP Z s (Z.1 s) u (Z.2.2 s)) ∧ fM S S')) ∨
    ((∀ S, iT S T lev → cY S T lev (yX Z s) → ∃ S', C_drawEarlier_L50 n (s : Int) (Z.1 s) (Z.2.2 s) (Z.2.1 s) t S = some (.inl S') ∧ cY S' T lev (yX Z s) ∧ fC S S' ∧ ∀ i, i ≠ 10 → S' 6 i = S 6 i) ∧
      (∀ S, iT S T lev → mY S T lev Z → ∃ S', M_comesSooner_L7 n (s : Int) t S = some (.inl S') ∧ mY S' T lev Z ∧ fM S S'))
  | 0, n + 1, t, e, h0, _ => by
    have b9 := bT_n hT
    have o := bY_one hT hB hs hk
    refine Or.inr ⟨fun S hI hc => ⟨S, ?_, hc, fC_rfl, fun _ _ => rfl⟩, fun S hI hm => ⟨S, ?_, hm, fM_rfl⟩⟩
    · rw [C_drawEarlier_L50]
      simp (disch := omega) only [qk_r, if_pos (show Z.2.1 s ≤ t by omega)]
    · obtain ⟨-, e79, -, -⟩ := hm.2.1 s hs hk
      rw [M_comesSooner_L7]
      simp (disch := omega) only [qk_r, qk_ix, Int.toNat_natCast, e79, if_pos (show Z.2.1 s ≤ t by omega)]
  | j + 1, n + 1, t, e, h0, hn => by
    have b9 := bT_n hT
    have o := bY_one hT hB hs hk
    have hBx : bY T lev (yX Z s) := bY_put hT hB hs (Or.inl rfl)
    have lr := sLaw_rng (T := T) (lev := lev) (Y := yX Z s) s (Z.1 s) t (Z.2.2 s)
    by_cases g : sLaw T lev (yX Z s) s (Z.1 s) t (Z.2.2 s) = 0
    · obtain ⟨ok, -⟩ := sLaw_ok g
      refine Or.inl ⟨t, g, fun S hI hc => ?_, fun S hI hm => ?_⟩
      · obtain ⟨S', v1, v2, -, -, v5⟩ := layLawful_s hI hBx hc hs x_0 (x := Z.1 s) (t := t) (k := Z.2.2 s) ⟨by omega, by omega⟩ ⟨by omega, by omega⟩ ⟨by omega, by omega⟩
        have v5' := v5 g
        rw [yP_x] at v5'
        refine ⟨S', ?_, v5', v2⟩
        rw [C_drawEarlier_L50]
        simp (disch := omega) only [qk_r, if_neg (show ¬ Z.2.1 s ≤ t by omega), v1, ob_some, if_pos g]
      · obtain ⟨e78, e79, -, -⟩ := hm.2.1 s hs hk
        have e80 := hm.1 s (by omega)
        obtain ⟨S1, l1, l2, l3⟩ := M_lawOf_s hI hB hm hw.1 hs (x := Z.1 s) (t := t) (k := Z.2.2 s) (by omega) (by omega) ⟨by omega, by omega⟩
        obtain ⟨d78, -, -, -⟩ := l2.2.1 s hs hk
        have d80 := l2.1 s (by omega)
        obtain ⟨S2, r1, r2, r3⟩ := M_lay_s (fM_iT hI l3) l2 hs (Or.inr ok)
        refine ⟨S2, ?_, r2, fM_tr l3 (fZ_M r3)⟩
        rw [M_comesSooner_L7]
        simp (disch := omega) only [qk_r, qk_ix, Int.toNat_natCast, e78, e79, e80, if_neg (show ¬ Z.2.1 s ≤ t by omega), l1, ob_some, if_pos g, d78, d80, r1]
    · rcases draw_L hT hB hw hs hk j n (t + 1) (by omega) (by omega) (by omega) with ⟨u, u1, u2, u3⟩ | ⟨u2, u3⟩
      · refine Or.inl ⟨u, u1, fun S hI hc => ?_, fun S hI hm => ?_⟩
        · obtain ⟨S1, v1, v2, -, v4, -⟩ := layLawful_s hI hBx hc hs x_0 (x := Z.1 s) (t := t) (k := Z.2.2 s) ⟨by omega, by omega⟩ ⟨by omega, by omega⟩ ⟨by omega, by omega⟩
          obtain ⟨S', w1, w2, w3⟩ := u2 S1 (fC_iT hI v2) (v4 g)
          refine ⟨S', ?_, w2, fun c hc => (w3 c hc).trans (v2 c hc)⟩
          rw [C_drawEarlier_L50]
          simp (disch := omega) only [qk_r, if_neg (show ¬ Z.2.1 s ≤ t by omega), v1, ob_some, if_neg g]
          exact w1
        · obtain ⟨e78, e79, -, -⟩ := hm.2.1 s hs hk
          have e80 := hm.1 s (by omega)
          obtain ⟨S1, l1, l2, l3⟩ := M_lawOf_s hI hB hm hw.1 hs (x := Z.1 s) (t := t) (k := Z.2.2 s) (by omega) (by omega) ⟨by omega, by omega⟩
          obtain ⟨S', w1, w2, w3⟩ := u3 S1 (fM_iT hI l3) l2
          refine ⟨S', ?_, w2, fM_tr l3 w3⟩
          rw [M_comesSooner_L7]
          simp (disch := omega) only [qk_r, qk_ix, Int.toNat_natCast, e78, e79, e80, if_neg (show ¬ Z.2.1 s ≤ t by omega), l1, ob_some, if_neg g]
          exact w1
      · refine Or.inr ⟨fun S hI hc => ?_, fun S hI hm => ?_⟩
        · obtain ⟨S1, v1, v2, v3, v4, -⟩ := layLawful_s hI hBx hc hs x_0 (x := Z.1 s) (t := t) (k := Z.2.2 s) ⟨by omega, by omega⟩ ⟨by omega, by omega⟩ ⟨by omega, by omega⟩
          obtain ⟨S', w1, w2, w3, w4⟩ := u2 S1 (fC_iT hI v2) (v4 g)
          refine ⟨S', ?_, w2, fun c hc => (w3 c hc).trans (v2 c hc), fun i hi => (w4 i hi).trans (v3 i hi)⟩
          rw [C_drawEarlier_L50]
          simp (disch := omega) only [qk_r, if_neg (show ¬ Z.2.1 s ≤ t by omega), v1, ob_some, if_neg g]
          exact w1
        · obtain ⟨e78, e79, -, -⟩ := hm.2.1 s hs hk
          have e80 := hm.1 s (by omega)
          obtain ⟨S1, l1, l2, l3⟩ := M_lawOf_s hI hB hm hw.1 hs (x := Z.1 s) (t := t) (k := Z.2.2 s) (by omega) (by omega) ⟨by omega, by omega⟩
          obtain ⟨S', w1, w2, w3⟩ := u3 S1 (fM_iT hI l3) l2
          refine ⟨S', ?_, w2, fM_tr l3 w3⟩
          rw [M_comesSooner_L7]
          simp (disch := omega) only [qk_r, qk_ix, Int.toNat_natCast, e78, e79, e80, if_neg (show ¬ Z.2.1 s ≤ t by omega), l1, ob_some, if_neg g]
          exact w1
theorem draw_s {Z : qY} (hT : bT T) (hB : bY T lev Z) (hw : wY T lev Z) {s : Nat} (hs : (s : Int) < T 9) (hk : 0 < Z.2.2 s) : ∃ R Z', (R = 0 ∨ R = 1) ∧ (R = 0 → Z' = Z) ∧ bY T lev Z' ∧ wY T lev Z' ∧ (∀ i, Z'.2.2 i = Z.2.2 i) ∧
    (∀ S, iT S T lev → cY S T lev Z → ∃ S', C_drawEarlier (s : Int) S = some (R, S') ∧ cY S' T lev Z' ∧ fC S S') ∧
    (∀ S, iT S T lev → mY S T lev Z → ∃ S', M_comesSooner (s : Int) S = some (R, S') ∧ mY S' T lev Z' ∧ fM S S') := by
  have b9 := bT_n hT
  have o := bY_one hT hB hs hk
  have cn := bT_con hT hs
  have hBx : bY T lev (yX Z s) := bY_put hT hB hs (Or.inl rfl)
  have h4 := (hB.2 s hs hk).2.2.1
  have up : ∀ S, iT S T lev → cY S T lev Z → ∃ S1, iT S1 T lev ∧ cY S1 T lev (yX Z s) ∧ S1 6 13 = Z.2.2 s ∧ (S1 6 11 = Z.1 s ∧ S1 6 12 = Z.2.1 s) ∧ fC S S1 ∧ C_drawEarlier (s : Int) S = Option.bind (C_drawEarlier_L50 qF (s : Int) (Z.1 s) (Z.2.2 s) (Z.2.1 s) (sCon T s 4) S1) (fun q1242 => Sum.elim (fun t1244 => Option.bind (Stays_layBack (s : Int) t1244) (fun q1245 => some (0, q1245))) (fun w => some w) q1242) := fun S hI hc => by
    obtain ⟨S1, u1, u2, u3, u4, u5⟩ := Stays_takeUp_s hI hB hc hs
    obtain ⟨d1, -, d3, -, -⟩ := hc.2.1 s hs hk
    have d0 := hc.1 s (by omega)
    have hI1 : iT S1 T lev := fC_iT hI (fX_C u5)
    have c4 : Told_contractOf (s : Int) 4 S1 = some (sCon T s 4, S1) := Told_contractOf_s hI1 hs (w := 4) (by omega)
    refine ⟨S1, hI1, u2, u3, u4 hk, fX_C u5, ?_⟩
    rw [C_drawEarlier]
    simp (disch := omega) only [qk_ix, Int.toNat_natCast, u1, c4, ob_some, d0, d1, d3]
  have mo : ∀ S, iT S T lev → M_comesSooner (s : Int) S = Option.bind (M_comesSooner_L7 qF (s : Int) (sCon T s 4) S) (fun q3338 => Sum.elim (fun t3340 => some (0, t3340)) (fun w => some w) q3338) := fun S hI => by
    have c4 : M_of (s : Int) 4 S = some (sCon T s 4, S) := M_of_s hI hs (w := 4) (by omega)
    rw [M_comesSooner, c4]
    rfl
  rcases draw_L hT hB hw hs hk (Z.2.1 s - sCon T s 4).toNat qF (sCon T s 4) (by omega) (by omega) (by unfold qF; omega) with ⟨u, u1, u2, u3⟩ | ⟨u2, u3⟩
  · obtain ⟨ok, -, -, n7, -, n9⟩ := sLaw_ok u1
    have wz := wY_put hBx x_0 (wY_x hB hw) ok.2.1.2 n7 n9
    rw [yP_x] at wz
    refine ⟨1, yP Z s (Z.1 s) u (Z.2.2 s), Or.inr rfl, fun q => by omega, bY_put hT hB hs (Or.inr ok), wz, fun i => ?_, fun S hI hc => ?_, fun S hI hm => ?_⟩
    · show (if i = s then Z.2.2 s else Z.2.2 i) = Z.2.2 i
      split
      · next h => rw [h]
      · rfl
    · obtain ⟨S1, p1, p2, p3, p4, p5, p6⟩ := up S hI hc
      obtain ⟨S', v1, v2, v3⟩ := u2 S1 p1 p2
      refine ⟨S', ?_, v2, fun c hc => (v3 c hc).trans (p5 c hc)⟩
      rw [p6, v1]
      rfl
    · obtain ⟨S', v1, v2, v3⟩ := u3 S hI hm
      refine ⟨S', ?_, v2, v3⟩
      rw [mo S hI, v1]
      rfl
  · refine ⟨0, Z, Or.inl rfl, fun _ => rfl, hB, hw, fun i => rfl, fun S hI hc => ?_, fun S hI hm => ?_⟩
    · obtain ⟨S1, p1, p2, p3, p4, p5, p6⟩ := up S hI hc
      obtain ⟨S2, v1, v2, v3, v4⟩ := u2 S1 p1 p2
      obtain ⟨S', w1, w2, w3⟩ := Stays_layBack_s (fC_iT p1 v3) hB hs v2 (by rw [v4 13 (by omega)]; exact p3) (fun _ => by rw [v4 11 (by omega), v4 12 (by omega)]; exact p4)
      refine ⟨S', ?_, w2, fun c hc => (w3 c (by omega)).trans ((v3 c hc).trans (p5 c hc))⟩
      rw [p6, v1]
      simp only [ob_some, Sum.elim_inl]
      rw [w1]
      rfl
    · obtain ⟨S', v1, v2, v3⟩ := u3 S hI hm
      refine ⟨S', ?_, v2, v3⟩
      rw [mo S hI, v1]
      rfl
noncomputable def sOld (T : Nat → Int) (Y : qY) : List Nat := oL (fun s => 0 < Y.2.2 s) Y.2.1 (sN T)
theorem sBd_lt {s : Nat} : (fun x => sBd Y (Y.2.1 s) (s : Int) x) = oLt Y.2.1 s := by
  funext x
  apply propext
  unfold oLt
  constructor
  · rintro (q | q)
    · exact Or.inl q
    · exact Or.inr ⟨q.1.symm, by omega⟩
  · rintro (q | q)
    · exact Or.inl q
    · exact Or.inr ⟨q.1.symm, by omega⟩
theorem squeeze_L (hT : bT T) (hB : bY T lev Y) : ∀ (rest l1 : List Nat) (n n2 : Nat) (c bs bn : Int) (Z : qY) (S : qSto), sOld T Y = l1 ++ rest → rest.length < n → rest.length < n2 → qR bs → qR bn → (∀ r, oNext (fun s => 0 < Y.2.2 s) (sBd Y bs bn) Y.2.1 (sN T) r → r = oHd rest) → (0 ≤ c ∧ c ≤ l1.length) → iT S T lev → bY T lev Z → wY T lev Z → (∀ s, Z.2.2 s = Y.2.2 s) → cY S T lev Z → gR (S 14) Y →
    ∃ R Z' S', C_squeeze_L20 n c bs bn (l1.length : Int) S = some (R, S') ∧ bY T lev Z' ∧ wY T lev Z' ∧ (c ≤ R ∧ R ≤ c + rest.length) ∧ (R = c → Z' = Z) ∧ cY S' T lev Z' ∧ fC S S' ∧
      ∀ Sm, iT Sm T lev → mY Sm T lev Z → sWas Sm T Y → ∃ Sm', M_squeeze_L41 n2 c (oHd rest) Sm = some (R, Sm') ∧ mY Sm' T lev Z' ∧ fM Sm Sm'
  | [], l1, n + 1, n2 + 1, c, bs, bn, Z, S, hl, _, _, hbs, hbn, hx, hc0, hI, hZ, hw, hk, hc, hg => by
    have b9 := bT_n hT
    have e1 := hI.2.1.2.2.2.2.1
    have ll := oL_len (P := fun s => 0 < Y.2.2 s) (f := Y.2.1) (n := sN T)
    have hl' : (sOld T Y).length = l1.length := by rw [hl]; simp
    have l14 : l1.length ≤ 14 := by
      unfold sOld at hl'
      unfold sN at ll hl'
      omega
    obtain ⟨r, r1, r2⟩ := nextBy_s hI hB hg hbs hbn
    have r3 := hx r r2
    refine ⟨c, Z, S, ?_, hZ, hw, ⟨by omega, by simp⟩, fun _ => rfl, hc, fC_rfl, fun Sm hIm hm hs => ⟨Sm, ?_, hm, fM_rfl⟩⟩
    · rw [C_squeeze_L20]
      simp (disch := omega) only [qk_r, e1]
      by_cases g : T 9 ≤ (l1.length : Int)
      · rw [if_pos g]
      · rw [if_neg g, r1, r3]
        rfl
    · rw [M_squeeze_L41]
      rfl
  | s :: rest, l1, n + 1, n2 + 1, c, bs, bn, Z, S, hl, hn, hn2, hbs, hbn, hx, hc0, hI, hZ, hw, hk, hc, hg => by
    have b9 := bT_n hT
    have e1 := hI.2.1.2.2.2.2.1
    have ll := oL_len (P := fun s => 0 < Y.2.2 s) (f := Y.2.1) (n := sN T)
    have hl' : (sOld T Y).length = l1.length + (rest.length + 1) := by rw [hl]; simp
    have l14 : l1.length + (rest.length + 1) ≤ (T 9).toNat := by
      unfold sOld at hl'
      unfold sN at ll hl'
      omega
    obtain ⟨⟨s1, s2⟩, -⟩ := oL_split hl
    have hs : (s : Int) < T 9 := by unfold sN at s1; omega
    have ks : 0 < Z.2.2 s := by rw [hk s]; exact s2
    have os := bY_one hT hB hs s2
    obtain ⟨r, r1, r2⟩ := nextBy_s hI hB hg hbs hbn
    have r3 : r = (s : Int) := hx r r2
    rw [r3] at r1
    obtain ⟨g1, g2, g3, g4⟩ := hg s (by omega)
    obtain ⟨y1, y2⟩ := g2 s2
    have f1 : ((s : Int) * 3 + 1).toNat = 3 * s + 1 := by omega
    obtain ⟨R1, Z1, q1, q2, q3, q4, q5, q6, q7⟩ := draw_s hT hZ hw hs ks
    obtain ⟨S1, v1, v2, v3⟩ := q6 S hI hc
    have hl2 : sOld T Y = (l1 ++ [s]) ++ rest := by rw [hl]; simp
    have hlen : ((l1 ++ [s]).length : Int) = (l1.length : Int) + 1 := by simp
    have hx2 : ∀ r, oNext (fun s => 0 < Y.2.2 s) (sBd Y (Y.2.1 s) (s : Int)) Y.2.1 (sN T) r → r = oHd rest := fun r hr => by
      have e : sBd Y (Y.2.1 s) (s : Int) = oLt Y.2.1 s := sBd_lt
      rw [e] at hr
      exact oNext_step hl hr
    have rb : 0 ≤ R1 ∧ R1 ≤ 1 := by omega
    obtain ⟨R, Z', S', t1, t2, t3, t4, t5, t6, t7, t8⟩ := squeeze_L hT hB rest (l1 ++ [s]) n n2 (c + R1) (Y.2.1 s) (s : Int) Z1 S1 hl2 (by simpa using hn) (by simpa using hn2) ⟨by omega, by omega⟩ ⟨by omega, by omega⟩ hx2 ⟨by omega, by rw [hlen]; omega⟩ (fC_iT hI v3) q3 q4 (fun i => (q5 i).trans (hk i)) v2 (by rw [v3 14 (by omega)]; exact hg)
    rw [hlen] at t1
    have hrl : ((s :: rest).length : Int) = (rest.length : Int) + 1 := by simp
    refine ⟨R, Z', S', ?_, t2, t3, ⟨by omega, by rw [hrl]; omega⟩, fun q => ?_, t6, fun c hc => (t7 c hc).trans (v3 c hc), fun Sm hIm hm hsw => ?_⟩
    · rw [C_squeeze_L20]
      simp (disch := omega) only [qk_r, qk_ix, e1, if_neg (show ¬ T 9 ≤ (l1.length : Int) by omega), r1, ob_some, if_neg (show ¬ (s : Int) = -1 by omega), f1, y2, v1]
      rcases q1 with q | q
      · rw [q, Int.add_zero] at t1
        rw [q, if_pos rfl]
        exact t1
      · rw [q] at t1
        rw [q, if_neg (by omega)]
        exact t1
    · have : R1 = 0 := by omega
      rw [t5 (by omega), q2 this]
    · obtain ⟨Sn, w1, w2, w3⟩ := q7 Sm hIm hm
      have hIn := fM_iT hIm w3
      have hsn : sWas Sn T Y := by
        unfold sWas gB
        rw [w3.1 87 (by omega)]
        exact hsw
      have e87 := hsn.2 s hs s2
      obtain ⟨r', x1, x2⟩ := nextOld_s hIn hB q3 (fun i => (q5 i).trans (hk i)) w2 hsn (bs := Y.2.1 s) (bn := (s : Int)) ⟨by omega, by omega⟩ ⟨by omega, by omega⟩
      rw [hx2 r' x2] at x1
      obtain ⟨Sm', u1, u2, u3⟩ := t8 Sn hIn w2 hsn
      refine ⟨Sm', ?_, u2, fM_tr w3 u3⟩
      show M_squeeze_L41 (n2 + 1) c (s : Int) Sm = _
      rw [M_squeeze_L41]
      simp (disch := omega) only [qk_r, qk_ix, if_neg (show ¬ (s : Int) = -1 by omega), w1, ob_some, Int.toNat_natCast, e87, x1]
      rcases q1 with q | q
      · rw [q, Int.add_zero] at u1
        rw [q, if_pos rfl]
        exact u1
      · rw [q] at u1
        rw [q, if_neg (by omega)]
        exact u1
theorem cp87_L : ∀ (j n i : Nat) (S : qSto), i + j = 14 → j < n → (∀ k, k < i → S 87 k = S 79 k) → ∃ S', M_squeeze_L8 n (i : Int) S = some S' ∧ fO 87 S S' ∧ ∀ k, k < 14 → S' 87 k = S 79 k
  | 0, n + 1, i, S, e, _, h => by
    rw [M_squeeze_L8]
    simp (disch := omega) only [qk_r, if_pos (show (14 : Int) ≤ (i : Int) by omega)]
    exact ⟨S, rfl, fun c _ => rfl, fun k hk => h k (by omega)⟩
  | j + 1, n + 1, i, S, e, hn, h => by
    rw [M_squeeze_L8]
    simp (disch := omega) only [qk_r, qk_ix, if_neg (show ¬ (14 : Int) ≤ (i : Int) by omega), Int.toNat_natCast]
    obtain ⟨S', t1, t2, t3⟩ := cp87_L j n (i + 1) (qup S 87 i (S 79 i)) (by omega) (by omega) (fun k hk => by
      rw [qup_on, qup_off (show (79 : Nat) ≠ 87 by omega)]
      split
      · next q => rw [q]
      · exact h k (by omega))
    exact ⟨S', t1, fun c hc => (t2 c hc).trans (qup_off hc), fun k hk => by rw [t3 k hk, qup_off (by omega)]⟩
theorem fO87_T {S S1 : qSto} (h : fO 87 S S1) : fT S S1 := ⟨fun c hc => h c (by omega), fun i _ => by rw [h 70 (by omega)], fun q _ u _ => by show S1 85 _ = S 85 _; rw [h 85 (by omega)]⟩
theorem g_squeeze : gOK C_squeeze M_squeeze := fun S h => by
  obtain ⟨T, lev, Y, hA', hw, ⟨o, m, hH⟩, hK, hR, hF⟩ := id h
  obtain ⟨hI, hB, hc, hm⟩ := id hA'
  have b9 := bT_n hI.1
  obtain ⟨Sa, v1, v2, v3⟩ := save_14_s (S := S) hB hI.1 hc
  have ll := oL_len (P := fun s => 0 < Y.2.2 s) (f := Y.2.1) (n := sN T)
  have hl14 : (sOld T Y).length ≤ 14 := by
    unfold sOld
    unfold sN at ll ⊢
    omega
  have hx : ∀ r, oNext (fun s => 0 < Y.2.2 s) (sBd Y (-1) (-1)) Y.2.1 (sN T) r → r = oHd (sOld T Y) := fun r hr => by
    apply oNext_head
    rcases hr with ⟨a, b⟩ | ⟨s, a, b, c, d, e⟩
    · refine Or.inl ⟨a, fun x hx px _ => b x hx px (Or.inl ?_)⟩
      have := bY_one hI.1 hB (s := x) (by unfold sN at hx; omega) px
      omega
    · refine Or.inr ⟨s, a, b, c, trivial, fun x hx px _ => e x hx px (Or.inl ?_)⟩
      have := bY_one hI.1 hB (s := x) (by unfold sN at hx; omega) px
      omega
  obtain ⟨R, Z', Sb, t1, t2, t3, t4, t5, t6, t7, t8⟩ := squeeze_L hI.1 hB (sOld T Y) [] qF qF 0 (-1) (-1) Y Sa rfl (by unfold qF; omega) (by unfold qF; omega) ⟨by omega, by omega⟩ ⟨by omega, by omega⟩ hx ⟨by omega, by simp⟩ (fS_iT hI (fO14_S v2)) hB hw (fun _ => rfl) (cY_off hc (fun c hc => v2 c (by omega))) v3
  have t1' : C_squeeze_L20 qF 0 (-1) (-1) 0 Sa = some (R, Sb) := t1
  have fSb : fS S Sb := fS_tr (fO14_S v2) (fC_S t7)
  have cl : C_squeeze S = (if R = 0 then some ((-1), Sb) else (Option.bind (C_keepAct Sb) (fun q1254 => some (R, q1254)))) := by
    rw [C_squeeze, v1]
    simp only [ob_sn]
    rw [t1']
    simp only [ob_sn]
    rw [qk_r (by omega) (by omega)]
  have mdl : ∀ S1, iT S1 T lev → mY S1 T lev Y → ∃ S5, fT S1 S5 ∧ gR (mR S5 16) Y ∧ mY S5 T lev Z' ∧ M_squeeze S1 = (if R = 0 then some ((-1), S5) else (Option.bind (M_keeps S5) (fun q3351 => some (R, q3351)))) := fun S1 hI1 hm1 => by
    obtain ⟨Sp, p1, p2, p3, p4, p5⟩ := putsM hB hI.1 hm1
    obtain ⟨Sq, q1, q2, q3⟩ := cp87_L 14 qF 0 Sp (by omega) (by unfold qF; omega) (fun k hk => absurd hk (by omega))
    have q1' : M_squeeze_L8 qF 0 Sp = some Sq := q1
    have hIq := fT_iT (fT_iT hI1 p2) (fO87_T q2)
    have hmq : mY Sq T lev Y := mY_off p4 (fun c hc => q2 c (by omega))
    have hsq : sWas Sq T Y := by
      refine ⟨fun s hs => ?_, fun s hs hk => ?_⟩
      · rw [q3 s hs]
        exact p4.2.2.2.1 s hs
      · rw [q3 s (by omega)]
        exact (p4.2.1 s hs hk).2.1
    obtain ⟨r, x1, x2⟩ := nextOld_s hIq hB hB (fun _ => rfl) hmq hsq (bs := -1) (bn := -1) ⟨by omega, by omega⟩ ⟨by omega, by omega⟩
    rw [hx r x2] at x1
    obtain ⟨S5, u1, u2, u3⟩ := t8 Sq hIq hmq hsq
    refine ⟨S5, fT_tr p2 (fT_tr (fO87_T q2) (fM_T u3)), fM_16 u3 (gR_cong p3 (fun i _ => by show Sq 85 _ = Sp 85 _; rw [q2 85 (by omega)])), u2, ?_⟩
    rw [M_squeeze, p1]
    simp only [ob_sn]
    rw [q1']
    simp only [ob_sn]
    rw [x1]
    simp only [ob_sn]
    rw [u1]
    simp only [ob_sn]
    rw [qk_r (by omega) (by omega)]
  by_cases g : R = 0
  · have ez := t5 g
    subst ez
    obtain ⟨S5, q1, q2, q3, md⟩ := mdl Sb (fS_iT hI fSb) (fS_mY hm fSb)
    rw [if_pos g] at cl md
    exact ⟨-1, Sb, S5, cl, md, read_iG hA' hw ⟨o, m, hH⟩ hK hR hF fSb t6 q1 q3⟩
  · obtain ⟨S1, y1, y2, y3, y4, y5⟩ := actC hH fSb (by rw [t7 14 (by omega)]; exact v3) t6
    have hI1 := fA_iT hI y2
    obtain ⟨S5, q1, q2, q3, md⟩ := mdl S1 hI1 (fA_mY hm y2)
    obtain ⟨S6, r1, r2, r3, r4, r5⟩ := actM hH.2.1 ((fA_31 y2).trans hH.2.2.2.2.1) q1 q2 q3
    rw [if_neg g, y1] at cl
    rw [if_neg g, r1] at md
    exact ⟨R, S1, S6, cl, md, act_iG hA' hw hH hK hR y2 y3 y4 r2 r3 r4 t2 t3⟩
end PSQ
