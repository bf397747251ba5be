/-! earliest; a ship by itself -/
section PIT
variable {T lev : Nat → Int} {Y : qY}
theorem isN_of_fd {s : Nat} {k : Int} (h : fdN T lev Y s k k) : isN T lev Y s k := h k (Int.le_refl _) (Int.le_refl _)
theorem p_earliest {S : qSto} (h : iA S T lev Y) (hw : wY T lev Y) {a k b : Int} (ha : qR a) (hk : qR k) (hb : qR b) : ∃ r S1 S2, C_earliest a k b S = some (r, S1) ∧ M_earliest a k b S1 = some (r, S2) ∧ fC S S1 ∧ fM S1 S2 ∧ iA S2 T lev Y := by
  obtain ⟨hI, hB, hc, hm⟩ := id h
  obtain ⟨n1, n2⟩ := id hb
  obtain ⟨k1, k2⟩ := id hk
  have b9 := bT_n hI.1
  by_cases g : 0 ≤ a ∧ a < T 9
  · have fa : ((a.toNat : Nat) : Int) = a := by omega
    have hs : ((a.toNat : Nat) : Int) < T 9 := by omega
    have cn := bT_con hI.1 hs
    by_cases gk : 1 ≤ k ∧ k ≤ 8
    · by_cases gb : 0 ≤ b ∧ b ≤ 2
      · obtain ⟨S1, u1, u2, u3, u4⟩ := upBackF hI hB hc hs
        obtain ⟨r, S2, v1, v2, v3, v4⟩ := find_s u2 (bY_put hI.1 hB hs (Or.inl rfl)) u3 hs x_0 gk.1 gk.2 (Int.le_refl k)
        obtain ⟨S3, w1, w2, w3, w4⟩ := u4 S2 v2 v3
        have hm3 := fC_mY hm w3
        have hI3 := fC_iT hI w3
        obtain ⟨r', S4, y1, y2, y3, y4⟩ := seeks_s hI3 hB hm3 hw.1 hs hk
        rw [fa] at u1 v1 w1 y1
        have mdl : M_earliest a k b S3 = qk (qRb r') (if r' = 0 then some ((-2), S4) else (qk (qRb b) (if b = 0 then some (S4 70 27, S4) else (qk (qRb b) (if b = 1 then some (S4 70 28, S4) else (Option.bind (M_leaveBy a (S4 70 27) k S4) (fun q3097 => some (q3097.1, q3097.2)))))))) := by
          simp (disch := omega) only [M_earliest, M_isShip_s hI3 ha, ob_some, ite01_r, ite01_e, qk_r]
          rw [if_pos g, M_in_s ⟨by omega, by omega⟩ ⟨by omega, by omega⟩ ⟨by omega, by omega⟩]
          simp only [ob_some, ite01_r, ite01_e]
          rw [if_pos gk, M_in_s ⟨by omega, by omega⟩ ⟨by omega, by omega⟩ ⟨by omega, by omega⟩]
          simp only [ob_some, ite01_r, ite01_e]
          rw [if_pos gb, y1]
          simp (disch := omega) only [ob_some, qk_r]
        have cls : C_earliest a k b S = qk (qRb r) (if r = 0 then some ((-2), S3) else (qk (qRb b) (if b = 0 then some (S3 9 6, S3) else (if b = 1 then some (S3 9 5, S3) else some (S3 9 8, S3))))) := by
          simp (disch := omega) only [C_earliest, C_isShip_s hI ha, C_isCraneNumber_s hk, ob_some, ite01_r, ite01_e, qk_r]
          rw [if_pos g, if_pos gk, if_neg (show ¬ b < 0 by omega), if_pos (show b ≤ 2 by omega), u1]
          simp only [ob_some]
          rw [v1]
          simp only [ob_some]
          rw [w1]
          simp (disch := omega) only [ob_some, qk_r]
        rcases v4 with ⟨q1, q2⟩ | ⟨q1, k', t, x, q2, q3, q4, q5, q6⟩
        · rcases y4 with ⟨z1, z2⟩ | ⟨z1, z2⟩
          · refine ⟨-2, S3, S4, ?_, ?_, w3, y3, iA_q h w3 w2 y3 y2⟩
            · rw [cls, q1]
              rfl
            · rw [mdl, z1]
              rfl
          · exact (isS_N z2 (isN_of_fd q2)).elim
        · obtain ⟨d1, d2, d3⟩ := q2
          have ek : k' = k := by omega
          subst ek
          rcases y4 with ⟨z1, z2⟩ | ⟨z1, z2⟩
          · exact (isS_N d2 z2).elim
          · obtain ⟨e1, e2⟩ := isS_u d2 z2
            have hok := (sLaw_ok d2.2.1).1
            have bb := okS_b hI.1 hs hok
            have hI4 := fM_iT hI3 y3
            have elv := M_leaveBy_s hI4 hs (t := t) (k := k') (by omega) (by omega) (by omega) (by omega)
            rw [fa] at elv
            have hres : ∃ v, C_earliest a k' b S = some (v, S3) ∧ M_earliest a k' b S3 = some (v, S4) := by
              rw [cls, mdl, q1, z1, w4, q3, q4, q6, ← e1, ← e2, elv]
              simp (disch := omega) only [qk_r, ob_some]
              rw [if_neg (show ¬ (1 : Int) = 0 by omega), if_neg (show ¬ (1 : Int) = 0 by omega)]
              by_cases b0 : b = 0
              · rw [if_pos b0, if_pos b0]
                exact ⟨_, rfl, rfl⟩
              · rw [if_neg b0, if_neg b0]
                by_cases b1 : b = 1
                · rw [if_pos b1, if_pos b1]
                  exact ⟨_, rfl, rfl⟩
                · rw [if_neg b1, if_neg b1]
                  exact ⟨_, rfl, rfl⟩
            obtain ⟨v, f1, f2⟩ := hres
            exact ⟨v, S3, S4, f1, f2, w3, y3, iA_q h w3 w2 y3 y2⟩
      · refine ⟨-1, S, S, ?_, ?_, fC_rfl, fM_rfl, h⟩
        · simp (disch := omega) only [C_earliest, C_isShip_s hI ha, C_isCraneNumber_s hk, ob_some, ite01_r, ite01_e, qk_r]
          rw [if_pos g, if_pos gk]
          by_cases q : b < 0
          · rw [if_pos q]
          · rw [if_neg q, if_neg (show ¬ b ≤ 2 by omega)]
        · simp (disch := omega) only [M_earliest, M_isShip_s hI ha, ob_some, ite01_r, ite01_e, qk_r]
          rw [if_pos g, M_in_s ⟨by omega, by omega⟩ ⟨by omega, by omega⟩ ⟨by omega, by omega⟩]
          simp only [ob_some, ite01_r, ite01_e]
          rw [if_pos gk, M_in_s ⟨by omega, by omega⟩ ⟨by omega, by omega⟩ ⟨by omega, by omega⟩]
          simp only [ob_some, ite01_r, ite01_e]
          rw [if_neg gb]
    · refine ⟨-1, S, S, ?_, ?_, fC_rfl, fM_rfl, h⟩
      · simp (disch := omega) only [C_earliest, C_isShip_s hI ha, C_isCraneNumber_s hk, ob_some, ite01_r, ite01_e, qk_r]
        rw [if_pos g, if_neg gk]
      · simp (disch := omega) only [M_earliest, M_isShip_s hI ha, ob_some, ite01_r, ite01_e, qk_r]
        rw [if_pos g, M_in_s ⟨by omega, by omega⟩ ⟨by omega, by omega⟩ ⟨by omega, by omega⟩]
        simp only [ob_some, ite01_r, ite01_e]
        rw [if_neg gk]
  · refine ⟨-1, S, S, ?_, ?_, fC_rfl, fM_rfl, h⟩
    · simp only [C_earliest, C_isShip_s hI ha, ob_some, ite01_r, ite01_e]
      rw [if_neg g]
    · simp only [M_earliest, M_isShip_s hI ha, ob_some, ite01_r, ite01_e]
      rw [if_neg g]
/-! found by itself -/
theorem fd_x {s : Nat} {most least k t x : Int} (h : fdS T lev Y s most least k t x) (n : fdN T lev Y s most least) : False := isS_N h.2.1 (n k h.1.1 h.1.2)
theorem fd_u {s : Nat} {most least k t x k' t' x' : Int} (h : fdS T lev Y s most least k t x) (h' : fdS T lev Y s most least k' t' x') : k = k' ∧ t = t' ∧ x = x' := by
  have e : k = k' := by
    rcases Int.lt_or_le k k' with q | q
    · exact (isS_N h'.2.1 (h.2.2 k' q h'.1.2)).elim
    · rcases Int.lt_or_le k' k with w | w
      · exact (isS_N h.2.1 (h'.2.2 k w h.1.2)).elim
      · omega
  subst e
  have := isS_u h.2.1 h'.2.1
  exact ⟨rfl, this.1, this.2⟩
theorem isN_E (hT : bT T) {Y1 Y2 : qY} {s : Nat} (hs : (s : Int) < T 9) {k : Int} (h : yE Y1 Y2) (hk : ∀ s, 0 ≤ Y2.2.2 s) (n : isN T lev Y1 s k) : isN T lev Y2 s k := fun t x hx => by
  rw [← law_E hT hs h hk]
  exact n t x hx
theorem isS_E (hT : bT T) {Y1 Y2 : qY} {s : Nat} (hs : (s : Int) < T 9) {k t x : Int} (h : yE Y1 Y2) (hk : ∀ s, 0 ≤ Y2.2.2 s) (n : isS T lev Y1 s k t x) : isS T lev Y2 s k t x := by
  refine ⟨n.1, ?_, fun t' x' hx' hz => n.2.2 t' x' hx' ?_⟩
  · rw [← law_E hT hs h hk]
    exact n.2.1
  · rw [law_E hT hs h hk]
    exact hz
/-- the least number of cranes of a ship, and the most -/
abbrev fdN1 (T lev : Nat → Int) (Y : qY) (s : Nat) : Prop := fdN T lev Y s (sCon T s 8) (sCon T s 7)
abbrev fdS1 (T lev : Nat → Int) (Y : qY) (s : Nat) (k t x : Int) : Prop := fdS T lev Y s (sCon T s 8) (sCon T s 7) k t x
theorem fd_ok (hT : bT T) {s : Nat} (hs : (s : Int) < T 9) {k t x : Int} (h : fdS1 T lev Y s k t x) : okS T lev s x t k ∧ ¬ L7 T lev Y s x t k ∧ ¬ L9 T Y s x t k ∧ sLaw T lev Y s x t k = 0 := by
  have z := sLaw_ok h.2.1.2.1
  exact ⟨z.1, z.2.2.2.1, z.2.2.2.2.2, h.2.1.2.1⟩
theorem seeksItself_L (hb : bY T lev Y) (hw : wP T lev Y) (hT : bT T) {s : Nat} (hs : (s : Int) < T 9) : ∀ (j n : Nat) (k : Int) (S : qSto), k + 1 = sCon T s 7 + j → k ≤ sCon T s 8 → j < n → iT S T lev → mY S T lev Y → (∀ k', k < k' → k' ≤ sCon T s 8 → isN T lev (yX Y s) s k') → ∃ r S', M_seeksItself_L8 n (s : Int) k S = some r ∧ mY S' T lev Y ∧ fM S S' ∧ ((r = .inl S' ∧ fdN1 T lev (yX Y s) s) ∨ ∃ k, r = .inr (k, S') ∧ fdS1 T lev (yX Y s) s k (S' 70 27) (S' 70 28))
  | 0, n + 1, k, S, e, hkm, _, hI, hm, hn => by
    have cn := bT_con hT hs
    have c7 : M_of (s : Int) 7 S = some (sCon T s 7, S) := M_of_s hI hs (w := 7) (by omega)
    rw [M_seeksItself_L8, c7]
    simp (disch := omega) only [ob_some, qk_r, if_pos (show k < sCon T s 7 by omega)]
    exact ⟨_, S, rfl, hm, fM_rfl, Or.inl ⟨rfl, fun k' a b => hn k' (by omega) b⟩⟩
  | j + 1, n + 1, k, S, e, hkm, hj, hI, hm, hn => by
    have cn := bT_con hT hs
    have c7 : M_of (s : Int) 7 S = some (sCon T s 7, S) := M_of_s hI hs (w := 7) (by omega)
    obtain ⟨r, S1, t1, t2, t3, t4⟩ := seeks_s hI hb hm hw hs (k := k) ⟨by omega, by omega⟩
    have hI1 := fM_iT hI t3
    rw [M_seeksItself_L8, c7]
    simp only [ob_some]
    rw [qk_r (by omega) (by omega), qk_r (by omega) (by omega), if_neg (show ¬ k < sCon T s 7 by omega), t1]
    simp only [ob_some]
    rcases t4 with ⟨q1, q2⟩ | ⟨q1, q2⟩
    · rw [q1, qk_r (by omega) (by omega), if_pos rfl]
      obtain ⟨r', S', x1, x2, x3, x4⟩ := seeksItself_L hb hw hT hs j n (k + -1) S1 (by omega) (by omega) (by omega) hI1 t2 (fun k' a b => by
        rcases Int.lt_or_le k k' with w | w
        · exact hn k' w b
        · have : k' = k := by omega
          rw [this]
          exact q2)
      exact ⟨r', S', x1, x2, fM_tr t3 x3, x4⟩
    · rw [q1, qk_r (by omega) (by omega), if_neg (show ¬ (1 : Int) = 0 by omega)]
      exact ⟨_, S1, rfl, t2, t3, Or.inr ⟨k, rfl, ⟨by omega, hkm⟩, q2, hn⟩⟩
theorem seeksItself_s {S : qSto} (hI : iT S T lev) (hb : bY T lev Y) (hm : mY S T lev Y) (hw : wP T lev Y) {s : Nat} (hs : (s : Int) < T 9) : ∃ r S', M_seeksItself (s : Int) S = some (r, S') ∧ mY S' T lev Y ∧ fM S S' ∧ ((r = -1 ∧ fdN1 T lev (yX Y s) s) ∨ ((1 ≤ r ∧ r ≤ 8) ∧ fdS1 T lev (yX Y s) s r (S' 70 27) (S' 70 28))) := by
  have cn := bT_con hI.1 hs
  have c8 : M_of (s : Int) 8 S = some (sCon T s 8, S) := M_of_s hI hs (w := 8) (by omega)
  obtain ⟨r, S', t1, t2, t3, t4⟩ := seeksItself_L hb hw hI.1 hs (sCon T s 8 + 1 - sCon T s 7).toNat qF (sCon T s 8) S (by omega) (Int.le_refl _) (by unfold qF; omega) hI hm (fun k' a b => by omega)
  rw [M_seeksItself, c8]
  simp only [ob_some]
  rw [t1]
  rcases t4 with ⟨q1, q2⟩ | ⟨k, q1, q2⟩
  · rw [q1]
    exact ⟨-1, S', rfl, t2, t3, Or.inl ⟨rfl, q2⟩⟩
  · rw [q1]
    have := q2.1
    exact ⟨k, S', rfl, t2, t3, Or.inr ⟨by omega, q2⟩⟩
/-- what laying by itself changes -/
def fI (S S' : qSto) : Prop := (∀ c, ¬ (c = 6 ∨ c = 8 ∨ c = 9 ∨ (37 ≤ c ∧ c ≤ 46)) → S' c = S c) ∧ ∀ i, i ≠ 10 → S' 6 i = S 6 i
theorem fI_C {S S' : qSto} (h : fI S S') : fC S S' := fun c hc => h.1 c hc
theorem fF_I {S S' : qSto} (h : fF S S') : fI S S' := ⟨fun c hc => h.1 c (by omega), h.2⟩
theorem fI_tr {S S' S2 : qSto} (h1 : fI S S') (h2 : fI S' S2) : fI S S2 := ⟨fun c a => (h2.1 c a).trans (h1.1 c a), fun i a => (h2.2 i a).trans (h1.2 i a)⟩
theorem fI_rfl {S : qSto} : fI S S := ⟨fun _ _ => rfl, fun _ _ => rfl⟩
theorem fY_I {S S' : qSto} (h : ∀ c, ¬ (37 ≤ c ∧ c ≤ 43) → S' c = S c) : fI S S' := ⟨fun c hc => h c (by omega), fun i _ => by rw [h 6 (by omega)]⟩
theorem layC {S : qSto} (hI : iT S T lev) (hb : bY T lev Y) (hc : cY S T lev Y) {s : Nat} (hs : (s : Int) < T 9) (h0 : Y.2.2 s = 0) : ∃ r S', C_layByItself (s : Int) S = some (r, S') ∧ fI S S' ∧ ((r = 0 ∧ fdN1 T lev Y s ∧ cY S' T lev Y) ∨ (r = 1 ∧ ∃ k t x, fdS1 T lev Y s k t x ∧ cY S' T lev (yP Y s x t k))) := by
  have cn := bT_con hI.1 hs
  have c8 : Told_contractOf (s : Int) 8 S = some (sCon T s 8, S) := Told_contractOf_s hI hs (w := 8) (by omega)
  have c7 : Told_contractOf (s : Int) 7 S = some (sCon T s 7, S) := Told_contractOf_s hI hs (w := 7) (by omega)
  obtain ⟨r, S1, v1, v2, v3, v4⟩ := find_s hI hb hc hs h0 (most := sCon T s 8) (least := sCon T s 7) (by omega) (by omega) (by omega)
  have hI1 := fC_iT hI (fF_C v3)
  rw [C_layByItself, c8]
  simp only [ob_some]
  rw [c7]
  simp only [ob_some]
  rw [v1]
  simp only [ob_some]
  rcases v4 with ⟨q1, q2⟩ | ⟨q1, k, t, x, q2, q3, q4, q5, q6⟩
  · rw [q1, qk_r (by omega) (by omega), if_pos rfl]
    exact ⟨0, S1, rfl, fF_I v3, Or.inl ⟨rfl, q2, v2⟩⟩
  · obtain ⟨S2, w1, w2, w3⟩ := Stays_lay_s hI1 v2 hs h0 (fd_ok hI.1 hs q2).1
    rw [q1, qk_r (by omega) (by omega), if_neg (show ¬ (1 : Int) = 0 by omega), q3, q4, q5, w1]
    exact ⟨1, S2, rfl, fI_tr (fF_I v3) (fY_I w3), Or.inr ⟨rfl, k, t, x, q2, w2⟩⟩
theorem layM {S : qSto} (hI : iT S T lev) (hb : bY T lev Y) (hm : mY S T lev Y) (hw : wP T lev Y) {s : Nat} (hs : (s : Int) < T 9) (h0 : Y.2.2 s = 0) : ∃ r S', M_laysItself (s : Int) S = some (r, S') ∧ fM S S' ∧ ((r = 0 ∧ fdN1 T lev Y s ∧ mY S' T lev Y) ∨ (r = 1 ∧ ∃ k t x, fdS1 T lev Y s k t x ∧ mY S' T lev (yP Y s x t k))) := by
  obtain ⟨r, S1, t1, t2, t3, t4⟩ := seeksItself_s hI hb hm hw hs
  have hI1 := fM_iT hI t3
  have e := yE_symm (yE_x h0)
  have kk : ∀ s, 0 ≤ Y.2.2 s := fun s => (hb.1 s).1
  rw [M_laysItself, t1]
  simp only [ob_some]
  rcases t4 with ⟨q1, q2⟩ | ⟨q1, q2⟩
  · rw [q1, qk_r (by omega) (by omega), if_pos rfl]
    exact ⟨0, S1, rfl, t3, Or.inl ⟨rfl, fun k a b => isN_E hI.1 hs e kk (q2 k a b), t2⟩⟩
  · have q3 : fdS1 T lev Y s r (S1 70 27) (S1 70 28) := ⟨q2.1, isS_E hI.1 hs e kk q2.2.1, fun k' a b => isN_E hI.1 hs e kk (q2.2.2 k' a b)⟩
    obtain ⟨S2, w1, w2, w3⟩ := M_lay_s hI1 t2 hs (Or.inr (fd_ok hI.1 hs q3).1)
    rw [qk_r (by omega) (by omega), if_neg (show ¬ r = -1 by omega), w1]
    exact ⟨1, S2, rfl, fM_tr t3 ⟨fun c hc => w3 c (by omega), fun i _ _ => by rw [w3 70 (by omega)]⟩, Or.inr ⟨rfl, r, _, _, q3, w2⟩⟩
/-- the stays after a ship was laid by itself, if it could be -/
noncomputable def yB (T lev : Nat → Int) (Y : qY) (s : Nat) : qY :=
  @dite qY (∃ q : Int × Int × Int, fdS1 T lev Y s q.1 q.2.1 q.2.2) (Classical.propDecidable _) (fun h => yP Y s (Classical.choose h).2.2 (Classical.choose h).2.1 (Classical.choose h).1) (fun _ => Y)
theorem yB_N {s : Nat} (h : fdN1 T lev Y s) : yB T lev Y s = Y := by
  unfold yB
  rw [dif_neg]
  rintro ⟨q, hq⟩
  exact fd_x hq h
theorem yB_S {s : Nat} {k t x : Int} (h : fdS1 T lev Y s k t x) : yB T lev Y s = yP Y s x t k := by
  unfold yB
  have hx : ∃ q : Int × Int × Int, fdS1 T lev Y s q.1 q.2.1 q.2.2 := ⟨(k, t, x), h⟩
  rw [dif_pos hx]
  obtain ⟨e1, e2, e3⟩ := fd_u h (Classical.choose_spec hx)
  rw [← e1, ← e2, ← e3]
/-- whether it could be -/
noncomputable def sB (T lev : Nat → Int) (Y : qY) (s : Nat) : Int := cI (∃ q : Int × Int × Int, fdS1 T lev Y s q.1 q.2.1 q.2.2) 1 0
theorem sB_N {s : Nat} (h : fdN1 T lev Y s) : sB T lev Y s = 0 := cI_f (fun ⟨_, hq⟩ => fd_x hq h)
theorem sB_S {s : Nat} {k t x : Int} (h : fdS1 T lev Y s k t x) : sB T lev Y s = 1 := cI_t ⟨(k, t, x), h⟩
theorem layC_s {S : qSto} (hI : iT S T lev) (hb : bY T lev Y) (hc : cY S T lev Y) {s : Nat} (hs : (s : Int) < T 9) (h0 : Y.2.2 s = 0) : ∃ S', C_layByItself (s : Int) S = some (sB T lev Y s, S') ∧ fI S S' ∧ cY S' T lev (yB T lev Y s) := by
  obtain ⟨r, S', t1, t2, t3⟩ := layC hI hb hc hs h0
  rcases t3 with ⟨q1, q2, q3⟩ | ⟨q1, k, t, x, q2, q3⟩
  · refine ⟨S', ?_, t2, ?_⟩
    · rw [t1, q1, sB_N q2]
    · rw [yB_N q2]
      exact q3
  · refine ⟨S', ?_, t2, ?_⟩
    · rw [t1, q1, sB_S q2]
    · rw [yB_S q2]
      exact q3
theorem layM_s {S : qSto} (hI : iT S T lev) (hb : bY T lev Y) (hm : mY S T lev Y) (hw : wP T lev Y) {s : Nat} (hs : (s : Int) < T 9) (h0 : Y.2.2 s = 0) : ∃ S', M_laysItself (s : Int) S = some (sB T lev Y s, S') ∧ fM S S' ∧ mY S' T lev (yB T lev Y s) := by
  obtain ⟨r, S', t1, t2, t3⟩ := layM hI hb hm hw hs h0
  rcases t3 with ⟨q1, q2, q3⟩ | ⟨q1, k, t, x, q2, q3⟩
  · refine ⟨S', ?_, t2, ?_⟩
    · rw [t1, q1, sB_N q2]
    · rw [yB_N q2]
      exact q3
  · refine ⟨S', ?_, t2, ?_⟩
    · rw [t1, q1, sB_S q2]
    · rw [yB_S q2]
      exact q3
/-- found or not -/
theorem fd_or {S : qSto} (hI : iT S T lev) (hb : bY T lev Y) (hc : cY S T lev Y) {s : Nat} (hs : (s : Int) < T 9) (h0 : Y.2.2 s = 0) : fdN1 T lev Y s ∨ ∃ k t x, fdS1 T lev Y s k t x := by
  obtain ⟨r, S', t1, t2, t3⟩ := layC hI hb hc hs h0
  rcases t3 with ⟨q1, q2, q3⟩ | ⟨q1, k, t, x, q2, q3⟩
  · exact Or.inl q2
  · exact Or.inr ⟨k, t, x, q2⟩
/-- bounds and laws after it -/
theorem yB_ok {S : qSto} (hI : iT S T lev) (hb : bY T lev Y) (hc : cY S T lev Y) (hw : wY T lev Y) {s : Nat} (hs : (s : Int) < T 9) (h0 : Y.2.2 s = 0) : bY T lev (yB T lev Y s) ∧ wY T lev (yB T lev Y s) ∧ yLe T Y (yB T lev Y s) ∧ (∀ i, i ≠ s → (yB T lev Y s).1 i = Y.1 i ∧ (yB T lev Y s).2.1 i = Y.2.1 i ∧ (yB T lev Y s).2.2 i = Y.2.2 i) ∧ (0 < (yB T lev Y s).2.2 s ↔ sB T lev Y s = 1) ∧ (sB T lev Y s = 0 ∨ sB T lev Y s = 1) := by
  rcases fd_or hI hb hc hs h0 with q | ⟨k, t, x, q⟩
  · rw [yB_N q, sB_N q]
    exact ⟨hb, hw, yLe_rfl, fun i _ => ⟨rfl, rfl, rfl⟩, by omega, Or.inl rfl⟩
  · obtain ⟨o1, o2, o3, o4⟩ := fd_ok hI.1 hs q
    have b := okS_b hI.1 hs o1
    rw [yB_S q, sB_S q]
    refine ⟨bY_put hI.1 hb hs (Or.inr o1), wY_put hb h0 hw o1.2.1.2 o2 o3, yLe_put h0, fun i hi => ⟨if_neg hi, if_neg hi, if_neg hi⟩, ?_, Or.inr rfl⟩
    have e : (yP Y s x t k).2.2 s = k := if_pos rfl
    rw [e]
    omega
end PIT
