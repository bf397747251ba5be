/-! the class looks: slots, then fewer cranes -/
def fF (S S' : qSto) : Prop := (∀ c, ¬ (c = 6 ∨ c = 8 ∨ c = 9 ∨ (37 ≤ c ∧ c ≤ 41) ∨ c = 44 ∨ c = 45 ∨ c = 46) → S' c = S c) ∧ ∀ i, i ≠ 10 → S' 6 i = S 6 i
theorem fF_rfl {S : qSto} : fF S S := ⟨fun _ _ => rfl, fun _ _ => rfl⟩
theorem fF_tr {S S' S2 : qSto} (h1 : fF S S') (h2 : fF S' S2) : fF S S2 := ⟨fun c a => (h2.1 c a).trans (h1.1 c a), fun i a => (h2.2 i a).trans (h1.2 i a)⟩
theorem fF_C {S S' : qSto} (h : fF S S') : fC S S' := fun c hc => h.1 c (by omega)
theorem fL_F {S S' : qSto} (h : fL S S') : fF S S' := ⟨fun c hc => h.1 c (by omega), h.2⟩
theorem fO46_F {S S' : qSto} (h : fO 46 S S') : fF S S' := ⟨fun c hc => h c (by omega), fun i _ => by rw [h 6 (by omega)]⟩
section PFF
variable {T lev : Nat → Int} {Y : qY}
theorem upBackF {S : qSto} (hI : iT S T lev) (hb : bY T lev Y) (hc : cY S T lev Y) {s : Nat} (hs : (s : Int) < T 9) : ∃ S1, Stays_takeUp (s : Int) S = some S1 ∧ iT S1 T lev ∧ cY S1 T lev (yX Y s) ∧ ∀ S2, cY S2 T lev (yX Y s) → fF S1 S2 → ∃ S3, Stays_layBack (s : Int) S2 = some S3 ∧ cY S3 T lev Y ∧ fC S S3 ∧ S3 9 = S2 9 := by
  obtain ⟨S1, t1, t2, t3, t4, t5⟩ := Stays_takeUp_s hI hb hc hs
  have hI1 : iT S1 T lev := iT_off hI (fun c hc => t5 c (by omega) (by omega) (by omega))
  refine ⟨S1, t1, hI1, t2, fun S2 u1 u2 => ?_⟩
  have hI2 : iT S2 T lev := fC_iT hI1 (fF_C u2)
  obtain ⟨S3, v1, v2, v3⟩ := Stays_layBack_s hI2 hb hs u1 (by rw [u2.2 13 (by omega)]; exact t3) (fun z => by
    rw [u2.2 11 (by omega), u2.2 12 (by omega)]
    exact t4 z)
  exact ⟨S3, v1, v2, fC_tr (fX_C t5) (fC_tr (fF_C u2) (fY_C v3)), v3 9 (by omega)⟩
theorem find_t (hb : bY T lev Y) (hT : bT T) {s : Nat} (hs : (s : Int) < T 9) (h0 : Y.2.2 s = 0) {k : Int} (hk : qR k) : ∀ (j n t : Nat) (S : qSto), 336 ≤ t + j → j < n → t ≤ 400 → iT S T lev → cY S T lev Y → (∀ p, p < 100 → S 46 p = sBed T s k p) → (∀ u : Nat, u < t → ∀ x : Int, x % 10 = 0 → sLaw T lev Y s x u k ≠ 0) → ∃ r S', Search_find_L33 n (s : Int) k (t : Int) S = some r ∧ cY S' T lev Y ∧ fF S S' ∧ ((r = .inl S' ∧ ∀ u : Nat, u < 336 → ∀ x : Int, x % 10 = 0 → sLaw T lev Y s x u k ≠ 0) ∨ ∃ (u : Nat) (x : Int), r = .inr (1, S') ∧ u < 336 ∧ (0 ≤ x ∧ x ≤ 990) ∧ x % 10 = 0 ∧ sLaw T lev Y s x u k = 0 ∧ (∀ x' : Int, x' % 10 = 0 → sLaw T lev Y s x' u k = 0 → x ≤ x') ∧ (∀ u' : Nat, u' < u → ∀ x : Int, x % 10 = 0 → sLaw T lev Y s x u' k ≠ 0) ∧ S' 9 5 = x ∧ S' 9 6 = u ∧ S' 9 7 = k ∧ S' 9 8 = sLeave T lev s u k)
  | 0, n + 1, t, S, e, _, hp, hI, hc, hbed, hlow => by
    rw [Search_find_L33]
    simp (disch := omega) only [qk_r, if_pos (show (336 : Int) ≤ (t : Int) by omega)]
    exact ⟨_, S, rfl, hc, fF_rfl, Or.inl ⟨rfl, fun u hu => hlow u (by omega)⟩⟩
  | j + 1, n + 1, t, S, e, hn, hp, hI, hc, hbed, hlow => by
    have cn := bT_con hT hs
    have f1 : (((t + 1 : Nat)) : Int) = (t : Int) + 1 := by omega
    rw [Search_find_L33, qk_r (by omega) (by omega)]
    by_cases gt : (336 : Int) ≤ (t : Int)
    · rw [if_pos gt]
      exact ⟨_, S, rfl, hc, fF_rfl, Or.inl ⟨rfl, fun u hu => hlow u (by omega)⟩⟩
    · obtain ⟨S1, t1, t2, t3⟩ := Laws_ofTime_s hI hs (t := (t : Int)) (k := k) ⟨by omega, by omega⟩ hk
      have hI1 : iT S1 T lev := iT_off hI (fun c hc => t2 c (by omega))
      have hc1 : cY S1 T lev Y := cY_off hc (fun c hc => t2 c (by omega))
      have rt := sTime_rng (T := T) (lev := lev) s (t : Int) k
      have hf1 := fL_F (fO8_L t2)
      have next : ∀ (v : Nat) (S2 : qSto), t < v → v ≤ 337 → (∀ u : Nat, t ≤ u → u < v → ∀ x : Int, x % 10 = 0 → sLaw T lev Y s x u k ≠ 0) → iT S2 T lev → cY S2 T lev Y → fF S S2 → S2 46 = S 46 → ∃ r S', Search_find_L33 n (s : Int) k (v : Int) S2 = some r ∧ cY S' T lev Y ∧ fF S S' ∧ ((r = .inl S' ∧ ∀ u : Nat, u < 336 → ∀ x : Int, x % 10 = 0 → sLaw T lev Y s x u k ≠ 0) ∨ ∃ (u : Nat) (x : Int), r = .inr (1, S') ∧ u < 336 ∧ (0 ≤ x ∧ x ≤ 990) ∧ x % 10 = 0 ∧ sLaw T lev Y s x u k = 0 ∧ (∀ x' : Int, x' % 10 = 0 → sLaw T lev Y s x' u k = 0 → x ≤ x') ∧ (∀ u' : Nat, u' < u → ∀ x : Int, x % 10 = 0 → sLaw T lev Y s x u' k ≠ 0) ∧ S' 9 5 = x ∧ S' 9 6 = u ∧ S' 9 7 = k ∧ S' 9 8 = sLeave T lev s u k) := fun v S2 w1 w2 w3 hI2 hc2 hf2 hb2 => by
        obtain ⟨r, S', x1, x2, x3, x4⟩ := find_t hb hT hs h0 hk j n v S2 (by omega) (by omega) (by omega) hI2 hc2 (fun p hp => by rw [hb2]; exact hbed p hp) (fun u hu => by
          rcases Nat.lt_or_ge u t with w | w
          · exact hlow u w
          · exact w3 u w hu)
        exact ⟨r, S', x1, x2, fF_tr hf2 x3, x4⟩
      rw [if_neg gt, t1]
      simp only [ob_some]
      rw [qk_r (by omega) (by omega)]
      by_cases g2 : sTime T lev s (t : Int) k = 0
      · have st := sTime_ok g2
        have hw := sWork_b hT hs (k := k) (by omega) (by omega)
        have hl := sNext_rng T lev (sCon T s 2) ((t : Int) + sWork T s k).toNat
        have el : sNext T lev (sCon T s 2) ((t : Int) + sWork T s k).toNat = sLeave T lev s t k := rfl
        rw [el] at hl
        have hl2 : (t : Int) + sWork T s k ≤ sLeave T lev s t k ∧ sLeave T lev s t k ≤ 335 := by
          rcases hl with q | q
          · exact absurd q st.2.2.2
          · omega
        obtain ⟨e84, e85⟩ := t3 g2
        rw [if_pos g2]
        obtain ⟨r8, v1, v2⟩ := firstShort_s (s := s) hI1 hb hc1 (k := k) (t := (t : Int)) (by omega) (by omega) (by omega) (by omega) e84
        rw [v1]
        simp only [ob_some]
        rcases v2 with ⟨w1, w2⟩ | ⟨u, w1, w2, w3⟩
        · obtain ⟨r, S2, y1, y2, y3, y4, y5⟩ := firstMetre_s hb hI1 hc1 hs h0 g2 w2 e84 e85 (fun p hp => by rw [t2 46 (by omega)]; exact hbed p hp)
          have hI2 := fC_iT hI1 (fL_C y3)
          rw [w1, qk_r (by omega) (by omega), if_pos rfl, y1]
          simp only [ob_some]
          rcases y5 with ⟨z1, z2⟩ | ⟨z1, z2, z3, z4, z5⟩
          · rw [z1, qk_r (by omega) (by omega), if_pos rfl]
            have nx := next (t + 1) S2 (by omega) (by omega) (fun u a1 a2 => by
              have : u = t := by omega
              rw [this]
              exact z2) hI2 y2 (fF_tr hf1 (fL_F y3)) (by rw [y3.1 46 (by omega), t2 46 (by omega)])
            rw [f1] at nx
            exact nx
          · rw [qk_r (by omega) (by omega), if_neg (show ¬ r = -1 by omega)]
            have e8 : S2 8 5 = sLeave T lev s t k := by rw [y4]; exact e85
            have q8 : (qup (qup (qup S2 9 5 r) 9 6 (t : Int)) 9 7 k) 8 5 = sLeave T lev s t k := by
              rw [qup_off (by omega), qup_off (by omega), qup_off (by omega)]
              exact e8
            rw [q8]
            have off : ∀ c, c ≠ 9 → (qup (qup (qup (qup S2 9 5 r) 9 6 (t : Int)) 9 7 k) 9 8 (sLeave T lev s t k)) c = S2 c := fun c hc => by
              rw [qup_off hc, qup_off hc, qup_off hc, qup_off hc]
            refine ⟨_, _, rfl, cY_off y2 (fun c hc => off c (by omega)), fF_tr (fF_tr hf1 (fL_F y3)) ⟨fun c hc => off c (by omega), fun i _ => by rw [off 6 (by omega)]⟩, Or.inr ⟨t, r, rfl, by omega, ⟨z1, z2⟩, z3, z4, z5, hlow, ?_, ?_, ?_, ?_⟩⟩
            · rw [qup_on, if_neg (by omega), qup_on, if_neg (by omega), qup_on, if_neg (by omega), qup_on, if_pos rfl]
            · rw [qup_on, if_neg (by omega), qup_on, if_neg (by omega), qup_on, if_pos rfl]
            · rw [qup_on, if_neg (by omega), qup_on, if_pos rfl]
            · rw [qup_on, if_pos rfl]
        · rw [w1, qk_r (by omega) (by omega), if_neg (show ¬ (u : Int) = -1 by omega)]
          have nx := next (u + 1) S1 (by omega) (by omega) (fun v a1 a2 x hx hz => by
            have z := sLaw_ok hz
            have zt := z.1.2.2.1
            refine z.2.2.2.2.1 ⟨u, ⟨by omega, by omega⟩, w3⟩) hI1 hc1 hf1 (t2 46 (by omega))
          have f2 : (((u + 1 : Nat)) : Int) = (u : Int) + 1 := by omega
          rw [f2] at nx
          exact nx
      · rw [if_neg g2]
        have nx := next (t + 1) S1 (by omega) (by omega) (fun u a1 a2 x hx hz => by
          have : u = t := by omega
          rw [this] at hz
          exact g2 (sLaw_ok hz).2.1) hI1 hc1 hf1 (t2 46 (by omega))
        rw [f1] at nx
        exact nx
/-- found, or nothing to be found, by fewer and fewer cranes -/
def fdN (T lev : Nat → Int) (Y : qY) (s : Nat) (most least : Int) : Prop := ∀ k, least ≤ k → k ≤ most → isN T lev Y s k
def fdS (T lev : Nat → Int) (Y : qY) (s : Nat) (most least k t x : Int) : Prop := (least ≤ k ∧ k ≤ most) ∧ isS T lev Y s k t x ∧ ∀ k', k < k' → k' ≤ most → isN T lev Y s k'
theorem slots_N {s : Nat} {k : Int} (h : ∀ u : Nat, u < 336 → ∀ x : Int, x % 10 = 0 → sLaw T lev Y s x u k ≠ 0) (hT : bT T) (hs : (s : Int) < T 9) : isN T lev Y s k := fun t x hx hz => by
  have z := (sLaw_ok hz).1.2.2.1
  have cn := bT_con hT hs
  have := h t.toNat (by omega) x hx
  rw [show ((t.toNat : Nat) : Int) = t by omega] at this
  exact this hz
theorem slots_S {s : Nat} {k x : Int} {u : Nat} (hT : bT T) (hs : (s : Int) < T 9) (hx : x % 10 = 0) (h0 : sLaw T lev Y s x u k = 0) (h1 : ∀ x' : Int, x' % 10 = 0 → sLaw T lev Y s x' u k = 0 → x ≤ x') (h2 : ∀ u' : Nat, u' < u → ∀ x : Int, x % 10 = 0 → sLaw T lev Y s x u' k ≠ 0) : isS T lev Y s k u x := by
  refine ⟨hx, h0, fun t' x' hx' hz => ?_⟩
  have z := (sLaw_ok hz).1.2.2.1
  have cn := bT_con hT hs
  have et : ((t'.toNat : Nat) : Int) = t' := by omega
  rcases Nat.lt_or_ge t'.toNat u with w | w
  · have := h2 t'.toNat w x' hx'
    rw [et] at this
    exact absurd hz this
  · rcases Nat.lt_or_ge u t'.toNat with v | v
    · exact Or.inl (by omega)
    · have : (u : Int) = t' := by omega
      refine Or.inr ⟨this, h1 x' hx' ?_⟩
      rw [this]
      exact hz
theorem find_k (hb : bY T lev Y) (hT : bT T) {s : Nat} (hs : (s : Int) < T 9) (h0 : Y.2.2 s = 0) {most least : Int} (hl : 1 ≤ least) (hm : most ≤ 8) : ∀ (j n : Nat) (k : Int) (S : qSto), k + 1 = least + j → k ≤ most → j < n → iT S T lev → cY S T lev Y → (∀ k', k < k' → k' ≤ most → isN T lev Y s k') → ∃ r S', Search_find_L3 n (s : Int) least k S = some r ∧ cY S' T lev Y ∧ fF S S' ∧ ((r = .inl S' ∧ fdN T lev Y s most least) ∨ ∃ k t x, r = .inr (1, S') ∧ fdS T lev Y s most least k t x ∧ S' 9 5 = x ∧ S' 9 6 = t ∧ S' 9 7 = k ∧ S' 9 8 = sLeave T lev s t k)
  | 0, n + 1, k, S, e, hkm, _, hI, hc, hn => by
    rw [Search_find_L3]
    simp (disch := omega) only [qk_r, if_pos (show k < least by omega)]
    exact ⟨_, S, rfl, hc, fF_rfl, Or.inl ⟨rfl, fun k' a b => hn k' (by omega) b⟩⟩
  | j + 1, n + 1, k, S, e, hkm, hj, hI, hc, hn => by
    obtain ⟨h, S1, t1, t2, t3, t4, t5⟩ := survey_s hI hs (k := k) ⟨by omega, by omega⟩
    have hI1 : iT S1 T lev := iT_off hI (fun c hc => t2 c (by omega))
    have hc1 : cY S1 T lev Y := cY_off hc (fun c hc => t2 c (by omega))
    have cn := bT_con hT hs
    have next : isN T lev Y s k → ∀ S2, iT S2 T lev → cY S2 T lev Y → fF S S2 → ∃ r S', Search_find_L3 n (s : Int) least (k + -1) S2 = some r ∧ cY S' T lev Y ∧ fF S S' ∧ ((r = .inl S' ∧ fdN T lev Y s most least) ∨ ∃ k t x, r = .inr (1, S') ∧ fdS T lev Y s most least k t x ∧ S' 9 5 = x ∧ S' 9 6 = t ∧ S' 9 7 = k ∧ S' 9 8 = sLeave T lev s t k) := fun hk S2 hI2 hc2 hf2 => by
      obtain ⟨r, S', x1, x2, x3, x4⟩ := find_k hb hT hs h0 hl hm j n (k + -1) S2 (by omega) (by omega) (by omega) hI2 hc2 (fun k' a b => by
        rcases Int.lt_or_le k k' with w | w
        · exact hn k' w b
        · have : k' = k := by omega
          rw [this]
          exact hk)
      exact ⟨r, S', x1, x2, fF_tr hf2 x3, x4⟩
    rw [Search_find_L3, qk_r (by omega) (by omega), qk_r (by omega) (by omega), if_neg (show ¬ k < least by omega), t1]
    simp only [ob_some]
    rw [qk_r (by omega) (by omega)]
    by_cases g : h = 0
    · rw [if_pos g]
      refine next (fun t x hx => ?_) S1 hI1 hc1 (fO46_F t2)
      exact ten_far hT hs (fun p hp => nRd_law hT hb hs (t4 g p hp)) hx
    · have ec : Told_contractOf (s : Int) 4 S1 = some (sCon T s 4, S1) := Told_contractOf_s hI1 hs (w := 4) (by omega)
      rw [if_neg g, ec]
      simp only [ob_some]
      have f4 : (((sCon T s 4).toNat : Nat) : Int) = sCon T s 4 := by omega
      obtain ⟨r, S2, u1, u2, u3, u4⟩ := find_t hb hT hs h0 (k := k) ⟨by omega, by omega⟩ 336 qF (sCon T s 4).toNat S1 (by omega) (by unfold qF; omega) (by omega) hI1 hc1 t5 (fun u hu x hx hz => by
        have z := (sLaw_ok hz).1.2.2.1
        omega)
      rw [f4] at u1
      rw [u1]
      have hf := fF_tr (fO46_F t2) u3
      rcases u4 with ⟨q1, q2⟩ | ⟨u, x, q1, q2, q3, q4, q5, q6, q7, q8⟩
      · rw [q1]
        simp only [ob_some, Sum.elim_inl]
        exact next (slots_N q2 hT hs) S2 (fC_iT hI1 (fF_C u3)) u2 hf
      · rw [q1]
        simp only [ob_some, Sum.elim_inr]
        exact ⟨_, S2, rfl, u2, hf, Or.inr ⟨k, u, x, rfl, ⟨⟨by omega, hkm⟩, slots_S hT hs q4 q5 q6 q7, hn⟩, q8⟩⟩
/-- the class looks -/
theorem find_s {S : qSto} (hI : iT S T lev) (hb : bY T lev Y) (hc : cY S T lev Y) {s : Nat} (hs : (s : Int) < T 9) (h0 : Y.2.2 s = 0) {most least : Int} (hl : 1 ≤ least) (hm : most ≤ 8) (hlm : least ≤ most) : ∃ r S', Search_find (s : Int) most least S = some (r, S') ∧ cY S' T lev Y ∧ fF S S' ∧ ((r = 0 ∧ fdN T lev Y s most least) ∨ (r = 1 ∧ ∃ k t x, fdS T lev Y s most least k t x ∧ S' 9 5 = x ∧ S' 9 6 = t ∧ S' 9 7 = k ∧ S' 9 8 = sLeave T lev s t k)) := by
  obtain ⟨r, S', t1, t2, t3, t4⟩ := find_k hb hI.1 hs h0 hl hm (most + 1 - least).toNat qF most S (by omega) (Int.le_refl _) (by unfold qF; omega) hI hc (fun k' a b => by omega)
  rw [Search_find, t1]
  rcases t4 with ⟨q1, q2⟩ | ⟨k, t, x, q1, q2⟩
  · rw [q1]
    exact ⟨0, S', rfl, t2, t3, Or.inl ⟨rfl, q2⟩⟩
  · rw [q1]
    exact ⟨1, S', rfl, t2, t3, Or.inr ⟨rfl, k, t, x, q2⟩⟩
end PFF
