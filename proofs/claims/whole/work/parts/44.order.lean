/-! orders: the class counts, the reference sorts -/
def sKey (T : Nat → Int) (r : Int) (s : Nat) : Int := if r = 0 then sCon T s 6 * 336 + sCon T s 4 else if r = 1 then sCon T s 4 * 4 + sCon T s 6 else if r = 2 then sCon T s 5 else -sCon T s 0
noncomputable def sOrd (T : Nat → Int) (r : Int) (n : Nat) : List Nat := oL (fun _ => True) (sKey T r) n
theorem oIns_len {f : Nat → Int} {a : Nat} : ∀ l : List Nat, (oIns f a l).length = l.length + 1
  | [] => rfl
  | b :: l => by
    rw [oIns]
    split
    · rfl
    · rw [List.length_cons, oIns_len l, List.length_cons]
section POR
variable {T lev : Nat → Int} {Y : qY}
theorem sOrd_len {r : Int} : ∀ n : Nat, (sOrd T r n).length = n
  | 0 => rfl
  | n + 1 => by
    have e : sOrd T r (n + 1) = oIns (sKey T r) n (sOrd T r n) := oL_s _ _ trivial
    rw [e, oIns_len, sOrd_len n]
theorem sKey_b (hT : bT T) {r : Int} {s : Nat} (hs : (s : Int) < T 9) : -400 ≤ sKey T r s ∧ sKey T r s ≤ 1400 := by
  have c := bT_con hT hs
  unfold sKey
  split
  · omega
  · split
    · omega
    · split
      · omega
      · omega
theorem keyOf_s {S : qSto} (hI : iT S T lev) {r : Int} (hr : qR r) {s : Nat} (hs : (s : Int) < T 9) : Ranking_keyOf r (s : Int) S = some (sKey T r s, S) := by
  obtain ⟨r1, r2⟩ := hr
  have c0 : Told_contractOf (s : Int) 0 S = some (sCon T s 0, S) := Told_contractOf_s hI hs (w := 0) (by omega)
  have c4 : Told_contractOf (s : Int) 4 S = some (sCon T s 4, S) := Told_contractOf_s hI hs (w := 4) (by omega)
  have c5 : Told_contractOf (s : Int) 5 S = some (sCon T s 5, S) := Told_contractOf_s hI hs (w := 5) (by omega)
  have c6 : Told_contractOf (s : Int) 6 S = some (sCon T s 6, S) := Told_contractOf_s hI hs (w := 6) (by omega)
  rw [Ranking_keyOf, qk_r r1 r2, c0, c4, c5, c6]
  simp only [ob_some, c4, c6]
  unfold sKey
  split
  · rfl
  · split
    · rfl
    · split
      · rfl
      · rfl
/-- how many stand ahead of a ship -/
def sAh (T : Nat → Int) (r : Int) (s n : Nat) : Int := sm (fun o => if sKey T r o < sKey T r s ∨ (sKey T r o = sKey T r s ∧ o < s) then 1 else 0) n
theorem shipsAhead_L {S : qSto} (hI : iT S T lev) {r : Int} (hr : qR r) {s : Nat} (hs : (s : Int) < T 9) : ∀ (j n i : Nat), (i : Int) + j = T 9 → j < n → Ranking_shipsAhead_L13 n r (s : Int) (sKey T r s) (sAh T r s i) (i : Int) S = some (sAh T r s (sN T), S)
  | 0, n + 1, i, e, _ => by
    have b9 := bT_n hI.1
    have e1 := hI.2.1.2.2.2.2.1
    rw [Ranking_shipsAhead_L13]
    simp (disch := omega) only [qk_r, e1, if_pos (show T 9 ≤ (i : Int) by omega)]
    unfold sN
    rw [show (T 9).toNat = i by omega]
  | j + 1, n + 1, i, e, hn => by
    have b9 := bT_n hI.1
    have e1 := hI.2.1.2.2.2.2.1
    have k1 := sKey_b hI.1 (r := r) (s := i) (by omega)
    have k2 := sKey_b hI.1 (r := r) hs
    have ih := shipsAhead_L hI hr hs j n (i + 1) (by omega) (by omega)
    unfold sAh at ih ⊢
    rw [sm] at ih
    rw [Ranking_shipsAhead_L13]
    simp (disch := omega) only [qk_r, e1, if_neg (show ¬ T 9 ≤ (i : Int) by omega), keyOf_s hI hr (s := i) (by omega), ob_some]
    by_cases g : sKey T r i < sKey T r s
    · rw [if_pos (Or.inl g)] at ih
      simp only [if_pos g, ob_some]
      exact ih
    · simp only [if_neg g]
      by_cases g2 : sKey T r i = sKey T r s
      · simp only [if_pos g2]
        by_cases g3 : (s : Int) ≤ (i : Int)
        · rw [if_neg (by omega), Int.add_zero] at ih
          simp only [if_pos g3, ob_some]
          exact ih
        · rw [if_pos (Or.inr ⟨g2, by omega⟩)] at ih
          simp only [if_neg g3, ob_some]
          exact ih
      · rw [if_neg (by omega), Int.add_zero] at ih
        simp only [if_neg g2, ob_some]
        exact ih
theorem shipsAhead_s {S : qSto} (hI : iT S T lev) {r : Int} (hr : qR r) {s : Nat} (hs : (s : Int) < T 9) : Ranking_shipsAhead r (s : Int) S = some (sAh T r s (sN T), S) := by
  have b9 := bT_n hI.1
  have z := shipsAhead_L hI hr hs (T 9).toNat qF 0 (by omega) (by unfold qF; omega)
  have z' : Ranking_shipsAhead_L13 qF r (s : Int) (sKey T r s) 0 0 S = _ := z
  rw [Ranking_shipsAhead, keyOf_s hI hr hs]
  simp only [ob_some]
  rw [z']
  rfl
theorem sAh_pos {r : Int} {s : Nat} {l1 l2 : List Nat} (e : sOrd T r (sN T) = l1 ++ s :: l2) : sAh T r s (sN T) = l1.length := by
  unfold sAh
  refine oL_count e (fun o _ _ h => ?_) (fun o _ h => ?_)
  · unfold oLt at h
    exact if_pos h
  · refine if_neg (fun q => h ⟨trivial, ?_⟩)
    unfold oLt
    exact q
theorem sOrd_mem {r : Int} {s : Nat} (hs : s < sN T) : s ∈ sOrd T r (sN T) := (oL_mem _ _).mpr ⟨hs, trivial⟩
theorem sAh_iff {r : Int} {s i : Nat} (hs : s < sN T) : sAh T r s (sN T) = i ↔ (sOrd T r (sN T))[i]? = some s := by
  constructor
  · intro h
    obtain ⟨l1, l2, e⟩ := List.append_of_mem (sOrd_mem (r := r) hs)
    have := sAh_pos e
    have hi : i = l1.length := by omega
    rw [e, hi]
    simp
  · intro h
    obtain ⟨hl, hv⟩ := List.getElem?_eq_some_iff.mp h
    have e : sOrd T r (sN T) = (sOrd T r (sN T)).take i ++ s :: (sOrd T r (sN T)).drop (i + 1) := by
      rw [← hv]
      simp
    have := sAh_pos e
    rw [this, List.length_take]
    omega
theorem sOrd_at {r : Int} {i : Nat} (hi : i < sN T) : ∃ s, (sOrd T r (sN T))[i]? = some s ∧ s < sN T := by
  have hl : i < (sOrd T r (sN T)).length := by
    rw [sOrd_len]
    exact hi
  refine ⟨(sOrd T r (sN T))[i], List.getElem?_eq_getElem hl, ?_⟩
  exact ((oL_mem _ _).mp (List.getElem_mem hl)).1
theorem shipAt_L {S : qSto} (hI : iT S T lev) {r : Int} (hr : qR r) {i s : Nat} (hi : i < 14) (h : (sOrd T r (sN T))[i]? = some s) (hs : s < sN T) : ∀ (j n u : Nat), u + j = s → j < n → Ranking_shipAt_L2 n r (i : Int) (u : Int) S = some (.inr ((s : Int), S))
  | 0, n + 1, u, e, _ => by
    have b9 := bT_n hI.1
    have e1 := hI.2.1.2.2.2.2.1
    have hs' : (u : Int) < T 9 := by unfold sN at hs; omega
    have q := (sAh_iff hs).mpr h
    rw [Ranking_shipAt_L2]
    simp (disch := omega) only [qk_r, e1, if_neg (show ¬ T 9 ≤ (u : Int) by omega), shipsAhead_s hI hr hs', ob_some]
    have eu : u = s := by omega
    subst eu
    rw [q, qk_r (by omega) (by omega), if_pos rfl]
  | j + 1, n + 1, u, e, hn => by
    have b9 := bT_n hI.1
    have e1 := hI.2.1.2.2.2.2.1
    have hs' : (u : Int) < T 9 := by unfold sN at hs; omega
    have bnd := sm_bnd (f := fun o => if sKey T r o < sKey T r u ∨ (sKey T r o = sKey T r u ∧ o < u) then 1 else 0) (c := 1) (n := sN T) (fun k _ => by
      skip
      split <;> omega)
    have ne : sAh T r u (sN T) ≠ i := fun q => by
      have := (sAh_iff (by unfold sN; omega)).mp q
      rw [h] at this
      have : s = u := by simpa using this
      omega
    have bnd' : 0 ≤ sAh T r u (sN T) ∧ sAh T r u (sN T) ≤ 14 := by
      unfold sAh
      unfold sN at bnd ⊢
      omega
    rw [Ranking_shipAt_L2]
    simp (disch := omega) only [qk_r, e1, if_neg (show ¬ T 9 ≤ (u : Int) by omega), shipsAhead_s hI hr hs', ob_some]
    rw [if_neg ne]
    exact shipAt_L hI hr hi h hs j n (u + 1) (by omega) (by omega)
theorem shipAt_s {S : qSto} (hI : iT S T lev) {r : Int} (hr : qR r) {i s : Nat} (hi : i < 14) (h : (sOrd T r (sN T))[i]? = some s) (hs : s < sN T) : Ranking_shipAt r (i : Int) S = some ((s : Int), S) := by
  have b9 := bT_n hI.1
  have z := shipAt_L hI hr hi h hs s qF 0 (by omega) (by unfold sN at hs; unfold qF; omega)
  have z' : Ranking_shipAt_L2 qF r (i : Int) 0 S = _ := z
  rw [Ranking_shipAt, z']
  rfl
theorem compares_s {S : qSto} (hI : iT S T lev) {r : Int} (hr : qR r) {a b : Nat} (ha : (a : Int) < T 9) (hb : (b : Int) < T 9) (hab : b < a) : ∃ v, M_compares r (a : Int) (b : Int) S = some (v, S) ∧ qR v ∧ (v < 0 ↔ sKey T r a < sKey T r b) := by
  obtain ⟨r1, r2⟩ := hr
  have b9 := bT_n hI.1
  have ca := bT_con hI.1 ha
  have cb := bT_con hI.1 hb
  have a0 : M_of (a : Int) 0 S = some (sCon T a 0, S) := M_of_s hI ha (w := 0) (by omega)
  have a4 : M_of (a : Int) 4 S = some (sCon T a 4, S) := M_of_s hI ha (w := 4) (by omega)
  have a5 : M_of (a : Int) 5 S = some (sCon T a 5, S) := M_of_s hI ha (w := 5) (by omega)
  have a6 : M_of (a : Int) 6 S = some (sCon T a 6, S) := M_of_s hI ha (w := 6) (by omega)
  have b0 : M_of (b : Int) 0 S = some (sCon T b 0, S) := M_of_s hI hb (w := 0) (by omega)
  have b4 : M_of (b : Int) 4 S = some (sCon T b 4, S) := M_of_s hI hb (w := 4) (by omega)
  have b5 : M_of (b : Int) 5 S = some (sCon T b 5, S) := M_of_s hI hb (w := 5) (by omega)
  have b6 : M_of (b : Int) 6 S = some (sCon T b 6, S) := M_of_s hI hb (w := 6) (by omega)
  have fst : ∀ x y z : Int, qR x → qR y → M_first x y z S = some (if x = 0 then (if y = 0 then z else y) else x, S) := fun x y z hx hy => by
    rw [M_first, qk_r hx.1 hx.2, qk_r hy.1 hy.2]
    split
    · split
      · rfl
      · rfl
    · rfl
  rw [M_compares]
  simp only [a6, b6, a4, b4, a5, b5, a0, b0, ob_some]
  rw [qk_r r1 r2, fst _ _ _ ⟨by omega, by omega⟩ ⟨by omega, by omega⟩, fst _ _ _ ⟨by omega, by omega⟩ ⟨by omega, by omega⟩, fst _ _ _ ⟨by omega, by omega⟩ ⟨by omega, by omega⟩, fst _ _ _ ⟨by omega, by omega⟩ ⟨by omega, by omega⟩]
  simp only [ob_some]
  unfold sKey
  by_cases g0 : r = 0
  · simp only [if_pos g0]
    refine ⟨_, rfl, ?_, ?_⟩
    · unfold qR
      split
      · split <;> omega
      · omega
    · split
      · split <;> omega
      · omega
  · simp only [if_neg g0]
    by_cases g1 : r = 1
    · simp only [if_pos g1]
      refine ⟨_, rfl, ?_, ?_⟩
      · unfold qR
        split
        · split <;> omega
        · omega
      · split
        · split <;> omega
        · omega
    · simp only [if_neg g1]
      by_cases g2 : r = 2
      · simp only [if_pos g2]
        refine ⟨_, rfl, ?_, ?_⟩
        · unfold qR
          split
          · split <;> omega
          · omega
        · split
          · split <;> omega
          · omega
      · simp only [if_neg g2]
        refine ⟨_, rfl, ?_, ?_⟩
        · unfold qR
          split
          · split <;> omega
          · omega
        · split
          · split <;> omega
          · omega
/-- the row of an order holds the list l -/
def rO (S : qSto) (l : List Nat) : Prop := ∀ p s : Nat, l[p]? = some s → S 88 p = s
theorem laysOrder_in {r : Int} (hr : qR r) {l : List Nat} {a : Nat} (ha : (a : Int) < T 9) (hT : bT T) (hl : l.length < 14) (hm : ∀ s ∈ l, s < a) : ∀ (p n : Nat) (S : qSto), p ≤ l.length → p < n → iT S T lev → (∀ q s : Nat, l[q]? = some s → q < p → S 88 q = s) → (∀ q s : Nat, l[q]? = some s → p ≤ q → S 88 (q + 1) = s) → (∀ q s : Nat, l[q]? = some s → p ≤ q → sKey T r a < sKey T r s) → ∃ (p' : Nat) (S' : qSto), M_laysOrder_L15 n r (a : Int) (p : Int) S = some ((p' : Int), S') ∧ p' ≤ l.length ∧ (∀ q s : Nat, l[q]? = some s → q < p' → S' 88 q = s) ∧ (∀ q s : Nat, l[q]? = some s → p' ≤ q → S' 88 (q + 1) = s) ∧ (∀ q s : Nat, l[q]? = some s → p' ≤ q → sKey T r a < sKey T r s) ∧ (p' = 0 ∨ ∃ s, l[p' - 1]? = some s ∧ sKey T r s ≤ sKey T r a) ∧ fO 88 S S'
  | 0, n + 1, S, _, _, hI, h1, h2, h3 => by
    refine ⟨0, S, ?_, by omega, h1, h2, h3, Or.inl rfl, fun c _ => rfl⟩
    rw [M_laysOrder_L15]
    simp (disch := omega) only [qk_r]
    rfl
  | p + 1, n + 1, S, hp, hn, hI, h1, h2, h3 => by
    have b9 := bT_n hT
    obtain ⟨s, es⟩ : ∃ s, l[p]? = some s := ⟨l[p]'(by omega), List.getElem?_eq_getElem (by omega)⟩
    have hs := List.mem_of_getElem? es
    have hsa := hm s hs
    have e44 := h1 p s es (by omega)
    have f1 : ((p + 1 : Nat) : Int) - 1 = (p : Int) := by omega
    obtain ⟨v, v1, ⟨v2, v3⟩, v4⟩ := compares_s hI hr ha (b := s) (by omega) hsa
    rw [M_laysOrder_L15]
    simp (disch := omega) only [f1, qk_r, qk_ix, if_neg (show ¬ ((p + 1 : Nat) : Int) ≤ 0 by omega), Int.toNat_natCast, e44, v1, ob_some]
    by_cases g : 0 ≤ v
    · simp only [if_pos g]
      exact ⟨p + 1, S, rfl, hp, h1, h2, h3, Or.inr ⟨s, es, by omega⟩, fun c _ => rfl⟩
    · simp only [if_neg g]
      obtain ⟨p', S', k1, k2, k3, k4, k5, k6, k7⟩ := laysOrder_in hr ha hT hl hm p n (qup S 88 (p + 1) (s : Int)) (by omega) (by omega) (iT_off hI (fun c hc => qup_off (by omega))) (fun q z y1 y2 => by
          rw [qup_on, if_neg (by omega)]
          exact h1 q z y1 (by omega)) (fun q z y1 y2 => by
          rw [qup_on]
          rcases Nat.lt_or_ge p q with w | w
          · rw [if_neg (by omega)]
            exact h2 q z y1 (by omega)
          · have : q = p := by omega
            subst this
            rw [es] at y1
            rw [if_pos rfl]
            have : s = z := by simpa using y1
            rw [this]) (fun q z y1 y2 => by
          rcases Nat.lt_or_ge p q with w | w
          · exact h3 q z y1 (by omega)
          · have : q = p := by omega
            subst this
            rw [es] at y1
            have : s = z := by simpa using y1
            rw [← this]
            omega)
      refine ⟨p', S', k1, k2, k3, k4, k5, k6, fun c hc => ?_⟩
      rw [k7 c hc, qup_off hc]
theorem laysOrder_L {r : Int} (hr : qR r) : ∀ (j n i : Nat) (S : qSto), (i : Int) + j = T 9 → j < n → iT S T lev → rO S (sOrd T r i) → ∃ S', M_laysOrder_L2 n r (i : Int) S = some S' ∧ fO 88 S S' ∧ rO S' (sOrd T r (sN T))
  | 0, n + 1, i, S, e, _, hI, h2 => by
    have b9 := bT_n hI.1
    have e1 := hI.2.2.1 9
    rw [M_laysOrder_L2]
    simp (disch := omega) only [qk_r, e1, if_pos (show T 9 ≤ (i : Int) by omega)]
    unfold sN
    rw [show (T 9).toNat = i by omega]
    exact ⟨S, rfl, fun c _ => rfl, h2⟩
  | j + 1, n + 1, i, S, e, hn, hI, h2 => by
    have b9 := bT_n hI.1
    have e1 := hI.2.2.1 9
    have f1 : (((i + 1 : Nat)) : Int) = (i : Int) + 1 := by omega
    have hlen := sOrd_len (T := T) (r := r) i
    have hmem : ∀ s ∈ sOrd T r i, s < i := fun s hs => ((oL_mem _ _).mp hs).1
    obtain ⟨p', S', k1, k2, k3, k4, k5, k6, k7⟩ := laysOrder_in hr (l := sOrd T r i) (a := i) (by omega) hI.1 (by omega) hmem (sOrd T r i).length qF S (Nat.le_refl _) (by unfold qF; omega) hI (fun q s y1 y2 => h2 q s y1) (fun q s y1 y2 => by
          have := (List.getElem?_eq_some_iff.mp y1).1
          omega) (fun q s y1 y2 => by
          have := (List.getElem?_eq_some_iff.mp y1).1
          omega)
    have es : sOrd T r (i + 1) = (sOrd T r i).take p' ++ i :: (sOrd T r i).drop p' := by
      have : sOrd T r (i + 1) = oIns (sKey T r) i (sOrd T r i) := oL_s _ _ trivial
      rw [this]
      exact oIns_at _ _ k2 (oL_sorted _ _ _) k5 k6
    rw [hlen] at k1
    rw [M_laysOrder_L2]
    simp (disch := omega) only [qk_r, e1, if_neg (show ¬ T 9 ≤ (i : Int) by omega), k1, ob_some, qk_ix, Int.toNat_natCast]
    obtain ⟨S2, t1, t2, t4⟩ := laysOrder_L hr j n (i + 1) (qup S' 88 p' (i : Int)) (by omega) (by omega) (iT_off hI (fun c hc => by
        rw [qup_off (by omega)]
        exact k7 c (by omega))) (by
        intro p s hps
        rw [qup_on]
        rw [es] at hps
        have hlt : (List.take p' (sOrd T r i)).length = p' := by
          rw [List.length_take]
          omega
        by_cases c : p = p'
        · subst c
          rw [if_pos rfl]
          rw [List.getElem?_append_right (by omega), hlt, Nat.sub_self] at hps
          have : i = s := by simpa using hps
          rw [this]
        · rw [if_neg c]
          rcases Nat.lt_or_ge p p' with q | q
          · rw [List.getElem?_append_left (by omega), List.getElem?_take_of_lt q] at hps
            exact k3 p s hps q
          · rw [List.getElem?_append_right (by omega), hlt] at hps
            obtain ⟨d, rfl⟩ : ∃ d, p = p' + 1 + d := ⟨p - p' - 1, by omega⟩
            rw [show p' + 1 + d - p' = d + 1 by omega] at hps
            rw [List.getElem?_cons_succ, List.getElem?_drop] at hps
            have := k4 (p' + d) s hps (by omega)
            rw [show p' + 1 + d = p' + d + 1 by omega]
            exact this)
    rw [f1] at t1
    exact ⟨S2, t1, fun c hc => by rw [t2 c hc, qup_off hc, k7 c hc], t4⟩
theorem laysOrder_s {S : qSto} {r : Int} (hr : qR r) (hI : iT S T lev) : ∃ S', M_laysOrder r S = some S' ∧ fO 88 S S' ∧ rO S' (sOrd T r (sN T)) := by
  have b9 := bT_n hI.1
  obtain ⟨S', t1, t2, t3⟩ := laysOrder_L hr (T 9).toNat qF 0 S (by omega) (by unfold qF; omega) hI (fun p s h => by
    have : sOrd T r 0 = [] := rfl
    rw [this] at h
    simp at h)
  have t1' : M_laysOrder_L2 qF r 0 S = some S' := t1
  exact ⟨S', by rw [M_laysOrder, t1']; rfl, t2, t3⟩
theorem isRule_s {S : qSto} {a : Int} (ha : qR a) : C_isRule a S = some (if 0 ≤ a ∧ a ≤ 3 then 1 else 0, S) := by
  obtain ⟨m1, m2⟩ := ha
  simp (disch := omega) only [C_isRule, qk_r]
  by_cases g1 : a < 0
  · rw [if_pos g1, if_neg (by omega)]
  · rw [if_neg g1]
    by_cases g2 : 4 ≤ a
    · rw [if_pos g2, if_neg (by omega)]
    · rw [if_neg g2, if_pos (by omega)]
theorem fO88_T {S S1 : qSto} (h : fO 88 S S1) : fT S S1 := ⟨fun c hc => h c (by omega), fun i _ => by rw [h 70 (by omega)], fun q _ u _ => by show S1 85 _ = S 85 _; rw [h 85 (by omega)]⟩
theorem g_order {a b : Int} (ha : qR a) (hb : qR b) : gOK (C_order a b) (M_order a b) := fun S h => by
  obtain ⟨T, lev, Y, hA', hw, hH, hK, hR, hF⟩ := id h
  obtain ⟨hI, hB, hc, hm⟩ := id hA'
  obtain ⟨a1, a2⟩ := id ha
  obtain ⟨b1, b2⟩ := id hb
  have b9 := bT_n hI.1
  have e1 := hI.2.1.2.2.2.2.1
  have e2 := hI.2.2.1 9
  by_cases g : 0 ≤ a ∧ a ≤ 3
  · by_cases g1 : 0 ≤ b
    · by_cases g2 : b < T 9
      · obtain ⟨i, rfl⟩ : ∃ i : Nat, b = i := ⟨b.toNat, by omega⟩
        obtain ⟨s, s1, s2⟩ := sOrd_at (T := T) (r := a) (i := i) (by unfold sN; omega)
        obtain ⟨S2, t1, t2, t3⟩ := laysOrder_s (S := S) ha hI
        refine ⟨(s : Int), S, S2, ?_, ?_, read_iG hA' hw hH hK hR hF fS_rfl hc (fO88_T t2) (mY_off hm (fun c hc => t2 c (by omega)))⟩
        · rw [C_order, isRule_s ha, if_pos g]
          simp only [ob_some]
          rw [qk_r (by omega) (by omega), if_neg (by omega), qk_r b1 b2, if_pos g1, qk_r b1 b2, e1, qk_r (by omega) (by omega), if_neg (by omega), shipAt_s hI ha (by omega) s1 s2]
          rfl
        · rw [M_order, qk_r a1 a2, M_in_s ⟨by omega, by omega⟩ ⟨by omega, by omega⟩ ⟨by omega, by omega⟩, if_pos g]
          simp only [ob_some]
          rw [qk_r (by omega) (by omega), if_neg (by omega), qk_r b1 b2, if_pos g1, qk_r b1 b2, e2, qk_r (by omega) (by omega), if_pos g2, t1]
          simp only [ob_some]
          rw [qk_ix (by omega) (by omega), Int.toNat_natCast, t3 i s s1]
      · refine ⟨-2, S, S, ?_, ?_, h⟩
        · rw [C_order, isRule_s ha, if_pos g]
          simp only [ob_some]
          rw [qk_r (by omega) (by omega), if_neg (by omega), qk_r b1 b2, if_pos g1, qk_r b1 b2, e1, qk_r (by omega) (by omega), if_pos (by omega)]
        · rw [M_order, qk_r a1 a2, M_in_s ⟨by omega, by omega⟩ ⟨by omega, by omega⟩ ⟨by omega, by omega⟩, if_pos g]
          simp only [ob_some]
          rw [qk_r (by omega) (by omega), if_neg (by omega), qk_r b1 b2, if_pos g1, qk_r b1 b2, e2, qk_r (by omega) (by omega), if_neg g2]
    · refine ⟨-1, S, S, ?_, ?_, h⟩
      · rw [C_order, isRule_s ha, if_pos g]
        simp only [ob_some]
        rw [qk_r (by omega) (by omega), if_neg (by omega), qk_r b1 b2, if_neg g1]
      · rw [M_order, qk_r a1 a2, M_in_s ⟨by omega, by omega⟩ ⟨by omega, by omega⟩ ⟨by omega, by omega⟩, if_pos g]
        simp only [ob_some]
        rw [qk_r (by omega) (by omega), if_neg (by omega), qk_r b1 b2, if_neg g1]
  · refine ⟨-1, S, S, ?_, ?_, h⟩
    · rw [C_order, isRule_s ha, if_neg g]
      rfl
    · rw [M_order, qk_r a1 a2, M_in_s ⟨by omega, by omega⟩ ⟨by omega, by omega⟩ ⟨by omega, by omega⟩, if_neg g]
      rfl
/-! all, by an order -/
theorem all_L {r : Int} (hr : qR r) (hT : bT T) : ∀ (j n i : Nat) (b : Int) (Y : qY) (S : qSto), (i : Int) + j = T 9 → j < n → iT S T lev → bY T lev Y → wY T lev Y → cY S T lev Y → ∃ R Y' S', C_all_L44 n r b (i : Int) S = some (R, S') ∧ bY T lev Y' ∧ wY T lev Y' ∧ cY S' T lev Y' ∧ fI S S' ∧ ∀ Sm, iT Sm T lev → mY Sm T lev Y → rO Sm (sOrd T r (sN T)) → ∃ Sm', M_all_L50 n b (i : Int) Sm = some (R, Sm') ∧ mY Sm' T lev Y' ∧ fM Sm Sm'
  | 0, n + 1, i, b, Y, S, e, _, hI, hB, hw, hc => by
    have b9 := bT_n hT
    have e1 := hI.2.1.2.2.2.2.1
    refine ⟨b, Y, S, ?_, hB, hw, hc, fI_rfl, fun Sm hIm hm hr => ⟨Sm, ?_, hm, fM_rfl⟩⟩
    · rw [C_all_L44]
      simp (disch := omega) only [qk_r, e1, if_pos (show T 9 ≤ (i : Int) by omega)]
    · have e2 := hIm.2.2.1 9
      rw [M_all_L50]
      simp (disch := omega) only [qk_r, e2, if_pos (show T 9 ≤ (i : Int) by omega)]
  | j + 1, n + 1, i, b, Y, S, e, hn, hI, hB, hw, hc => by
    have b9 := bT_n hT
    have e1 := hI.2.1.2.2.2.2.1
    obtain ⟨s, s1, s2⟩ := sOrd_at (T := T) (r := r) (i := i) (by unfold sN; omega)
    have hs : (s : Int) < T 9 := by unfold sN at s2; omega
    have sa := shipAt_s hI hr (i := i) (by omega) s1 s2
    by_cases g : 0 < Y.2.2 s
    · obtain ⟨R, Y', S', t1, t2, t3, t4, t5, t6⟩ := all_L hr hT j n (i + 1) b Y S (by omega) (by omega) hI hB hw hc
      refine ⟨R, Y', S', ?_, t2, t3, t4, t5, fun Sm hIm hm hro => ?_⟩
      · rw [C_all_L44]
        simp (disch := omega) only [qk_r, e1, if_neg (show ¬ T 9 ≤ (i : Int) by omega), sa, ob_some, if_neg (show ¬ (s : Int) = -1 by omega), Stays_has_s hB hc hT (s := s) (by omega), if_pos g, if_neg (show ¬ (1 : Int) = 0 by omega)]
        exact t1
      · obtain ⟨Sm', u1, u2, u3⟩ := t6 Sm hIm hm hro
        have e2 := hIm.2.2.1 9
        have e88 := hro i s s1
        refine ⟨Sm', ?_, u2, u3⟩
        rw [M_all_L50]
        simp (disch := omega) only [qk_r, qk_ix, e2, if_neg (show ¬ T 9 ≤ (i : Int) by omega), Int.toNat_natCast, e88, M_stays_s hB hm hT (s := s) (by omega), if_pos g, ob_some, if_neg (show ¬ (1 : Int) = 0 by omega)]
        exact u1
    · have h0 : Y.2.2 s = 0 := by
        have := (hB.1 s).1
        omega
      obtain ⟨S1, v1, v2, v3⟩ := layC_s hI hB hc hs h0
      obtain ⟨z1, z2, z3, z4, z5, z6⟩ := yB_ok hI hB hc hw hs h0
      obtain ⟨R, Y', S', t1, t2, t3, t4, t5, t6⟩ := all_L hr hT j n (i + 1) (b + sB T lev Y s) (yB T lev Y s) S1 (by omega) (by omega) (fC_iT hI (fI_C v2)) z1 z2 v3
      refine ⟨R, Y', S', ?_, t2, t3, t4, fI_tr v2 t5, fun Sm hIm hm hro => ?_⟩
      · rw [C_all_L44]
        simp (disch := omega) only [qk_r, e1, if_neg (show ¬ T 9 ≤ (i : Int) by omega), sa, ob_some, if_neg (show ¬ (s : Int) = -1 by omega), Stays_has_s hB hc hT (s := s) (by omega), if_neg g, if_true, v1]
        rcases z6 with q | q
        · rw [q] at t1 ⊢
          rw [Int.add_zero] at t1
          rw [if_pos rfl]
          exact t1
        · rw [q] at t1 ⊢
          rw [if_neg (by omega)]
          exact t1
      · obtain ⟨Sn, w1, w2, w3⟩ := layM_s hIm hB hm hw.1 hs h0
        obtain ⟨Sm', u1, u2, u3⟩ := t6 Sn (fM_iT hIm w2) w3 (fun p s hp => by rw [w2.1 88 (by omega)]; exact hro p s hp)
        have e2 := hIm.2.2.1 9
        have e88 := hro i s s1
        refine ⟨Sm', ?_, u2, fM_tr w2 u3⟩
        rw [M_all_L50]
        simp (disch := omega) only [qk_r, qk_ix, e2, if_neg (show ¬ T 9 ≤ (i : Int) by omega), Int.toNat_natCast, e88, M_stays_s hB hm hT (s := s) (by omega), if_neg g, ob_some, if_true, w1]
        rcases z6 with q | q
        · rw [q] at u1 ⊢
          rw [Int.add_zero] at u1
          rw [if_pos rfl]
          exact u1
        · rw [q] at u1 ⊢
          rw [if_neg (by omega)]
          exact u1
theorem sMany_b (hT : bT T) : 0 ≤ sMany T Y ∧ sMany T Y ≤ 14 := by
  have b9 := bT_n hT
  have := sm_bnd (f := fun s => if 0 < Y.2.2 s then 1 else 0) (c := 1) (n := sN T) (fun k _ => by
    skip
    split <;> omega)
  unfold sMany
  unfold sN at this ⊢
  omega
theorem g_all {a : Int} (ha : qR a) : gOK (C_all a) (M_all a) := fun S h => by
  obtain ⟨T, lev, Y, hA', hw, ⟨o, m, hH⟩, hK, hR, hF⟩ := id h
  obtain ⟨hI, hB, hc, hm⟩ := id hA'
  obtain ⟨a1, a2⟩ := id ha
  have b9 := bT_n hI.1
  have mb := sMany_b (Y := Y) hI.1
  by_cases g : 0 ≤ a ∧ a ≤ 3
  · have cl : C_all a S = (if sMany T Y = T 9 then some ((-2), S) else (Option.bind (Stays_save_14 S) (fun q1394 => Option.bind (C_all_L44 qF a 0 0 q1394) (fun q1408 => Option.bind (C_keepAct q1408.2) (fun q1410 => some (q1408.1, q1410)))))) := by
      have e1 := hI.2.1.2.2.2.2.1
      rw [C_all, isRule_s ha, if_pos g]
      simp only [ob_some]
      rw [qk_r (by omega) (by omega), if_neg (by omega), Stays_howMany_s hI hB hc]
      simp only [ob_some]
      rw [qk_r (by omega) (by omega), e1, qk_r (by omega) (by omega)]
    have mdl : ∀ S1, iT S1 T lev → mY S1 T lev Y → M_all a S1 = (if sMany T Y = T 9 then some ((-2), S1) else (Option.bind (M_puts 16 S1) (fun q3489 => Option.bind (M_keeps q3489) (fun q3491 => Option.bind (M_laysOrder a q3491) (fun q3493 => Option.bind (M_all_L50 qF 0 0 q3493) (fun q3507 => some (q3507.1, q3507.2))))))) := fun S1 hI1 hm1 => by
      have e2 := hI1.2.2.1 9
      rw [M_all, qk_r a1 a2, M_in_s ⟨by omega, by omega⟩ ⟨by omega, by omega⟩ ⟨by omega, by omega⟩, if_pos g]
      simp only [ob_some]
      rw [qk_r (by omega) (by omega), if_neg (by omega), M_staying_s hI1 hB hm1]
      simp only [ob_some]
      rw [qk_r (by omega) (by omega), e2, qk_r (by omega) (by omega)]
    by_cases g1 : sMany T Y = T 9
    · refine ⟨-2, S, S, ?_, ?_, h⟩
      · rw [cl, if_pos g1]
      · rw [mdl S hI hm, if_pos g1]
    · obtain ⟨Sa, v1, v2, v3⟩ := save_14_s (S := S) hB hI.1 hc
      obtain ⟨R, Y', Sb, t1, t2, t3, t4, t5, t6⟩ := all_L ha hI.1 (sN T) qF 0 0 Y Sa (by unfold sN; omega) (by unfold qF sN; omega) (fS_iT hI (fO14_S v2)) hB hw (cY_off hc (fun c hc => v2 c (by omega)))
      have t1' : C_all_L44 qF a 0 0 Sa = some (R, Sb) := t1
      obtain ⟨S1, y1, y2, y3, y4, y5⟩ := actC hH (fS_tr (fO14_S v2) (fC_S (fI_C t5))) (by rw [fI_C t5 14 (by omega)]; exact v3) t4
      have hI1 := fA_iT hI y2
      have hm1 := fA_mY hm y2
      obtain ⟨S4, p1, p2, p3, p4, -⟩ := putsM hB hI.1 hm1
      obtain ⟨S5, q1, q2, q3, q4, q5⟩ := actM hH.2.1 ((fA_31 y2).trans hH.2.2.2.2.1) p2 p3 p4
      obtain ⟨S6, r1, r2, r3⟩ := laysOrder_s (S := S5) ha (fB_iT hI1 q2)
      have f6 := fO88_T r2
      obtain ⟨S7, u1, u2, u3⟩ := t6 S6 (fT_iT (fB_iT hI1 q2) f6) (mY_off q4 (fun c hc => r2 c (by omega))) r3
      have u1' : M_all_L50 qF 0 0 S6 = some (R, S7) := u1
      have f7 := fT_tr f6 (fM_T u3)
      refine ⟨R, S1, S7, ?_, ?_, act_iG hA' hw hH hK hR y2 y3 y4 (fB_tr q2 (fT_B f7)) (kM_T q3 f7) u2 t2 t3⟩
      · rw [cl, if_neg g1, v1]
        simp only [ob_some]
        rw [t1']
        simp only [ob_some]
        rw [y1]
        rfl
      · rw [mdl S1 hI1 hm1, if_neg g1, p1]
        simp only [ob_some]
        rw [q1]
        simp only [ob_some]
        rw [r1]
        simp only [ob_some]
        rw [u1']
        rfl
  · refine ⟨-1, S, S, ?_, ?_, h⟩
    · rw [C_all, isRule_s ha, if_neg g]
      rfl
    · rw [M_all, qk_r a1 a2, M_in_s ⟨by omega, by omega⟩ ⟨by omega, by omega⟩ ⟨by omega, by omega⟩, if_neg g]
      rfl
end POR
