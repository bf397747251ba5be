/-! lies, free -/
def sPick (i : Int) : List Nat → Int → Int → Int
  | [], _, a => a
  | s :: l, f, a => sPick i l (f + 1) (if f = i then (s : Int) else a)
theorem sPick_out {i : Int} : ∀ (l : List Nat) (f a : Int), ¬ (f ≤ i ∧ i < f + l.length) → sPick i l f a = a
  | [], _, _, _ => rfl
  | s :: l, f, a, h => by
    simp only [List.length_cons] at h
    rw [sPick, if_neg (by omega), sPick_out l (f + 1) a (by omega)]
theorem sPick_in {i : Int} : ∀ (l : List Nat) (f a : Int), f ≤ i → i < f + l.length → sPick i l f a = oNth l (i - f).toNat
  | [], f, a, h1, h2 => by simp at h2; omega
  | s :: l, f, a, h1, h2 => by
    simp only [List.length_cons] at h2
    rw [sPick]
    by_cases q : f = i
    · rw [if_pos q, sPick_out l (f + 1) _ (by omega)]
      have : (i - f).toNat = 0 := by omega
      rw [this]
      rfl
    · rw [if_neg q, sPick_in l (f + 1) a (by omega) (by omega)]
      have : (i - f).toNat = (i - (f + 1)).toNat + 1 := by omega
      rw [this]
      rfl
def sLyB (T lev : Nat → Int) (Y : qY) (t : Nat) (s : Nat) : Bool := decide (Y.2.1 s ≤ t ∧ (t : Int) < sLeave T lev s (Y.2.1 s) (Y.2.2 s))
section PZ
variable {T lev : Nat → Int} {Y : qY}
theorem sRow_ly (t : Nat) : (sRow Y (sN T)).filter (sLyB T lev Y t) = oL (sLyP T lev Y t) Y.1 (sN T) :=
  oL_filter (fun s _ => ⟨fun h => ⟨h.1, decide_eq_true ⟨h.2.1, h.2.2⟩⟩, fun h => ⟨h.1, (of_decide_eq_true h.2).1, (of_decide_eq_true h.2).2⟩⟩)
theorem sRow_len (hT : bT T) : (sRow Y (sN T)).length ≤ 14 := by
  have hlen := oL_len (P := fun s => 0 < Y.2.2 s) (f := Y.1) (n := sN T)
  have b9 := bT_n hT
  unfold sRow
  unfold sN at hlen ⊢
  omega
/-- what stands at a place of the row -/
theorem sRow_at (hT : bT T) {p s : Nat} {rest : List Nat} (hd : (sRow Y (sN T)).drop p = s :: rest) : (sRow Y (sN T))[p]? = some s ∧ p < (sRow Y (sN T)).length ∧ (s : Int) < T 9 ∧ 0 < Y.2.2 s ∧ (sRow Y (sN T)).drop (p + 1) = rest := by
  have eg : (sRow Y (sN T))[p]? = some s := by
    have := congrArg (fun l => l[0]?) hd
    simpa using this
  have hmem := (oL_mem _ _).mp (List.mem_of_getElem? eg)
  have b9 := bT_n hT
  refine ⟨eg, (List.getElem?_eq_some_iff.mp eg).1, ?_, hmem.2, ?_⟩
  · have := hmem.1
    unfold sN at this
    omega
  · have : (sRow Y (sN T)).drop (p + 1) = ((sRow Y (sN T)).drop p).drop 1 := by rw [List.drop_drop]
    rw [this, hd]
    rfl
theorem C_lies_L {S : qSto} (h : iA S T lev Y) (h6 : S 6 10 = (sRow Y (sN T)).length) (hr : rL S (sRow Y (sN T))) {t : Nat} (ht : t < 336) {i : Int} (hi : qR i) : ∀ (rest : List Nat) (n p : Nat) (f a : Int), (sRow Y (sN T)).drop p = rest → rest.length < n → p ≤ 100 → 0 ≤ f → f ≤ p → C_lies_L30 n (t : Int) i f a (p : Int) S = some (f + ((rest.filter (sLyB T lev Y t)).length : Int), sPick i (rest.filter (sLyB T lev Y t)) f a, S)
  | [], n + 1, p, f, a, hd, _, hp, h1, h2 => by
    have hple := List.drop_eq_nil_iff.mp hd
    have hl := sRow_len (T := T) (Y := Y) h.1.1
    rw [C_lies_L30]
    simp (disch := omega) only [qk_r, h6, if_pos (show ((sRow Y (sN T)).length : Int) ≤ (p : Int) by omega)]
    simp [sPick]
  | s :: rest, n + 1, p, f, a, hd, hn, hp, h1, h2 => by
    obtain ⟨eg, hplt, hs, hk, hd2⟩ := sRow_at (T := T) (Y := Y) h.1.1 hd
    have hl := sRow_len (T := T) (Y := Y) h.1.1
    obtain ⟨i1, i2⟩ := id hi
    have e44 := hr p s eg
    have f1 : (((p + 1 : Nat)) : Int) = (p : Int) + 1 := by omega
    rw [C_lies_L30]
    simp (disch := omega) only [qk_r, qk_ix, h6, if_neg (show ¬ ((sRow Y (sN T)).length : Int) ≤ (p : Int) by omega), Int.toNat_natCast, e44, Stays_liesIn_s h (s := s) (t := t) hs ht, ob_some, ite01_r, ite01_e]
    by_cases g : 0 < Y.2.2 s ∧ Y.2.1 s ≤ t ∧ (t : Int) < sLeave T lev s (Y.2.1 s) (Y.2.2 s)
    · have ew : sLyB T lev Y t s = true := decide_eq_true ⟨g.2.1, g.2.2⟩
      rw [List.filter_cons_of_pos ew]
      have ih := C_lies_L h h6 hr ht hi rest n (p + 1) (f + 1) (if f = i then (s : Int) else a) hd2 (by simp at hn; omega) (by omega) (by omega) (by omega)
      rw [f1] at ih
      rw [sPick]
      have e2 : f + (((s :: rest.filter (sLyB T lev Y t)).length : Nat) : Int) = f + 1 + ((rest.filter (sLyB T lev Y t)).length : Int) := by simp; omega
      rw [e2]
      by_cases q : f = i
      · simp only [if_pos g, if_pos q, ob_some] at ih ⊢
        exact ih
      · simp only [if_pos g, if_neg q, ob_some] at ih ⊢
        exact ih
    · have ew : sLyB T lev Y t s = false := decide_eq_false (fun q => g ⟨hk, q.1, q.2⟩)
      rw [List.filter_cons_of_neg (by rw [ew]; simp)]
      simp only [if_neg g, ob_some]
      have ih := C_lies_L h h6 hr ht hi rest n (p + 1) f a hd2 (by simp at hn; omega) (by omega) (by omega) (by omega)
      rw [f1] at ih
      exact ih
theorem M_lies_L {S : qSto} (h : iA S T lev Y) {t : Nat} (ht : t < 336) {i : Int} (hi : qR i) (hn : nTie (sLyP T lev Y t) Y.1 (sN T)) : ∀ (rest l1 : List Nat) (n : Nat) (f : Int), oL (sLyP T lev Y t) Y.1 (sN T) = l1 ++ rest → rest.length < n → 0 ≤ f → f ≤ 100 - rest.length → M_lies_L24 n (t : Int) i f (oHd rest) S = some (if f ≤ i ∧ i < f + rest.length then .inr (oNth rest (i - f).toNat, S) else .inl (f + rest.length, S))
  | [], l1, n + 1, f, hd, _, h1, h2 => by
    have e : ¬ (f ≤ i ∧ i < f + (([] : List Nat).length : Int)) := by
      simp only [List.length_nil]
      omega
    rw [M_lies_L24, if_neg e]
    simp (disch := omega) only [oHd, qk_r, reduceIte]
    simp
  | s :: rest, l1, n + 1, f, hd, hl, h1, h2 => by
    obtain ⟨hI, hB, hc, hm⟩ := id h
    have b9 := bT_n hI.1
    obtain ⟨i1, i2⟩ := id hi
    have hs := (oL_split hd).1
    have hs9 : (s : Int) < T 9 := by have := hs.1; unfold sN at this; omega
    have hk := hs.2.1
    have o := bY_one hI.1 hB hs9 hk
    obtain ⟨y1, -⟩ := hm.2.1 s hs9 hk
    have eo : oHd (s :: rest) = (s : Int) := rfl
    simp only [List.length_cons] at h2 hl
    rw [M_lies_L24, eo]
    simp (disch := omega) only [qk_r, qk_ix, if_neg (show ¬ (s : Int) = -1 by omega), Int.toNat_natCast, y1, M_nextLying_s hI hB hm (t := t) (by omega) (b := Y.1 s) ⟨by omega, by omega⟩, ob_some]
    by_cases q : f = i
    · have : (i - f).toNat = 0 := by omega
      rw [if_pos q, if_pos (by simp; omega), this]
      rfl
    · rw [if_neg q, oChain hn hd]
      have ih := M_lies_L h ht hi hn rest (l1 ++ [s]) n (f + 1) (by rw [hd]; simp) (by omega) (by omega) (by omega)
      rw [ih]
      by_cases c : f + 1 ≤ i ∧ i < f + 1 + rest.length
      · have : (i - f).toNat = (i - (f + 1)).toNat + 1 := by omega
        rw [if_pos c, if_pos (by simp; omega), this]
        rfl
      · rw [if_neg c, if_neg (by simp; omega)]
        simp
        omega
theorem p_lies {S : qSto} (h : iA S T lev Y) (hw : wY T lev Y) {a b : Int} (ha : qR a) (hb : qR b) : ∃ r S1 S2, C_lies a b S = some (r, S1) ∧ M_lies a b S1 = some (r, S2) ∧ fC S S1 ∧ fM S1 S2 ∧ iA S2 T lev Y := by
  obtain ⟨hI, hB, hc, hm⟩ := id h
  obtain ⟨b1, b2⟩ := id hb
  simp (disch := omega) only [C_lies, C_isSlot_s ha, ob_some, ite01_r, ite01_e, qk_r]
  by_cases g : 0 ≤ a ∧ a < 336
  · by_cases g2 : -1 ≤ b
    · obtain ⟨S1, t1, t2, t3, t4⟩ := lineUp_s hB hI (cY_p hc)
      have fa : ((a.toNat : Nat) : Int) = a := by omega
      have hc1 : cY S1 T lev Y := cY_off hc (fun c hc => t2.1 c (by omega) (by omega))
      have h1 : iA S1 T lev Y := ⟨fC_iT hI (fR_C t2), hB, hc1, fC_mY hm (fR_C t2)⟩
      have hl := sRow_len (T := T) (Y := Y) hI.1
      have u1 := C_lies_L h1 t3 t4 (t := a.toNat) (by omega) hb (sRow Y (sN T)) qF 0 0 (-2) rfl (by unfold qF; omega) (by omega) (by omega) (by omega)
      rw [fa, sRow_ly] at u1
      have u1' : C_lies_L30 qF a b 0 (-2) 0 S1 = _ := u1
      have hlen := oL_len (P := sLyP T lev Y a.toNat) (f := Y.1) (n := sN T)
      have b9 := bT_n hI.1
      have hl2 : (oL (sLyP T lev Y a.toNat) Y.1 (sN T)).length ≤ 14 := by unfold sN at hlen ⊢; omega
      have v1 := M_lies_L h1 (t := a.toNat) (by omega) hb (tie_ly hI.1 hB hw.1 a.toNat) (oL (sLyP T lev Y a.toNat) Y.1 (sN T)) [] qF 0 rfl (by unfold qF; omega) (by omega) (by omega)
      rw [fa] at v1
      have v0 := M_nextLying_s h1.1 hB h1.2.2.2 (t := a.toNat) (by omega) (b := -1) ⟨by omega, by omega⟩
      rw [oFirst (fun x hx px => by
        have := bY_one hI.1 hB (s := x) (by unfold sN at hx; omega) px.1
        omega), fa] at v0
      simp only [if_pos g, if_pos g2, t1, ob_some]
      rw [u1']
      simp only [ob_some]
      have em : M_lies a b S1 = Option.bind (M_lies_L24 qF a b 0 (oHd (oL (sLyP T lev Y a.toNat) Y.1 (sN T))) S1) (fun q3667 => Sum.elim (fun t3669 => qk (qRb b) (if b = (-1) then some (t3669.1, t3669.2) else some ((-2), t3669.2))) (fun w => some w) q3667) := by
        simp (disch := omega) only [M_lies, M_isSlot_s ha, ob_some, ite01_r, ite01_e, qk_r]
        simp only [if_pos g, if_pos g2, v0, ob_some]
      by_cases q : b = -1
      · rw [if_pos q]
        refine ⟨_, S1, S1, rfl, ?_, fR_C t2, fM_rfl, h1⟩
        rw [em, v1, if_neg (show ¬ (0 ≤ b ∧ b < 0 + ((oL (sLyP T lev Y a.toNat) Y.1 (sN T)).length : Int)) by omega)]
        simp (disch := omega) only [ob_some, Sum.elim_inl, qk_r, if_pos q]
      · rw [if_neg q]
        by_cases c : 0 ≤ b ∧ b < 0 + ((oL (sLyP T lev Y a.toNat) Y.1 (sN T)).length : Int)
        · rw [sPick_in _ _ _ c.1 c.2]
          refine ⟨_, S1, S1, rfl, ?_, fR_C t2, fM_rfl, h1⟩
          rw [em, v1, if_pos c]
          rfl
        · rw [sPick_out _ _ _ c]
          refine ⟨_, S1, S1, rfl, ?_, fR_C t2, fM_rfl, h1⟩
          rw [em, v1, if_neg c]
          simp (disch := omega) only [ob_some, Sum.elim_inl, qk_r, if_neg q]
    · refine ⟨-1, S, S, ?_, ?_, fC_rfl, fM_rfl, h⟩
      · simp only [if_pos g, if_neg g2]
      · simp (disch := omega) only [M_lies, M_isSlot_s ha, ob_some, ite01_r, ite01_e, qk_r]
        simp only [if_pos g, if_neg g2]
  · refine ⟨-1, S, S, ?_, ?_, fC_rfl, fM_rfl, h⟩
    · simp only [if_neg g]
    · simp (disch := omega) only [M_lies, M_isSlot_s ha, ob_some, ite01_r, ite01_e, qk_r]
      simp only [if_neg g]
/-! free: the longest free row of metres -/
def sFree (T : Nat → Int) (Y : qY) : List Nat → Int → Int → Int → Int × Int
  | [], a, b, f => if T 0 - f ≤ a then (a, b) else (T 0 - f, f)
  | s :: l, a, b, f => if Y.1 s - f ≤ a then sFree T Y l a b (Y.1 s + sCon T s 0 - 1 + 1) else sFree T Y l (Y.1 s - f) f (Y.1 s + sCon T s 0 - 1 + 1)
theorem C_free_e {S : qSto} (hI : iT S T lev) (h6 : S 6 10 = (sRow Y (sN T)).length) {t : Nat} (ht : t < 336) {n p : Nat} {a b f : Int} (ep : p = (sRow Y (sN T)).length) (ha : 0 ≤ a ∧ a ≤ 1000) (hf : 0 ≤ f ∧ f ≤ 1400) : C_free_L37 (n + 1 + 1) (t : Int) a b f (p : Int) S = some (if T 0 - f ≤ a then (a, b, S) else (T 0 - f, f, S)) := by
  have hl := sRow_len (T := T) (Y := Y) hI.1
  have e0 := hI.2.1.1 0 (by omega)
  have b0 := hI.1.1
  have fin : ∀ a b f : Int, C_free_L37 (n + 1) (t : Int) a b f ((p : Int) + 1) S = some (a, b, S) := fun a b f => by
    rw [C_free_L37]
    simp (disch := omega) only [qk_r, h6, if_pos (show ((sRow Y (sN T)).length : Int) < (p : Int) + 1 by omega)]
  rw [C_free_L37]
  generalize C_free_L37 (n + 1) = F at fin ⊢
  rw [qk_r (by omega) (by omega), h6, qk_r (by omega) (by omega), if_neg (show ¬ ((sRow Y (sN T)).length : Int) < (p : Int) by omega), if_pos (show (p : Int) = ((sRow Y (sN T)).length : Int) by omega)]
  rw [qk_r (by omega) (by omega), qk_r (by omega) (by omega), ob_some, qk_r (by omega) (by omega), if_neg (show ¬ (1 : Int) = 0 by omega), qk_r (by omega) (by omega), if_neg (show ¬ (1 : Int) = 0 by omega), ob_some, e0, qk_r (by omega) (by omega), qk_r (by omega) (by omega)]
  by_cases g : T 0 - f ≤ a
  · rw [if_pos g, if_pos g, ob_some, qk_r (by omega) (by omega), if_neg (show ¬ (1 : Int) = 0 by omega), ob_some, ob_some]
    exact fin _ _ _
  · rw [if_neg g, if_neg g, ob_some, qk_r (by omega) (by omega), if_neg (show ¬ (1 : Int) = 0 by omega), ob_some, ob_some]
    exact fin _ _ _
theorem C_free_n {S : qSto} (h : iA S T lev Y) (h6 : S 6 10 = (sRow Y (sN T)).length) {t : Nat} (ht : t < 336) {n p s : Nat} {a b f : Int} (hp : p < (sRow Y (sN T)).length) (hs : (s : Int) < T 9) (e44 : S 44 p = s) (g : ¬ (0 < Y.2.2 s ∧ Y.2.1 s ≤ t ∧ (t : Int) < sLeave T lev s (Y.2.1 s) (Y.2.2 s))) : C_free_L37 (n + 1) (t : Int) a b f (p : Int) S = C_free_L37 n (t : Int) a b f ((p : Int) + 1) S := by
  have hl := sRow_len (T := T) (Y := Y) h.1.1
  rw [C_free_L37]
  simp (disch := omega) only [qk_r, h6, if_neg (show ¬ ((sRow Y (sN T)).length : Int) < (p : Int) by omega), if_neg (show ¬ (p : Int) = ((sRow Y (sN T)).length : Int) by omega), ob_some]
  simp only [reduceIte]
  simp (disch := omega) only [qk_ix, Int.toNat_natCast, e44, Stays_liesIn_s h (s := s) (t := t) hs ht, ob_some, ite01_r, ite01_e]
  rw [if_neg g]
  rfl
theorem C_free_y {S : qSto} (h : iA S T lev Y) (h6 : S 6 10 = (sRow Y (sN T)).length) {t : Nat} (ht : t < 336) {n p s : Nat} {a b f : Int} (hp : p < (sRow Y (sN T)).length) (hs : (s : Int) < T 9) (e44 : S 44 p = s) (ha : 0 ≤ a ∧ a ≤ 1000) (hf : 0 ≤ f ∧ f ≤ 1400) (g : 0 < Y.2.2 s ∧ Y.2.1 s ≤ t ∧ (t : Int) < sLeave T lev s (Y.2.1 s) (Y.2.2 s)) : C_free_L37 (n + 1) (t : Int) a b f (p : Int) S = if Y.1 s - f ≤ a then C_free_L37 n (t : Int) a b (Y.1 s + sCon T s 0 - 1 + 1) ((p : Int) + 1) S else C_free_L37 n (t : Int) (Y.1 s - f) f (Y.1 s + sCon T s 0 - 1 + 1) ((p : Int) + 1) S := by
  have hl := sRow_len (T := T) (Y := Y) h.1.1
  obtain ⟨hI, hB, hc, hm⟩ := id h
  have b9 := bT_n hI.1
  have o := bY_one hI.1 hB hs g.1
  have k := bT_con hI.1 hs
  obtain ⟨p1, p2, -⟩ := hc.2.1 s hs g.1
  rw [C_free_L37]
  simp (disch := omega) only [qk_r, h6, if_neg (show ¬ ((sRow Y (sN T)).length : Int) < (p : Int) by omega), if_neg (show ¬ (p : Int) = ((sRow Y (sN T)).length : Int) by omega), ob_some]
  simp only [reduceIte]
  simp (disch := omega) only [qk_ix, Int.toNat_natCast, e44, Stays_liesIn_s h (s := s) (t := t) hs ht, ob_some, ite01_r, ite01_e]
  rw [if_pos g]
  simp (disch := omega) only [qk_ix, qk_r, Int.toNat_natCast, e44, p1, p2, ob_some]
  by_cases q : Y.1 s - f ≤ a
  · simp only [if_pos q, ob_some]
  · simp only [if_neg q, ob_some]
theorem C_free_L {S : qSto} (h : iA S T lev Y) (h6 : S 6 10 = (sRow Y (sN T)).length) (hr : rL S (sRow Y (sN T))) {t : Nat} (ht : t < 336) : ∀ (rest : List Nat) (n p : Nat) (a b f : Int), (sRow Y (sN T)).drop p = rest → rest.length + 1 < n → p ≤ (sRow Y (sN T)).length → (0 ≤ a ∧ a ≤ 1000) → (0 ≤ f ∧ f ≤ 1400) → C_free_L37 n (t : Int) a b f (p : Int) S = some ((sFree T Y (rest.filter (sLyB T lev Y t)) a b f).1, (sFree T Y (rest.filter (sLyB T lev Y t)) a b f).2, S)
  | [], n, p, a, b, f, hd, hn, hp, ha, hf => by
    obtain ⟨n, rfl⟩ : ∃ k, n = k + 1 + 1 := ⟨n - 1 - 1, by simp only [List.length_nil] at hn; omega⟩
    have hple := List.drop_eq_nil_iff.mp hd
    rw [C_free_e (Y := Y) h.1 h6 ht (by omega) ha hf]
    have ef : ([] : List Nat).filter (sLyB T lev Y t) = [] := rfl
    rw [ef, sFree]
    split <;> rfl
  | s :: rest, n, p, a, b, f, hd, hn, hp, ha, hf => by
    obtain ⟨n, rfl⟩ : ∃ k, n = k + 1 := ⟨n - 1, by omega⟩
    obtain ⟨eg, hplt, hs, hk, hd2⟩ := sRow_at (T := T) (Y := Y) h.1.1 hd
    have e44 := hr p s eg
    have o := bY_one h.1.1 h.2.1 hs hk
    have k := bT_con h.1.1 hs
    have f1 : (((p + 1 : Nat)) : Int) = (p : Int) + 1 := by omega
    simp only [List.length_cons] at hn
    by_cases g : 0 < Y.2.2 s ∧ Y.2.1 s ≤ t ∧ (t : Int) < sLeave T lev s (Y.2.1 s) (Y.2.2 s)
    · have ew : sLyB T lev Y t s = true := decide_eq_true ⟨g.2.1, g.2.2⟩
      rw [List.filter_cons_of_pos ew, sFree, C_free_y h h6 ht hplt hs e44 ha hf g]
      by_cases q : Y.1 s - f ≤ a
      · have ih := C_free_L h h6 hr ht rest n (p + 1) a b (Y.1 s + sCon T s 0 - 1 + 1) hd2 (by omega) (by omega) ha (by omega)
        rw [f1] at ih
        rw [if_pos q, if_pos q]
        exact ih
      · have ih := C_free_L h h6 hr ht rest n (p + 1) (Y.1 s - f) f (Y.1 s + sCon T s 0 - 1 + 1) hd2 (by omega) (by omega) (by omega) (by omega)
        rw [f1] at ih
        rw [if_neg q, if_neg q]
        exact ih
    · have ew : sLyB T lev Y t s = false := decide_eq_false (fun q => g ⟨hk, q.1, q.2⟩)
      rw [List.filter_cons_of_neg (by rw [ew]; simp), C_free_n h h6 ht hplt hs e44 g]
      have ih := C_free_L h h6 hr ht rest n (p + 1) a b f hd2 (by omega) (by omega) ha hf
      rw [f1] at ih
      exact ih
/-- a ship lies at the metre -/
def sOcc (T lev : Nat → Int) (Y : qY) (t : Nat) (m : Int) : Prop := ∃ s : Nat, s < sN T ∧ sLyP T lev Y t s ∧ Y.1 s ≤ m ∧ m ≤ sLast T Y s
theorem M_liesAt_L {S : qSto} (h : iA S T lev Y) {t : Nat} (ht : t < 336) {m : Int} (hm0 : 0 ≤ m) (hm1 : m ≤ 1000) : ∀ (j n i : Nat), (i : Int) + j = T 9 → j < n → (M_liesAt_L2 n (t : Int) m (i : Int) S = some (.inl S) ∧ ∀ s, i ≤ s → s < sN T → ¬ (sLyP T lev Y t s ∧ Y.1 s ≤ m ∧ m ≤ sLast T Y s)) ∨ ∃ s : Nat, M_liesAt_L2 n (t : Int) m (i : Int) S = some (.inr ((s : Int), S)) ∧ s < sN T ∧ sLyP T lev Y t s ∧ Y.1 s ≤ m ∧ m ≤ sLast T Y s
  | 0, n + 1, i, e, _ => by
    have b9 := bT_n h.1.1
    have e2 := h.1.2.2.1 9
    rw [M_liesAt_L2]
    simp (disch := omega) only [qk_r, e2, if_pos (show T 9 ≤ (i : Int) by omega)]
    refine Or.inl ⟨trivial, fun s h1 h2 => ?_⟩
    unfold sN at h2
    omega
  | j + 1, n + 1, i, e, hn => by
    obtain ⟨hI, hb, hc, hm⟩ := id h
    have b9 := bT_n hI.1
    have e2 := hI.2.2.1 9
    have ih := M_liesAt_L h ht hm0 hm1 j n (i + 1) (by omega) (by omega)
    have f1 : (((i + 1 : Nat)) : Int) = (i : Int) + 1 := by omega
    rw [f1] at ih
    have step : ∀ x, ¬ (sLyP T lev Y t i ∧ Y.1 i ≤ m ∧ m ≤ sLast T Y i) → x = M_liesAt_L2 n (t : Int) m ((i : Int) + 1) S → (x = some (.inl S) ∧ ∀ s, i ≤ s → s < sN T → ¬ (sLyP T lev Y t s ∧ Y.1 s ≤ m ∧ m ≤ sLast T Y s)) ∨ ∃ s : Nat, x = some (.inr ((s : Int), S)) ∧ s < sN T ∧ sLyP T lev Y t s ∧ Y.1 s ≤ m ∧ m ≤ sLast T Y s := by
      intro x nx ex
      rw [ex]
      rcases ih with ⟨p1, p2⟩ | p
      · refine Or.inl ⟨p1, fun s h1 h2 => ?_⟩
        rcases Nat.lt_or_ge i s with q | q
        · exact p2 s (by omega) h2
        · have : s = i := by omega
          rw [this]
          exact nx
      · exact Or.inr p
    rw [M_liesAt_L2]
    simp (disch := omega) only [qk_r, e2, if_neg (show ¬ T 9 ≤ (i : Int) by omega), M_isLying_s h (s := i) (t := t) (by omega) ht, ob_some, ite01_r, ite01_e]
    by_cases g : 0 < Y.2.2 i ∧ Y.2.1 i ≤ t ∧ (t : Int) < sLeave T lev i (Y.2.1 i) (Y.2.2 i)
    · have o := bY_one hI.1 hb (s := i) (by omega) g.1
      have c := bT_con hI.1 (s := i) (by omega)
      obtain ⟨g1, -⟩ := hm.2.1 i (by omega) g.1
      simp (disch := omega) only [if_pos g, qk_ix, qk_r, Int.toNat_natCast, g1, M_lastMetre_s hI hb hm (s := i) (by omega) g.1, ob_some]
      by_cases p : m < Y.1 i
      · simp only [if_pos p]
        exact step _ (by omega) rfl
      · simp only [if_neg p]
        by_cases q : Y.1 i + sCon T i 0 - 1 < m
        · simp only [if_pos q]
          exact step _ (by unfold sLast; omega) rfl
        · simp only [if_neg q]
          exact Or.inr ⟨i, rfl, by unfold sN; omega, g, by omega, by unfold sLast; omega⟩
    · simp only [if_neg g]
      exact step _ (fun q => g q.1) rfl
theorem M_liesAt_s {S : qSto} (h : iA S T lev Y) {t : Nat} (ht : t < 336) {m : Int} (hm0 : 0 ≤ m) (hm1 : m ≤ 1000) : ∃ r, M_liesAt (t : Int) m S = some (r, S) ∧ qR r ∧ (r = -2 ↔ ¬ sOcc T lev Y t m) := by
  have b9 := bT_n h.1.1
  rcases M_liesAt_L h ht hm0 hm1 (T 9).toNat qF 0 (by omega) (by unfold qF; omega) with ⟨e1, e2⟩ | ⟨s, e1, e2, e3⟩
  · have e1' : M_liesAt_L2 qF (t : Int) m 0 S = some (.inl S) := e1
    refine ⟨-2, ?_, ⟨by omega, by omega⟩, fun _ => ?_, fun _ => rfl⟩
    · rw [M_liesAt, e1']
      rfl
    · rintro ⟨s, q1, q2⟩
      exact e2 s (by omega) q1 q2
  · have e1' : M_liesAt_L2 qF (t : Int) m 0 S = some (.inr ((s : Int), S)) := e1
    refine ⟨s, ?_, ⟨by omega, by unfold sN at e2; omega⟩, fun q => by omega, fun q => absurd ⟨s, e2, e3⟩ q⟩
    rw [M_liesAt, e1']
    rfl
theorem M_free_run {S : qSto} (h : iA S T lev Y) {t : Nat} (ht : t < 336) : ∀ (j n : Nat) (m a b w : Int), 0 ≤ m → m + j ≤ T 0 → 0 ≤ w → w ≤ a → w ≤ m → a ≤ 1000 → (∀ u, m ≤ u → u < m + j → ¬ sOcc T lev Y t u) → M_free_L31 (n + j) (t : Int) a b w m S = M_free_L31 n (t : Int) (if a < w + j then w + j else a) (if a < w + j then m - w else b) (w + j) (m + j) S
  | 0, n, m, a, b, w, h0, h1, h2, h3, _, _, _ => by
    rw [if_neg (by omega), if_neg (by omega)]
    simp
  | j + 1, n, m, a, b, w, h0, h1, h2, h3, h3', h4, h5 => by
    have b0 := h.1.1.1
    have e0 := h.1.2.2.1 0
    obtain ⟨r, r1, r2, r3⟩ := M_liesAt_s h ht (m := m) h0 (by omega)
    have r4 := r3.mpr (h5 m (by omega) (by omega))
    rw [show n + (j + 1) = (n + j) + 1 by omega, M_free_L31]
    simp (disch := omega) only [qk_r, e0, if_neg (show ¬ T 0 ≤ m by omega), r1, ob_some, r4, reduceIte]
    by_cases g : a < w + 1
    · simp only [if_pos g, ob_some]
      have ih := M_free_run h ht j n (m + 1) (w + 1) (m - (w + 1) + 1) (w + 1) (by omega) (by omega) (by omega) (by omega) (by omega) (by omega) (fun u u1 u2 => h5 u (by omega) (by omega))
      rw [ih, if_pos (show a < w + ((j + 1 : Nat) : Int) by omega), if_pos (show a < w + ((j + 1 : Nat) : Int) by omega)]
      have e1 : m + 1 + (j : Int) = m + ((j + 1 : Nat) : Int) := by omega
      have e2 : w + 1 + (j : Int) = w + ((j + 1 : Nat) : Int) := by omega
      rw [e1, e2]
      congr 1
      · split <;> omega
      · split <;> omega
    · simp only [if_neg g, ob_some]
      have ih := M_free_run h ht j n (m + 1) a b (w + 1) (by omega) (by omega) (by omega) (by omega) (by omega) (by omega) (fun u u1 u2 => h5 u (by omega) (by omega))
      rw [ih]
      have e1 : m + 1 + (j : Int) = m + ((j + 1 : Nat) : Int) := by omega
      have e2 : w + 1 + (j : Int) = w + ((j + 1 : Nat) : Int) := by omega
      rw [e1, e2]
      congr 1
      split <;> omega
theorem M_occ_run {S : qSto} (h : iA S T lev Y) {t : Nat} (ht : t < 336) : ∀ (j n : Nat) (m a b w : Int), 0 ≤ m → m + j + 1 ≤ T 0 → 0 ≤ a → a ≤ 1000 → (∀ u, m ≤ u → u < m + j + 1 → sOcc T lev Y t u) → M_free_L31 (n + j + 1) (t : Int) a b w m S = M_free_L31 n (t : Int) a b 0 (m + j + 1) S
  | 0, n, m, a, b, w, h0, h1, h2, h3, h5 => by
    have b0 := h.1.1.1
    have e0 := h.1.2.2.1 0
    obtain ⟨r, r1, ⟨r5, r6⟩, r3⟩ := M_liesAt_s h ht (m := m) h0 (by omega)
    have r4 : ¬ r = -2 := fun q => (r3.mp q) (h5 m (by omega) (by omega))
    rw [M_free_L31]
    simp (disch := omega) only [qk_r, e0, if_neg (show ¬ T 0 ≤ m by omega), r1, ob_some, if_neg r4, if_neg (show ¬ a < 0 by omega)]
    simp
  | j + 1, n, m, a, b, w, h0, h1, h2, h3, h5 => by
    have b0 := h.1.1.1
    have e0 := h.1.2.2.1 0
    obtain ⟨r, r1, ⟨r5, r6⟩, r3⟩ := M_liesAt_s h ht (m := m) h0 (by omega)
    have r4 : ¬ r = -2 := fun q => (r3.mp q) (h5 m (by omega) (by omega))
    have ih := M_occ_run h ht j n (m + 1) a b 0 (by omega) (by omega) h2 h3 (fun u u1 u2 => h5 u (by omega) (by omega))
    rw [M_free_L31]
    simp (disch := omega) only [qk_r, e0, if_neg (show ¬ T 0 ≤ m by omega), r1, ob_some, if_neg r4, if_neg (show ¬ a < 0 by omega)]
    rw [show n + (j + 1) = n + j + 1 by omega, ih, show m + 1 + (j : Int) + 1 = m + ((j + 1 : Nat) : Int) + 1 by omega]
theorem M_free_all {S : qSto} (h : iA S T lev Y) (hF : wF T Y) {t : Nat} (ht : t < 336) : ∀ (rest : List Nat) (n : Nat) (a b f : Int), rest.Pairwise (fun x y => sLast T Y x < Y.1 y) → (∀ s ∈ rest, s < sN T ∧ sLyP T lev Y t s ∧ f ≤ Y.1 s) → (∀ s, s < sN T → sLyP T lev Y t s → s ∈ rest ∨ sLast T Y s < f) → 0 ≤ f → f ≤ T 0 → 0 ≤ a → a ≤ 1000 → (T 0 - f).toNat < n → M_free_L31 n (t : Int) a b 0 f S = some ((sFree T Y rest a b f).1, (sFree T Y rest a b f).2, S)
  | [], n, a, b, f, hp, h1, h2, h3, h4, h5, h6, hn => by
    obtain ⟨n, rfl⟩ : ∃ k, n = k + 1 + (T 0 - f).toNat := ⟨n - 1 - (T 0 - f).toNat, by omega⟩
    have b0 := h.1.1.1
    have e0 := h.1.2.2.1 0
    rw [M_free_run h ht (T 0 - f).toNat (n + 1) f a b 0 h3 (by omega) (by omega) h5 (by omega) h6 (fun u u1 u2 => by
      rintro ⟨s, s1, s2, s3, s4⟩
      rcases h2 s s1 s2 with q | q
      · exact absurd q List.not_mem_nil
      · omega), M_free_L31]
    simp (disch := omega) only [qk_r, e0, if_pos (show T 0 ≤ f + ((T 0 - f).toNat : Int) by omega), sFree]
    by_cases g : T 0 - f ≤ a
    · rw [if_pos g, if_neg (by omega), if_neg (by omega)]
    · rw [if_neg g, if_pos (by omega), if_pos (by omega)]
      congr 2
      · omega
      · congr 1
        omega
  | s :: rest, n, a, b, f, hp, h1, h2, h3, h4, h5, h6, hn => by
    have b0 := h.1.1.1
    have b9 := bT_n h.1.1
    obtain ⟨p1, p2⟩ := List.pairwise_cons.mp hp
    obtain ⟨s1, s2, s3⟩ := h1 s List.mem_cons_self
    have s9 : (s : Int) < T 9 := by unfold sN at s1; omega
    have o := bY_one h.1.1 h.2.1 s9 s2.1
    have k := bT_con h.1.1 s9
    have y := hF s s1 s2.1
    obtain ⟨n, rfl⟩ : ∃ k, n = k + (sCon T s 0 - 1).toNat + 1 + (Y.1 s - f).toNat := ⟨n - (sCon T s 0 - 1).toNat - 1 - (Y.1 s - f).toNat, by omega⟩
    have e1 : f + ((Y.1 s - f).toNat : Int) = Y.1 s := by omega
    have e2 : (0 : Int) + ((Y.1 s - f).toNat : Int) = Y.1 s - f := by omega
    rw [M_free_run h ht (Y.1 s - f).toNat _ f a b 0 h3 (by omega) (by omega) h5 (by omega) h6 (fun u u1 u2 => by
      rintro ⟨z, z1, z2, z3, z4⟩
      rcases h2 z z1 z2 with q | q
      · rcases List.mem_cons.mp q with q | q
        · rw [q] at z3
          omega
        · have := p1 z q
          unfold sLast at this
          omega
      · omega), e1, e2, sFree]
    have hmem : ∀ x ∈ rest, x < sN T ∧ sLyP T lev Y t x ∧ Y.1 s + sCon T s 0 - 1 + 1 ≤ Y.1 x := fun x hx => by
      have i1 := h1 x (List.mem_cons_of_mem _ hx)
      have i2 := p1 x hx
      unfold sLast at i2
      exact ⟨i1.1, i1.2.1, by omega⟩
    have hrest : ∀ x, x < sN T → sLyP T lev Y t x → x ∈ rest ∨ sLast T Y x < Y.1 s + sCon T s 0 - 1 + 1 := fun x x1 x2 => by
      rcases h2 x x1 x2 with q | q
      · rcases List.mem_cons.mp q with q | q
        · refine Or.inr ?_
          rw [q]
          unfold sLast
          omega
        · exact Or.inl q
      · exact Or.inr (by omega)
    have e3 : Y.1 s + ((sCon T s 0 - 1).toNat : Int) + 1 = Y.1 s + sCon T s 0 - 1 + 1 := by omega
    have occ : ∀ u, Y.1 s ≤ u → u < Y.1 s + ((sCon T s 0 - 1).toNat : Int) + 1 → sOcc T lev Y t u := fun u u1 u2 => ⟨s, s1, s2, u1, by unfold sLast; omega⟩
    by_cases g : Y.1 s - f ≤ a
    · rw [if_neg (by omega), if_neg (by omega), M_occ_run h ht (sCon T s 0 - 1).toNat n (Y.1 s) a b (Y.1 s - f) (by omega) (by omega) h5 h6 occ, e3, if_pos g]
      exact M_free_all h hF ht rest n a b _ p2 hmem hrest (by omega) (by omega) h5 h6 (by omega)
    · rw [if_pos (by omega), if_pos (by omega), M_occ_run h ht (sCon T s 0 - 1).toNat n (Y.1 s) (Y.1 s - f) (f - 0) (Y.1 s - f) (by omega) (by omega) (by omega) (by omega) occ, e3, if_neg g, show f - 0 = f by omega]
      exact M_free_all h hF ht rest n (Y.1 s - f) f _ p2 hmem hrest (by omega) (by omega) (by omega) (by omega) (by omega)
theorem ly_apart (hT : bT T) (hB : bY T lev Y) (hw : wP T lev Y) {t : Nat} : (oL (sLyP T lev Y t) Y.1 (sN T)).Pairwise (fun x y => sLast T Y x < Y.1 y) := by
  refine List.Pairwise.imp_of_mem ?_ (oL_sorted (sLyP T lev Y t) Y.1 (sN T))
  intro a b ha hb hlt
  obtain ⟨a1, a2⟩ := (oL_mem _ _).mp ha
  obtain ⟨b1, b2⟩ := (oL_mem _ _).mp hb
  have ca := bT_con hT (s := a) (by unfold sN at a1; omega)
  have cb := bT_con hT (s := b) (by unfold sN at b1; omega)
  have g1 := hT.2.1
  have ne : a ≠ b := by
    intro q
    rw [q] at hlt
    exact oLt_irr hlt
  have nc := hw a b a1 b1 ne a2.1 b2.1
  unfold oLt at hlt
  unfold sCrowd sLv sLast at nc
  unfold sLast
  rcases Int.lt_or_le (Y.1 a + sCon T a 0 - 1) (Y.1 b) with q | q
  · exact q
  · exfalso
    obtain ⟨-, a3, a4⟩ := a2
    obtain ⟨-, b3, b4⟩ := b2
    apply nc
    refine ⟨⟨by omega, by omega⟩, ⟨by omega, by omega⟩⟩
theorem p_free {S : qSto} (h : iA S T lev Y) (hw : wY T lev Y) {a b : Int} (ha : qR a) (hb : qR b) : ∃ r S1 S2, C_free a b S = some (r, S1) ∧ M_free a b S1 = some (r, S2) ∧ fC S S1 ∧ fM S1 S2 ∧ iA S2 T lev Y := by
  obtain ⟨hI, hB, hc, hm⟩ := id h
  obtain ⟨b1, b2⟩ := id hb
  have b0 := hI.1.1
  simp (disch := omega) only [C_free, C_isSlot_s ha, ob_some, ite01_r, ite01_e, qk_r]
  by_cases g : 0 ≤ a ∧ a < 336
  · by_cases g2 : 0 ≤ b ∧ b ≤ 1
    · obtain ⟨S1, t1, t2, t3, t4⟩ := lineUp_s hB hI (cY_p hc)
      have fa : ((a.toNat : Nat) : Int) = a := by omega
      have hc1 : cY S1 T lev Y := cY_off hc (fun c hc => t2.1 c (by omega) (by omega))
      have h1 : iA S1 T lev Y := ⟨fC_iT hI (fR_C t2), hB, hc1, fC_mY hm (fR_C t2)⟩
      have hl := sRow_len (T := T) (Y := Y) hI.1
      have u1 := C_free_L h1 t3 t4 (t := a.toNat) (by omega) (sRow Y (sN T)) qF 0 0 (-2) 0 rfl (by unfold qF; omega) (by omega) (by omega) (by omega)
      rw [fa, sRow_ly] at u1
      have u1' : C_free_L37 qF a 0 (-2) 0 0 S1 = _ := u1
      have v1 := M_free_all h1 hw.2.2 (t := a.toNat) (by omega) (oL (sLyP T lev Y a.toNat) Y.1 (sN T)) qF 0 (-2) 0 (ly_apart hI.1 hB hw.1) (fun s hs => by
        obtain ⟨z1, z2⟩ := (oL_mem _ _).mp hs
        have := bY_one hI.1 hB (s := s) (by unfold sN at z1; omega) z2.1
        exact ⟨z1, z2, by omega⟩) (fun s z1 z2 => Or.inl ((oL_mem _ _).mpr ⟨z1, z2⟩)) (by omega) (by omega) (by omega) (by omega) (by unfold qF; omega)
      rw [fa] at v1
      simp only [if_pos g, if_neg (show ¬ b < 0 by omega), if_pos (show b ≤ 1 by omega), t1, ob_some]
      rw [u1']
      simp only [ob_some]
      have em : M_free a b S1 = Option.bind (M_free_L31 qF a 0 (-2) 0 0 S1) (fun q3687 => qk (qRb b) (if b = 0 then some (q3687.1, q3687.2.2) else some (q3687.2.1, q3687.2.2))) := by
        simp (disch := omega) only [M_free, M_isSlot_s ha, ob_some, ite01_r, ite01_e, qk_r]
        rw [M_in_s ⟨by omega, by omega⟩ ⟨by omega, by omega⟩ ⟨by omega, by omega⟩]
        simp only [if_pos g, ob_some, ite01_r, ite01_e]
        simp only [if_pos g2]
      by_cases q : b = 0
      · simp only [if_pos q]
        refine ⟨_, S1, S1, rfl, ?_, fR_C t2, fM_rfl, h1⟩
        rw [em, v1]
        simp (disch := omega) only [ob_some, qk_r, if_pos q]
      · simp only [if_neg q]
        refine ⟨_, S1, S1, rfl, ?_, fR_C t2, fM_rfl, h1⟩
        rw [em, v1]
        simp (disch := omega) only [ob_some, qk_r, if_neg q]
    · refine ⟨-1, S, S, ?_, ?_, fC_rfl, fM_rfl, h⟩
      · simp only [if_pos g]
        by_cases q : b < 0
        · simp only [if_pos q]
        · simp only [if_neg q, if_neg (show ¬ b ≤ 1 by omega)]
      · simp (disch := omega) only [M_free, M_isSlot_s ha, ob_some, ite01_r, ite01_e, qk_r]
        rw [M_in_s ⟨by omega, by omega⟩ ⟨by omega, by omega⟩ ⟨by omega, by omega⟩]
        simp only [if_pos g, ob_some, ite01_r, ite01_e]
        simp only [if_neg g2]
  · refine ⟨-1, S, S, ?_, ?_, fC_rfl, fM_rfl, h⟩
    · simp only [if_neg g]
    · simp (disch := omega) only [M_free, M_isSlot_s ha, ob_some, ite01_r, ite01_e, qk_r]
      simp only [if_neg g]
end PZ
