/-! a stay is laid, lifted, taken up, laid back -/
abbrev yP (Y : qY) (s : Nat) (x t k : Int) : qY := (fun i => if i = s then x else Y.1 i, fun i => if i = s then t else Y.2.1 i, fun i => if i = s then k else Y.2.2 i)
/-- without the ship's stay -/
abbrev yX (Y : qY) (s : Nat) : qY := yP Y s 0 0 0
/-- the same stays -/
def yE (Y Y' : qY) : Prop := (∀ i, Y.2.2 i = Y'.2.2 i) ∧ ∀ i, 0 < Y.2.2 i → Y.1 i = Y'.1 i ∧ Y.2.1 i = Y'.2.1 i
theorem yE_symm {Y Y' : qY} (h : yE Y Y') : yE Y' Y := ⟨fun i => (h.1 i).symm, fun i hi => by
  have := h.2 i (by rw [h.1 i]; exact hi)
  exact ⟨this.1.symm, this.2.symm⟩⟩
theorem yP_back {Y : qY} {s : Nat} : yP (yX Y s) s (Y.1 s) (Y.2.1 s) (Y.2.2 s) = Y := by
  obtain ⟨a, b, c⟩ := Y
  unfold yX yP
  refine Prod.ext ?_ (Prod.ext ?_ ?_)
  · funext i
    by_cases h : i = s <;> simp [h]
  · funext i
    by_cases h : i = s <;> simp [h]
  · funext i
    by_cases h : i = s <;> simp [h]
theorem yP_x {Y : qY} {s : Nat} {x t k : Int} : yP (yX Y s) s x t k = yP Y s x t k := by
  unfold yX yP
  refine Prod.ext ?_ (Prod.ext ?_ ?_)
  · funext i
    by_cases h : i = s <;> simp [h]
  · funext i
    by_cases h : i = s <;> simp [h]
  · funext i
    by_cases h : i = s <;> simp [h]
theorem yE_x {Y : qY} {s : Nat} (h : Y.2.2 s = 0) : yE Y (yX Y s) := by
  refine ⟨fun i => ?_, fun i hi => ?_⟩
  · show Y.2.2 i = if i = s then 0 else Y.2.2 i
    split
    · next e => rw [e]; exact h
    · rfl
  · have : ¬ i = s := fun e => by
      rw [e] at hi
      omega
    show Y.1 i = (if i = s then 0 else Y.1 i) ∧ Y.2.1 i = if i = s then 0 else Y.2.1 i
    rw [if_neg this, if_neg this]
    exact ⟨rfl, rfl⟩
/-- laws 1 to 5, as bounds keep them -/
def okS (T lev : Nat → Int) (s : Nat) (x t k : Int) : Prop := (sCon T s 7 ≤ k ∧ k ≤ sCon T s 8) ∧ (0 ≤ x ∧ x + sCon T s 0 ≤ T 0) ∧ (sCon T s 4 ≤ t ∧ t ≤ 335) ∧ sLeave T lev s t k ≠ -1
/-- the same, but for the quay's end -/
def okW (T lev : Nat → Int) (s : Nat) (x t k : Int) : Prop := (sCon T s 7 ≤ k ∧ k ≤ sCon T s 8) ∧ (0 ≤ x ∧ x ≤ 998) ∧ (sCon T s 4 ≤ t ∧ t ≤ 335) ∧ sLeave T lev s t k ≠ -1
theorem okS_W {T lev : Nat → Int} (hT : bT T) {s : Nat} (hs : (s : Int) < T 9) {x t k : Int} (h : okS T lev s x t k) : okW T lev s x t k := by
  have c := bT_con hT hs
  have b0 := hT.1
  obtain ⟨h1, h2, h3, h4⟩ := h
  exact ⟨h1, ⟨by omega, by omega⟩, h3, h4⟩
theorem sm_upd {f g : Nat → Int} {s : Nat} : ∀ {n : Nat}, s < n → (∀ i, i < n → i ≠ s → f i = g i) → sm f n = sm g n - g s + f s
  | 0, h, _ => absurd h (by omega)
  | n + 1, h, e => by
    rw [sm, sm]
    rcases Nat.lt_or_ge s n with q | q
    · rw [sm_upd q (fun i hi hn => e i (by omega) hn), e n (by omega) (by omega)]
      omega
    · have : s = n := by omega
      subst this
      rw [sm_cong (f := f) (g := g) (fun k hk => e k (by omega) (by omega))]
      omega
section PU
variable {T lev : Nat → Int} {Y : qY}
theorem okW_b (hT : bT T) {s : Nat} (hs : (s : Int) < T 9) {x t k : Int} (h : okW T lev s x t k) : (1 ≤ k ∧ k ≤ 8) ∧ (0 ≤ x ∧ x ≤ 998) ∧ (0 ≤ t ∧ t ≤ 335) ∧ (1 ≤ sWork T s k) ∧ t + sWork T s k ≤ sLeave T lev s t k ∧ sLeave T lev s t k ≤ 335 := by
  have c := bT_con hT hs
  have b0 := hT.1
  obtain ⟨h1, h2, h3, h4⟩ := h
  have hw := sWork_b hT hs (k := k) (by omega) (by omega)
  have hl := sNext_rng T lev (sCon T s 2) (t + sWork T s k).toNat
  have e : sLeave T lev s t k = sNext T lev (sCon T s 2) (t + sWork T s k).toNat := rfl
  rw [← e] at hl
  rcases hl with hl | hl
  · exact absurd hl h4
  · refine ⟨⟨by omega, by omega⟩, ⟨by omega, by omega⟩, ⟨by omega, by omega⟩, by omega, by omega, by omega⟩
theorem okS_b (hT : bT T) {s : Nat} (hs : (s : Int) < T 9) {x t k : Int} (h : okS T lev s x t k) : (1 ≤ k ∧ k ≤ 8) ∧ (0 ≤ x ∧ x ≤ 998) ∧ (0 ≤ t ∧ t ≤ 335) ∧ (1 ≤ sWork T s k) ∧ t + sWork T s k ≤ sLeave T lev s t k ∧ sLeave T lev s t k ≤ 335 := okW_b hT hs (okS_W hT hs h)
theorem bY_putW (hT : bT T) (hb : bY T lev Y) {s : Nat} (hs : (s : Int) < T 9) {x t k : Int} (h : k = 0 ∨ okW T lev s x t k) : bY T lev (yP Y s x t k) := by
  refine ⟨fun i => ?_, fun i hi hk => ?_⟩
  · show 0 ≤ (if i = s then k else Y.2.2 i) ∧ (T 9 ≤ i → (if i = s then k else Y.2.2 i) = 0)
    split
    · next e =>
      subst e
      rcases h with h | h
      · exact ⟨by omega, fun _ => h⟩
      · have := (okW_b hT hs h).1
        exact ⟨by omega, fun z => absurd hs (by omega)⟩
    · exact hb.1 i
  · by_cases e : i = s
    · subst e
      have hk' : 0 < (if i = i then k else Y.2.2 i) := hk
      rw [if_pos rfl] at hk'
      rcases h with h | h
      · omega
      · show okW T lev i (if i = i then x else Y.1 i) (if i = i then t else Y.2.1 i) (if i = i then k else Y.2.2 i)
        rw [if_pos rfl, if_pos rfl, if_pos rfl]
        exact h
    · have hk' : 0 < (if i = s then k else Y.2.2 i) := hk
      rw [if_neg e] at hk'
      show okW T lev i (if i = s then x else Y.1 i) (if i = s then t else Y.2.1 i) (if i = s then k else Y.2.2 i)
      rw [if_neg e, if_neg e, if_neg e]
      exact hb.2 i hi hk'
theorem bY_put (hT : bT T) (hb : bY T lev Y) {s : Nat} (hs : (s : Int) < T 9) {x t k : Int} (h : k = 0 ∨ okS T lev s x t k) : bY T lev (yP Y s x t k) := bY_putW hT hb hs (h.imp id (okS_W hT hs))
theorem bY_ok (hb : bY T lev Y) {s : Nat} (hs : (s : Int) < T 9) (hk : 0 < Y.2.2 s) : okW T lev s (Y.1 s) (Y.2.1 s) (Y.2.2 s) := hb.2 s hs hk
theorem sBusy_cong {Y' : qY} (h : yE Y Y') (t : Nat) : sBusy T Y t = sBusy T Y' t := by
  unfold sBusy
  apply sm_cong
  intro i hi
  rw [← h.1 i]
  by_cases g : 0 < Y.2.2 i
  · rw [(h.2 i g).2]
  · rw [if_neg (fun q => g q.1), if_neg (fun q => g q.1)]
theorem bY_cong {Y' : qY} (h : yE Y Y') (hb : bY T lev Y) : bY T lev Y' := by
  refine ⟨fun i => ?_, fun i hi hk => ?_⟩
  · rw [← h.1 i]
    exact hb.1 i
  · rw [← h.1 i] at hk ⊢
    obtain ⟨e1, e2⟩ := h.2 i hk
    rw [← e1, ← e2]
    exact hb.2 i hi hk
theorem cY_cong {S : qSto} {Y' : qY} (h : yE Y Y') (hc : cY S T lev Y) : cY S T lev Y' := by
  refine ⟨fun i hi => ?_, fun i hi hk => ?_, fun t ht => ?_, hc.2.2.2⟩
  · rw [← h.1 i]
    exact hc.1 i hi
  · rw [← h.1 i] at hk ⊢
    obtain ⟨e1, e2⟩ := h.2 i hk
    rw [← e1, ← e2]
    exact hc.2.1 i hi hk
  · rw [← sBusy_cong h t]
    exact hc.2.2.1 t ht
theorem mY_cong {S : qSto} {Y' : qY} (h : yE Y Y') (hc : mY S T lev Y) : mY S T lev Y' := by
  refine ⟨fun i hi => ?_, fun i hi hk => ?_, hc.2.2⟩
  · rw [← h.1 i]
    exact hc.1 i hi
  · rw [← h.1 i] at hk ⊢
    obtain ⟨e1, e2⟩ := h.2 i hk
    rw [← e1, ← e2]
    exact hc.2.1 i hi hk
theorem sBusy_put {s : Nat} (hs : s < sN T) {x t k : Int} (h0 : Y.2.2 s = 0) (u : Nat) : sBusy T (yP Y s x t k) u = sBusy T Y u + (if 0 < k ∧ t ≤ u ∧ (u : Int) < t + sWork T s k then k else 0) := by
  unfold sBusy
  rw [sm_upd (f := fun i => if 0 < (yP Y s x t k).2.2 i ∧ (yP Y s x t k).2.1 i ≤ u ∧ (u : Int) < (yP Y s x t k).2.1 i + sWork T i ((yP Y s x t k).2.2 i) then (yP Y s x t k).2.2 i else 0) (g := fun i => if 0 < Y.2.2 i ∧ Y.2.1 i ≤ u ∧ (u : Int) < Y.2.1 i + sWork T i (Y.2.2 i) then Y.2.2 i else 0) hs (fun i _ hne => by
    show (if 0 < (if i = s then k else Y.2.2 i) ∧ (if i = s then t else Y.2.1 i) ≤ u ∧ (u : Int) < (if i = s then t else Y.2.1 i) + sWork T i (if i = s then k else Y.2.2 i) then (if i = s then k else Y.2.2 i) else 0) = _
    rw [if_neg hne, if_neg hne])]
  have e1 : (if 0 < Y.2.2 s ∧ Y.2.1 s ≤ u ∧ (u : Int) < Y.2.1 s + sWork T s (Y.2.2 s) then Y.2.2 s else 0) = 0 := if_neg (by omega)
  have e2 : (if 0 < (if s = s then k else Y.2.2 s) ∧ (if s = s then t else Y.2.1 s) ≤ u ∧ (u : Int) < (if s = s then t else Y.2.1 s) + sWork T s (if s = s then k else Y.2.2 s) then (if s = s then k else Y.2.2 s) else 0) = (if 0 < k ∧ t ≤ u ∧ (u : Int) < t + sWork T s k then k else 0) := by
    rw [if_pos rfl, if_pos rfl]
  show _ - _ + (if 0 < (if s = s then k else Y.2.2 s) ∧ (if s = s then t else Y.2.1 s) ≤ u ∧ (u : Int) < (if s = s then t else Y.2.1 s) + sWork T s (if s = s then k else Y.2.2 s) then (if s = s then k else Y.2.2 s) else 0) = _
  rw [e1, e2, Int.sub_zero]
theorem addBusy_L {k : Int} (hk : -8 ≤ k ∧ k ≤ 8) {e : Nat} (he : e ≤ 336) : ∀ (j n i : Nat) (S : qSto), i + j = e → j < n → ∃ S', Stays_addBusy_L28 n k (e : Int) (i : Int) S = some S' ∧ fO 43 S S' ∧ ∀ u, S' 43 u = S 43 u + (if i ≤ u ∧ u < e then k else 0)
  | 0, n + 1, i, S, h, _ => by
    rw [Stays_addBusy_L28]
    simp (disch := omega) only [qk_r, if_pos (show (e : Int) ≤ (i : Int) by omega)]
    refine ⟨S, rfl, fun c _ => rfl, fun u => ?_⟩
    rw [if_neg (by omega), Int.add_zero]
  | j + 1, n + 1, i, S, h, hn => by
    rw [Stays_addBusy_L28]
    simp (disch := omega) only [qk_r, qk_ix, if_neg (show ¬ (e : Int) ≤ (i : Int) by omega), Int.toNat_natCast]
    obtain ⟨S', t1, t2, t3⟩ := addBusy_L hk he j n (i + 1) (qup S 43 i (S 43 i + k)) (by omega) (by omega)
    refine ⟨S', t1, fun c hc => (t2 c hc).trans (qup_off hc), fun u => ?_⟩
    rw [t3 u, qup_on]
    by_cases q : u = i
    · subst q
      rw [if_pos rfl, if_neg (by omega), if_pos (by omega)]
      omega
    · rw [if_neg q]
      by_cases z : i + 1 ≤ u ∧ u < e
      · rw [if_pos z, if_pos (by omega)]
      · rw [if_neg z, if_neg (by omega)]
theorem addBusy_s {S : qSto} {s : Nat} (hs : s < 14) {k t w : Int} (hk : -8 ≤ k ∧ k ≤ 8) (e39 : S 39 s = t) (e41 : S 41 s = w) (ht : 0 ≤ t) (hw : 1 ≤ w) (htw : t + w ≤ 336) : ∃ S', Stays_addBusy (s : Int) k S = some S' ∧ fO 43 S S' ∧ ∀ u : Nat, S' 43 u = S 43 u + (if t ≤ u ∧ (u : Int) < t + w then k else 0) := by
  obtain ⟨S', t1, t2, t3⟩ := addBusy_L hk (e := (t + w).toNat) (by omega) w.toNat qF t.toNat S (by omega) (by unfold qF; omega)
  have f1 : (((t + w).toNat : Nat) : Int) = t + w := by omega
  have f2 : ((t.toNat : Nat) : Int) = t := by omega
  rw [f1, f2] at t1
  refine ⟨S', ?_, t2, fun u => ?_⟩
  · simp (disch := omega) only [Stays_addBusy, qk_ix, Int.toNat_natCast, e39, e41]
    rw [Jm_min_s ⟨by omega, by omega⟩ ⟨by omega, by omega⟩]
    simp only [ob_some, Int.min_eq_right htw, e39]
    rw [t1]
    rfl
  · rw [t3 u]
    congr 1
    by_cases q : t ≤ u ∧ (u : Int) < t + w
    · rw [if_pos q, if_pos (by omega)]
    · rw [if_neg q, if_neg (by omega)]
/-- the class lifts -/
theorem Stays_lift_s {S : qSto} (hI : iT S T lev) (hb : bY T lev Y) (hc : cY S T lev Y) {s : Nat} (hs : (s : Int) < T 9) (hk : 0 < Y.2.2 s) : ∃ S', Stays_lift (s : Int) S = some S' ∧ cY S' T lev (yX Y s) ∧ ∀ c, c ≠ 40 → c ≠ 43 → S' c = S c := by
  have b9 := bT_n hI.1
  have o := bY_one hI.1 hb hs hk
  obtain ⟨p1, p2, p3, p4, p5⟩ := hc.2.1 s hs hk
  have p6 := hc.1 s (by omega)
  obtain ⟨S1, t1, t2, t3⟩ := addBusy_s (S := S) (s := s) (by omega) (k := -(Y.2.2 s)) (by omega) p3 p4 (by omega) (by omega) (by omega)
  refine ⟨qup S1 40 s 0, ?_, ?_, fun c h1 h2 => by rw [qup_off h1, t2 c h2]⟩
  · simp (disch := omega) only [Stays_lift, qk_ix, Int.toNat_natCast, p6]
    rw [t1]
    rfl
  · refine ⟨fun i hi => ?_, fun i hi hik => ?_, fun u hu => ?_, ?_⟩
    · rw [qup_on, t2 40 (by omega)]
      show _ = if i = s then 0 else Y.2.2 i
      split
      · rfl
      · exact hc.1 i hi
    · have hne : ¬ i = s := fun e => by
        have : 0 < (if i = s then 0 else Y.2.2 i) := hik
        rw [if_pos e] at this
        omega
      have hik' : 0 < (if i = s then 0 else Y.2.2 i) := hik
      rw [if_neg hne] at hik'
      have q := hc.2.1 i hi hik'
      rw [qup_off (by omega), qup_off (by omega), qup_off (by omega), qup_off (by omega), qup_off (by omega), t2 37 (by omega), t2 38 (by omega), t2 39 (by omega), t2 41 (by omega), t2 42 (by omega)]
      show S 37 i = (if i = s then 0 else Y.1 i) ∧ S 38 i = (if i = s then 0 else Y.1 i) + sCon T i 0 - 1 ∧ S 39 i = (if i = s then 0 else Y.2.1 i) ∧ S 41 i = sWork T i (if i = s then 0 else Y.2.2 i) ∧ S 42 i = sLeave T lev i (if i = s then 0 else Y.2.1 i) (if i = s then 0 else Y.2.2 i)
      rw [if_neg hne, if_neg hne, if_neg hne]
      exact q
    · rw [qup_off (by omega), t3 u, hc.2.2.1 u hu]
      have := sBusy_put (T := T) (Y := yX Y s) (s := s) (by unfold sN; omega) (x := Y.1 s) (t := Y.2.1 s) (k := Y.2.2 s) (by show (if s = s then (0 : Int) else Y.2.2 s) = 0; rw [if_pos rfl]) u
      rw [yP_back] at this
      rw [this]
      by_cases q : Y.2.1 s ≤ u ∧ (u : Int) < Y.2.1 s + sWork T s (Y.2.2 s)
      · rw [if_pos q, if_pos ⟨hk, q⟩]
        omega
      · rw [if_neg q, if_neg (fun z => q z.2)]
        omega
    · unfold gB
      rw [qup_off (show (37 : Nat) ≠ 40 by omega), qup_off (show (38 : Nat) ≠ 40 by omega), qup_off (show (39 : Nat) ≠ 40 by omega), qup_off (show (41 : Nat) ≠ 40 by omega), qup_off (show (42 : Nat) ≠ 40 by omega), t2 37 (by omega), t2 38 (by omega), t2 39 (by omega), t2 41 (by omega), t2 42 (by omega)]
      exact hc.2.2.2
theorem propose_s {S : qSto} (hI : iT S T lev) {s : Nat} (hs : (s : Int) < T 9) {x t k w : Int} : Stays_propose (s : Int) x t k w S = some (qup (qup (qup (qup (qup S 37 s x) 38 s (x + sCon T s 0 - 1)) 39 s t) 40 s k) 41 s w) := by
  have b9 := bT_n hI.1
  have hI1 : iT (qup S 37 s x) T lev := iT_off hI (fun c hc => qup_off (by omega))
  have ec : Told_contractOf (s : Int) 0 (qup S 37 s x) = some (sCon T s 0, qup S 37 s x) := Told_contractOf_s hI1 hs (w := 0) (by omega)
  simp (disch := omega) only [Stays_propose, qk_ix, Int.toNat_natCast, ec, ob_some]
theorem gB_up {S : qSto} {c s : Nat} {v : Int} (h : gB S c) (hv : -1000000 ≤ v ∧ v ≤ 1000000) : gB (qup S c s v) c := fun i hi => by
  rw [qup_on]
  split
  · exact hv
  · exact h i hi
theorem gB_off {S S' : qSto} {c : Nat} (h : gB S c) (e : S' c = S c) : gB S' c := by
  unfold gB
  rw [e]
  exact h
/-- the class lays -/
theorem Stays_lay_w {S : qSto} (hI : iT S T lev) (hc : cY S T lev Y) {s : Nat} (hs : (s : Int) < T 9) (h0 : Y.2.2 s = 0) {x t k : Int} (hok : okW T lev s x t k) : ∃ S', Stays_lay (s : Int) x t k S = some S' ∧ cY S' T lev (yP Y s x t k) ∧ ∀ c, ¬ (37 ≤ c ∧ c ≤ 43) → S' c = S c := by
  have b9 := bT_n hI.1
  have b := okW_b hI.1 hs hok
  have cn := bT_con hI.1 hs
  have hw := sWork_b hI.1 hs (k := k) (by omega) (by omega)
  obtain ⟨SP, eSP⟩ : ∃ SP, SP = qup (qup (qup (qup (qup S 37 s x) 38 s (x + sCon T s 0 - 1)) 39 s t) 40 s k) 41 s (sWork T s k) := ⟨_, rfl⟩
  have hp := propose_s hI hs (x := x) (t := t) (k := k) (w := sWork T s k)
  rw [← eSP] at hp
  have hIP : iT SP T lev := iT_off hI (fun c hc => by
    rw [eSP, qup_off (by omega), qup_off (by omega), qup_off (by omega), qup_off (by omega), qup_off (by omega)])
  have ec : Told_contractOf (s : Int) 2 SP = some (sCon T s 2, SP) := Told_contractOf_s hIP hs (w := 2) (by omega)
  have e41 : SP 41 s = sWork T s k := by rw [eSP, qup_on, if_pos rfl]
  have e39 : SP 39 s = t := by rw [eSP, qup_off (by omega), qup_off (by omega), qup_on, if_pos rfl]
  have ef := Waters_firstOpen_s hIP (w := sCon T s 2) (t := t + sWork T s k) (by omega) (by omega) (by omega) (by omega)
  have el : sNext T lev (sCon T s 2) (t + sWork T s k).toNat = sLeave T lev s t k := rfl
  rw [el] at ef
  obtain ⟨S1, t1, t2, t3⟩ := addBusy_s (S := qup SP 42 s (sLeave T lev s t k)) (s := s) (by omega) (k := k) (t := t) (w := sWork T s k) (by omega) (by rw [qup_off (by omega)]; exact e39) (by rw [qup_off (by omega)]; exact e41) (by omega) (by omega) (by omega)
  have offs : ∀ c, ¬ (37 ≤ c ∧ c ≤ 43) → S1 c = S c := fun c hc => by
    rw [t2 c (by omega), qup_off (by omega), eSP, qup_off (by omega), qup_off (by omega), qup_off (by omega), qup_off (by omega), qup_off (by omega)]
  have q37 : ∀ i, S1 37 i = if i = s then x else S 37 i := fun i => by
    rw [t2 37 (by omega), qup_off (by omega), eSP, qup_off (by omega), qup_off (by omega), qup_off (by omega), qup_off (by omega), qup_on]
  have q38 : ∀ i, S1 38 i = if i = s then x + sCon T s 0 - 1 else S 38 i := fun i => by
    rw [t2 38 (by omega), qup_off (by omega), eSP, qup_off (by omega), qup_off (by omega), qup_off (by omega), qup_on, qup_off (by omega)]
  have q39 : ∀ i, S1 39 i = if i = s then t else S 39 i := fun i => by
    rw [t2 39 (by omega), qup_off (by omega), eSP, qup_off (by omega), qup_off (by omega), qup_on, qup_off (by omega), qup_off (by omega)]
  have q40 : ∀ i, S1 40 i = if i = s then k else S 40 i := fun i => by
    rw [t2 40 (by omega), qup_off (by omega), eSP, qup_off (by omega), qup_on, qup_off (by omega), qup_off (by omega), qup_off (by omega)]
  have q41 : ∀ i, S1 41 i = if i = s then sWork T s k else S 41 i := fun i => by
    rw [t2 41 (by omega), qup_off (by omega), eSP, qup_on, qup_off (by omega), qup_off (by omega), qup_off (by omega), qup_off (by omega)]
  have q42 : ∀ i, S1 42 i = if i = s then sLeave T lev s t k else S 42 i := fun i => by
    rw [t2 42 (by omega), qup_on, eSP, qup_off (by omega), qup_off (by omega), qup_off (by omega), qup_off (by omega), qup_off (by omega)]
  have q43 : ∀ u : Nat, S1 43 u = S 43 u + (if t ≤ u ∧ (u : Int) < t + sWork T s k then k else 0) := fun u => by
    rw [t3 u, qup_off (by omega), eSP, qup_off (by omega), qup_off (by omega), qup_off (by omega), qup_off (by omega), qup_off (by omega)]
  refine ⟨S1, ?_, ?_, offs⟩
  · rw [Stays_lay, Told_workWith_s hI hs (by omega) (by omega)]
    simp only [ob_some]
    rw [hp]
    simp (disch := omega) only [ob_some, ec, qk_ix, Int.toNat_natCast, e41, ef]
    rw [t1]
    rfl
  · refine ⟨fun i hi => ?_, fun i hi hik => ?_, fun u hu => ?_, ?_, ?_, ?_, ?_, ?_⟩
    · rw [q40]
      show _ = if i = s then k else Y.2.2 i
      split
      · rfl
      · exact hc.1 i hi
    · rw [q37, q38, q39, q41, q42]
      show (if i = s then x else S 37 i) = (if i = s then x else Y.1 i) ∧ (if i = s then x + sCon T s 0 - 1 else S 38 i) = (if i = s then x else Y.1 i) + sCon T i 0 - 1 ∧ (if i = s then t else S 39 i) = (if i = s then t else Y.2.1 i) ∧ (if i = s then sWork T s k else S 41 i) = sWork T i (if i = s then k else Y.2.2 i) ∧ (if i = s then sLeave T lev s t k else S 42 i) = sLeave T lev i (if i = s then t else Y.2.1 i) (if i = s then k else Y.2.2 i)
      by_cases e : i = s
      · subst e
        simp only [reduceIte]
        exact ⟨trivial, trivial, trivial, trivial, trivial⟩
      · have hik' : 0 < (if i = s then k else Y.2.2 i) := hik
        rw [if_neg e] at hik'
        simp only [if_neg e]
        exact hc.2.1 i hi hik'
    · rw [q43, hc.2.2.1 u hu, sBusy_put (by unfold sN; omega) h0]
      by_cases q : t ≤ u ∧ (u : Int) < t + sWork T s k
      · rw [if_pos q, if_pos ⟨by omega, q⟩]
      · rw [if_neg q, if_neg (fun z => q z.2)]
    · intro i hi
      rw [q37]
      split
      · omega
      · exact hc.2.2.2.1 i hi
    · intro i hi
      rw [q38]
      split
      · omega
      · exact hc.2.2.2.2.1 i hi
    · intro i hi
      rw [q39]
      split
      · omega
      · exact hc.2.2.2.2.2.1 i hi
    · intro i hi
      rw [q41]
      split
      · omega
      · exact hc.2.2.2.2.2.2.1 i hi
    · intro i hi
      rw [q42]
      split
      · omega
      · exact hc.2.2.2.2.2.2.2 i hi
theorem Stays_lay_s {S : qSto} (hI : iT S T lev) (hc : cY S T lev Y) {s : Nat} (hs : (s : Int) < T 9) (h0 : Y.2.2 s = 0) {x t k : Int} (hok : okS T lev s x t k) : ∃ S', Stays_lay (s : Int) x t k S = some S' ∧ cY S' T lev (yP Y s x t k) ∧ ∀ c, ¬ (37 ≤ c ∧ c ≤ 43) → S' c = S c := Stays_lay_w hI hc hs h0 (okS_W hI.1 hs hok)
/-- the reference lays -/
theorem M_lay_w {S : qSto} (hI : iT S T lev) (hm : mY S T lev Y) {s : Nat} (hs : (s : Int) < T 9) {x t k : Int} (hok : (k = 0 ∧ (-1000000 ≤ x ∧ x ≤ 1000000) ∧ (-1000000 ≤ t ∧ t ≤ 1000000)) ∨ okW T lev s x t k) : ∃ S', M_lay (s : Int) x t k S = some S' ∧ mY S' T lev (yP Y s x t k) ∧ ∀ c, ¬ (78 ≤ c ∧ c ≤ 82) → S' c = S c := by
  have b9 := bT_n hI.1
  have hI3 : iT (qup (qup (qup S 78 s x) 79 s t) 80 s k) T lev := iT_off hI (fun c hc => by rw [qup_off (by omega), qup_off (by omega), qup_off (by omega)])
  have main : ∀ w l : Int, ((k = 0 ∧ w = 0 ∧ l = 0) ∨ (okW T lev s x t k ∧ w = sWork T s k ∧ l = sLeave T lev s t k)) → M_lay (s : Int) x t k S = some (qup (qup (qup (qup (qup S 78 s x) 79 s t) 80 s k) 81 s w) 82 s l) → ∃ S', M_lay (s : Int) x t k S = some S' ∧ mY S' T lev (yP Y s x t k) ∧ ∀ c, ¬ (78 ≤ c ∧ c ≤ 82) → S' c = S c := by
    intro w l hwl e
    have hx : (-1000000 ≤ x ∧ x ≤ 1000000) ∧ (-1000000 ≤ t ∧ t ≤ 1000000) := by
      rcases hok with h | h
      · exact h.2
      · have := okW_b hI.1 hs h
        omega
    have hwb : (-1000000 ≤ w ∧ w ≤ 1000000) ∧ (-1000000 ≤ l ∧ l ≤ 1000000) := by
      rcases hwl with ⟨-, h1, h2⟩ | ⟨h, h1, h2⟩
      · omega
      · have b := okW_b hI.1 hs h
        have hw := sWork_b hI.1 hs (k := k) (by omega) (by omega)
        omega
    refine ⟨_, e, ⟨fun i hi => ?_, fun i hi hik => ?_, ?_, ?_, ?_, ?_⟩, fun c hc => ?_⟩
    · rw [qup_off (by omega), qup_off (by omega), qup_on, qup_off (by omega), qup_off (by omega)]
      show _ = if i = s then k else Y.2.2 i
      split
      · rfl
      · exact hm.1 i hi
    · have a78 : (qup (qup (qup (qup (qup S 78 s x) 79 s t) 80 s k) 81 s w) 82 s l) 78 i = if i = s then x else S 78 i := by
        rw [qup_off (by omega), qup_off (by omega), qup_off (by omega), qup_off (by omega), qup_on]
      have a79 : (qup (qup (qup (qup (qup S 78 s x) 79 s t) 80 s k) 81 s w) 82 s l) 79 i = if i = s then t else S 79 i := by
        rw [qup_off (by omega), qup_off (by omega), qup_off (by omega), qup_on, qup_off (by omega)]
      have a81 : (qup (qup (qup (qup (qup S 78 s x) 79 s t) 80 s k) 81 s w) 82 s l) 81 i = if i = s then w else S 81 i := by
        rw [qup_off (by omega), qup_on, qup_off (by omega), qup_off (by omega), qup_off (by omega)]
      have a82 : (qup (qup (qup (qup (qup S 78 s x) 79 s t) 80 s k) 81 s w) 82 s l) 82 i = if i = s then l else S 82 i := by
        rw [qup_on, qup_off (by omega), qup_off (by omega), qup_off (by omega), qup_off (by omega)]
      rw [a78, a79, a81, a82]
      show (if i = s then x else S 78 i) = (if i = s then x else Y.1 i) ∧ (if i = s then t else S 79 i) = (if i = s then t else Y.2.1 i) ∧ (if i = s then w else S 81 i) = sWork T i (if i = s then k else Y.2.2 i) ∧ (if i = s then l else S 82 i) = sLeave T lev i (if i = s then t else Y.2.1 i) (if i = s then k else Y.2.2 i)
      have hik' : 0 < (if i = s then k else Y.2.2 i) := hik
      by_cases q : i = s
      · subst q
        rw [if_pos rfl] at hik'
        simp only [reduceIte]
        rcases hwl with h | h
        · omega
        · exact ⟨trivial, trivial, h.2.1, h.2.2⟩
      · rw [if_neg q] at hik'
        simp only [if_neg q]
        exact hm.2.1 i hi hik'
    · refine gB_off (gB_up (s := s) hm.2.2.1 hx.1) ?_
      rw [qup_off (by omega), qup_off (by omega), qup_off (by omega), qup_off (by omega)]
    · refine gB_off (gB_up (S := qup S 78 s x) (c := 79) (s := s) (gB_off hm.2.2.2.1 (qup_off (by omega))) hx.2) ?_
      rw [qup_off (by omega), qup_off (by omega), qup_off (by omega)]
    · refine gB_off (gB_up (S := qup (qup (qup S 78 s x) 79 s t) 80 s k) (c := 81) (s := s) (gB_off hm.2.2.2.2.1 (by rw [qup_off (by omega), qup_off (by omega), qup_off (by omega)])) hwb.1) ?_
      rw [qup_off (by omega)]
    · exact gB_up (gB_off hm.2.2.2.2.2 (by rw [qup_off (by omega), qup_off (by omega), qup_off (by omega), qup_off (by omega)])) hwb.2
    · rw [qup_off (by omega), qup_off (by omega), qup_off (by omega), qup_off (by omega), qup_off (by omega)]
  by_cases g : k = 0
  · refine main 0 0 (Or.inl ⟨g, rfl, rfl⟩) ?_
    simp (disch := omega) only [M_lay, qk_ix, qk_r, if_pos g, ob_some, Int.toNat_natCast]
  · rcases hok with h | h
    · exact absurd h.1 g
    · have b := okW_b hI.1 hs h
      refine main (sWork T s k) (sLeave T lev s t k) (Or.inr ⟨h, rfl, rfl⟩) ?_
      have hI4 : iT (qup (qup (qup (qup S 78 s x) 79 s t) 80 s k) 81 s (sWork T s k)) T lev := iT_off hI3 (fun c hc => qup_off (by omega))
      simp (disch := omega) only [M_lay, qk_ix, qk_r, if_neg g, ob_some, Int.toNat_natCast, M_workBy_s hI3 hs (k := k) (by omega) (by omega), M_leaveBy_s hI4 hs (t := t) (k := k) (by omega) (by omega) (by omega) (by omega)]
theorem M_lay_s {S : qSto} (hI : iT S T lev) (hm : mY S T lev Y) {s : Nat} (hs : (s : Int) < T 9) {x t k : Int} (hok : (k = 0 ∧ (-1000000 ≤ x ∧ x ≤ 1000000) ∧ (-1000000 ≤ t ∧ t ≤ 1000000)) ∨ okS T lev s x t k) : ∃ S', M_lay (s : Int) x t k S = some S' ∧ mY S' T lev (yP Y s x t k) ∧ ∀ c, ¬ (78 ≤ c ∧ c ≤ 82) → S' c = S c := M_lay_w hI hm hs (hok.imp id (okS_W hI.1 hs))
/-- the class takes up -/
theorem Stays_takeUp_s {S : qSto} (hI : iT S T lev) (hb : bY T lev Y) (hc : cY S T lev Y) {s : Nat} (hs : (s : Int) < T 9) : ∃ S', Stays_takeUp (s : Int) S = some S' ∧ cY S' T lev (yX Y s) ∧ S' 6 13 = Y.2.2 s ∧ (0 < Y.2.2 s → S' 6 11 = Y.1 s ∧ S' 6 12 = Y.2.1 s) ∧ ∀ c, c ≠ 6 → c ≠ 40 → c ≠ 43 → S' c = S c := by
  have b9 := bT_n hI.1
  have p6 := hc.1 s (by omega)
  obtain ⟨S1, eS1⟩ : ∃ S1, S1 = qup (qup (qup S 6 11 (S 37 s)) 6 12 (S 39 s)) 6 13 (Y.2.2 s) := ⟨_, rfl⟩
  have off1 : ∀ c, c ≠ 6 → S1 c = S c := fun c hc => by rw [eS1, qup_off hc, qup_off hc, qup_off hc]
  have hI1 : iT S1 T lev := iT_off hI (fun c hc => off1 c (by omega))
  have hc1 : cY S1 T lev Y := cY_off hc (fun c hc => off1 c (by omega))
  have e13 : S1 6 13 = Y.2.2 s := by rw [eS1, qup_on, if_pos rfl]
  have e11 : S1 6 11 = S 37 s := by rw [eS1, qup_on, if_neg (by omega), qup_on, if_neg (by omega), qup_on, if_pos rfl]
  have e12 : S1 6 12 = S 39 s := by rw [eS1, qup_on, if_neg (by omega), qup_on, if_pos rfl]
  have eT : Stays_takeUp (s : Int) S = qk (qRb (S1 6 13)) (if S1 6 13 ≤ 0 then some S1 else Option.bind (Stays_lift (s : Int) S1) (fun q => some q)) := by
    simp (disch := omega) only [Stays_takeUp, qk_ix, Int.toNat_natCast]
    have z1 : (qup S 6 11 (S 37 s)) 39 s = S 39 s := by rw [qup_off (by omega)]
    have z2 : (qup (qup S 6 11 (S 37 s)) 6 12 (S 39 s)) 40 s = Y.2.2 s := by rw [qup_off (by omega), qup_off (by omega), p6]
    rw [z1, z2, ← eS1]
  have kb : 0 ≤ Y.2.2 s ∧ Y.2.2 s ≤ 8 := by
    rcases Int.lt_or_le 0 (Y.2.2 s) with g | g
    · have := (bY_one hI.1 hb hs g).1
      omega
    · have := (hb.1 s).1
      omega
  rw [eT, e13, qk_r (by omega) (by omega)]
  by_cases g : Y.2.2 s ≤ 0
  · rw [if_pos g]
    refine ⟨S1, rfl, cY_cong (yE_x (by omega)) hc1, e13, fun q => by omega, fun c h1 _ _ => off1 c h1⟩
  · rw [if_neg g]
    obtain ⟨S2, t1, t2, t3⟩ := Stays_lift_s hI1 hb hc1 hs (by omega)
    obtain ⟨p1, -, p3, -⟩ := hc.2.1 s hs (by omega)
    refine ⟨S2, ?_, t2, ?_, fun _ => ⟨?_, ?_⟩, fun c h1 h2 h3 => ?_⟩
    · rw [t1]
      rfl
    · rw [t3 6 (by omega) (by omega)]
      exact e13
    · rw [t3 6 (by omega) (by omega), e11, p1]
    · rw [t3 6 (by omega) (by omega), e12, p3]
    · rw [t3 c h2 h3, off1 c h1]
/-- the class lays back -/
theorem Stays_layBack_s {S : qSto} (hI : iT S T lev) (hb : bY T lev Y) {s : Nat} (hs : (s : Int) < T 9) (hc : cY S T lev (yX Y s)) (e13 : S 6 13 = Y.2.2 s) (e11 : 0 < Y.2.2 s → S 6 11 = Y.1 s ∧ S 6 12 = Y.2.1 s) : ∃ S', Stays_layBack (s : Int) S = some S' ∧ cY S' T lev Y ∧ ∀ c, ¬ (37 ≤ c ∧ c ≤ 43) → S' c = S c := by
  have kb : 0 ≤ Y.2.2 s ∧ Y.2.2 s ≤ 8 := by
    rcases Int.lt_or_le 0 (Y.2.2 s) with g | g
    · have := (bY_one hI.1 hb hs g).1
      omega
    · have := (hb.1 s).1
      omega
  rw [Stays_layBack, e13, qk_r (by omega) (by omega)]
  by_cases g : Y.2.2 s ≤ 0
  · rw [if_pos g]
    exact ⟨S, rfl, cY_cong (yE_symm (yE_x (by omega))) hc, fun c _ => rfl⟩
  · rw [if_neg g, (e11 (by omega)).1, (e11 (by omega)).2]
    obtain ⟨S', t1, t2, t3⟩ := Stays_lay_w hI hc hs (by show (if s = s then (0 : Int) else Y.2.2 s) = 0; rw [if_pos rfl]) (bY_ok hb hs (by omega))
    refine ⟨S', ?_, ?_, t3⟩
    · rw [t1]
      rfl
    · rw [yP_back] at t2
      exact t2
end PU
