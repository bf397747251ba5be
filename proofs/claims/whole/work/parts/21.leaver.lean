/-! leaving: the i-th by leave -/
noncomputable def cI {α : Type} (p : Prop) (a b : α) : α := @ite α p (Classical.propDecidable p) a b
theorem cI_t {α : Type} {p : Prop} {a b : α} (h : p) : cI p a b = a := if_pos h
theorem cI_f {α : Type} {p : Prop} {a b : α} (h : ¬ p) : cI p a b = b := if_neg h
/-- the first of the least by f among those of P below n; -1 without -/
noncomputable def sArg (P : Nat → Prop) (f : Nat → Int) : Nat → Int
  | 0 => -1
  | n + 1 => cI (P n) (if sArg P f n = -1 then (n : Int) else if f (sArg P f n).toNat ≤ f n then sArg P f n else (n : Int)) (sArg P f n)
theorem sArg_spec (P : Nat → Prop) (f : Nat → Int) : ∀ n : Nat, (sArg P f n = -1 ∧ ∀ x, x < n → ¬ P x) ∨ ∃ s : Nat, sArg P f n = s ∧ s < n ∧ P s ∧ ∀ x, x < n → P x → x = s ∨ oLt f s x
  | 0 => Or.inl ⟨rfl, fun x h => absurd h (by omega)⟩
  | n + 1 => by
    by_cases g : P n
    · rw [sArg, cI_t g]
      rcases sArg_spec P f n with ⟨e, h⟩ | ⟨s, e, h1, h2, h3⟩
      · rw [e, if_pos rfl]
        refine Or.inr ⟨n, rfl, by omega, g, fun x hx px => ?_⟩
        rcases Nat.lt_or_ge x n with q | q
        · exact absurd px (h x q)
        · exact Or.inl (by omega)
      · rw [e, if_neg (by omega), Int.toNat_natCast]
        by_cases c : f s ≤ f n
        · rw [if_pos c]
          refine Or.inr ⟨s, rfl, by omega, h2, fun x hx px => ?_⟩
          rcases Nat.lt_or_ge x n with q | q
          · exact h3 x q px
          · have : x = n := by omega
            subst this
            refine Or.inr ?_
            unfold oLt
            omega
        · rw [if_neg c]
          refine Or.inr ⟨n, rfl, by omega, g, fun x hx px => ?_⟩
          rcases Nat.lt_or_ge x n with q | q
          · refine Or.inr (Or.inl ?_)
            rcases h3 x q px with z | z
            · rw [z]
              omega
            · unfold oLt at z
              omega
          · exact Or.inl (by omega)
    · rw [sArg, cI_f g]
      rcases sArg_spec P f n with ⟨e, h⟩ | ⟨s, e, h1, h2, h3⟩
      · refine Or.inl ⟨e, fun x hx px => ?_⟩
        rcases Nat.lt_or_ge x n with q | q
        · exact h x q px
        · have : x = n := by omega
          subst this
          exact g px
      · refine Or.inr ⟨s, e, by omega, h2, fun x hx px => ?_⟩
        rcases Nat.lt_or_ge x n with q | q
        · exact h3 x q px
        · have : x = n := by omega
          subst this
          exact absurd px g
theorem sArg_rng (P : Nat → Prop) (f : Nat → Int) (n : Nat) : sArg P f n = -1 ∨ ∃ s : Nat, sArg P f n = s ∧ s < n ∧ P s := by
  rcases sArg_spec P f n with ⟨e, h⟩ | ⟨s, e, h1, h2, h3⟩
  · exact Or.inl e
  · exact Or.inr ⟨s, e, h1, h2⟩
theorem sArg_next {P B : Nat → Prop} {f : Nat → Int} {n : Nat} : oNext P B f n (sArg (fun x => P x ∧ B x) f n) := by
  rcases sArg_spec (fun x => P x ∧ B x) f n with ⟨e, h⟩ | ⟨s, e, h1, h2, h3⟩
  · exact Or.inl ⟨e, fun x hx px bx => h x hx ⟨px, bx⟩⟩
  · exact Or.inr ⟨s, e, h1, h2.1, h2.2, fun x hx px bx => h3 x hx ⟨px, bx⟩⟩
/-- a list's k-th, -1 behind its end -/
def oNth (l : List Nat) (k : Nat) : Int := oHd (l.drop k)
theorem oNth_end {l : List Nat} {k : Nat} (h : oNth l k = -1) : l.length ≤ k := by
  unfold oNth at h
  cases e : l.drop k with
  | nil => exact List.drop_eq_nil_iff.mp e
  | cons a t =>
    rw [e] at h
    have : (a : Int) = -1 := h
    omega
theorem oNth_out {l : List Nat} {k : Nat} (h : l.length ≤ k) : oNth l k = -1 := by
  unfold oNth
  rw [List.drop_eq_nil_iff.mpr h]
  rfl
theorem oNth_in {l : List Nat} {k s : Nat} (h : oNth l k = s) : ∃ l1 l2, l = l1 ++ s :: l2 ∧ l1.length = k ∧ l2 = l.drop (k + 1) := by
  unfold oNth at h
  cases e : l.drop k with
  | nil =>
    rw [e] at h
    have : (-1 : Int) = s := h
    omega
  | cons a t =>
    rw [e] at h
    have h2 : (a : Int) = s := h
    have h3 : a = s := by omega
    subst h3
    refine ⟨l.take k, t, ?_, ?_, ?_⟩
    · rw [← e, List.take_append_drop]
    · rw [List.length_take]
      have := congrArg List.length e
      rw [List.length_drop] at this
      simp at this
      omega
    · have : l.drop (k + 1) = (l.drop k).drop 1 := by rw [List.drop_drop]
      rw [this, e]
      rfl
theorem oNth_cut {l1 l2 : List Nat} {s : Nat} : oNth (l1 ++ s :: l2) l1.length = s := by
  unfold oNth
  rw [List.drop_left]
  rfl
section PV
variable {S : qSto} {T lev : Nat → Int} {Y : qY}
def sLv (T lev : Nat → Int) (Y : qY) (s : Nat) : Int := sLeave T lev s (Y.2.1 s) (Y.2.2 s)
noncomputable def sLL (T lev : Nat → Int) (Y : qY) : List Nat := oL (fun s => 0 < Y.2.2 s) (sLv T lev Y) (sN T)
def sAhead (T lev : Nat → Int) (Y : qY) (s : Nat) : Nat → Int
  | 0 => 0
  | i + 1 => sAhead T lev Y s i + if 0 < Y.2.2 i ∧ (sLv T lev Y i < sLv T lev Y s ∨ sLv T lev Y i = sLv T lev Y s ∧ i < s) then 1 else 0
theorem sAhead_sm (s n : Nat) : sAhead T lev Y s n = sm (fun i => if 0 < Y.2.2 i ∧ (sLv T lev Y i < sLv T lev Y s ∨ sLv T lev Y i = sLv T lev Y s ∧ i < s) then 1 else 0) n := by
  induction n with
  | zero => rfl
  | succ n ih => rw [sAhead, sm, ih]
theorem C_leaversAhead_L (h : iA S T lev Y) {s : Nat} (hs : (s : Int) < T 9) (gs : 0 < Y.2.2 s) : ∀ (j n i : Nat), (i : Int) + j = T 9 → j < n → C_leaversAhead_L4 n (s : Int) (sAhead T lev Y s i) (i : Int) S = some (sAhead T lev Y s (sN T), S)
  | 0, n + 1, i, e, _ => by
    have b9 := bT_n h.1.1
    have e1 := h.1.2.1.2.2.2.2.1
    rw [C_leaversAhead_L4]
    simp (disch := omega) only [qk_r, e1, if_pos (show T 9 ≤ (i : Int) by omega)]
    unfold sN
    rw [show (T 9).toNat = i by omega]
  | j + 1, n + 1, i, e, hn => by
    obtain ⟨hI, hb, hc, hm⟩ := id h
    have b9 := bT_n hI.1
    have e1 := hI.2.1.2.2.2.2.1
    have ih := C_leaversAhead_L h hs gs j n (i + 1) (by omega) (by omega)
    rw [sAhead] at ih
    obtain ⟨-, -, -, -, es⟩ := hc.2.1 s hs gs
    have os := bY_one hI.1 hb hs gs
    have bi := hc.2.2.2.2.2.2.2 i (by omega)
    rw [C_leaversAhead_L4]
    simp (disch := omega) only [qk_r, qk_ix, e1, if_neg (show ¬ T 9 ≤ (i : Int) by omega), Int.toNat_natCast, es, Stays_has_s hb hc hI.1 (s := i) (by omega), ob_some, ite01_r, ite01_e]
    by_cases g : 0 < Y.2.2 i
    · obtain ⟨-, -, -, -, ei⟩ := hc.2.1 i (by omega) g
      simp only [ei, if_pos g]
      unfold sLv at ih
      by_cases c1 : sLeave T lev i (Y.2.1 i) (Y.2.2 i) < sLeave T lev s (Y.2.1 s) (Y.2.2 s)
      · simp (disch := omega) only [if_pos c1, ob_some, qk_r, if_neg (show ¬ (1 : Int) = 0 by omega)]
        rw [if_pos ⟨g, Or.inl c1⟩] at ih
        exact ih
      · by_cases c2 : sLeave T lev i (Y.2.1 i) (Y.2.2 i) = sLeave T lev s (Y.2.1 s) (Y.2.2 s)
        · by_cases c3 : (s : Int) ≤ i
          · simp (disch := omega) only [if_neg c1, if_pos c2, if_pos c3, ob_some, qk_r, if_pos (show (0 : Int) = 0 from rfl)]
            rw [if_neg (by omega), Int.add_zero] at ih
            exact ih
          · simp (disch := omega) only [if_neg c1, if_pos c2, if_neg c3, ob_some, qk_r, if_neg (show ¬ (1 : Int) = 0 by omega)]
            rw [if_pos ⟨g, Or.inr ⟨c2, by omega⟩⟩] at ih
            exact ih
        · simp (disch := omega) only [if_neg c1, if_neg c2, ob_some, qk_r, if_pos (show (0 : Int) = 0 from rfl)]
          rw [if_neg (by omega), Int.add_zero] at ih
          exact ih
    · rw [if_neg (fun q => g q.1), Int.add_zero] at ih
      simp only [if_neg g]
      by_cases c1 : S 42 i < sLeave T lev s (Y.2.1 s) (Y.2.2 s)
      · simp only [if_pos c1, ob_some]
        exact ih
      · by_cases c2 : S 42 i = sLeave T lev s (Y.2.1 s) (Y.2.2 s)
        · by_cases c3 : (s : Int) ≤ i
          · simp only [if_neg c1, if_pos c2, if_pos c3, ob_some]
            exact ih
          · simp only [if_neg c1, if_pos c2, if_neg c3, ob_some]
            exact ih
        · simp only [if_neg c1, if_neg c2, ob_some]
          exact ih
theorem C_leaversAhead_s (h : iA S T lev Y) {s : Nat} (hs : (s : Int) < T 9) (gs : 0 < Y.2.2 s) : C_leaversAhead (s : Int) S = some (sAhead T lev Y s (sN T), S) := by
  have b9 := bT_n h.1.1
  have e := C_leaversAhead_L h hs gs (T 9).toNat qF 0 (by omega) (by unfold qF; omega)
  have e' : C_leaversAhead_L4 qF (s : Int) 0 0 S = some (sAhead T lev Y s (sN T), S) := e
  rw [C_leaversAhead, e']
  rfl
/-- a leaver's place in the list -/
theorem sAhead_pos {s : Nat} (hs : s < sN T) (gs : 0 < Y.2.2 s) : ∃ l1 l2, sLL T lev Y = l1 ++ s :: l2 ∧ sAhead T lev Y s (sN T) = l1.length := by
  have hm : s ∈ sLL T lev Y := (oL_mem _ _).mpr ⟨hs, gs⟩
  obtain ⟨l1, l2, e⟩ := List.append_of_mem hm
  refine ⟨l1, l2, e, ?_⟩
  rw [sAhead_sm]
  refine oL_count e (fun o ho po lo => ?_) (fun o ho no => ?_)
  · rw [if_pos]
    exact ⟨po, lo⟩
  · rw [if_neg]
    intro q
    exact no ⟨q.1, q.2⟩
theorem sLL_len : (sLL T lev Y).length ≤ sN T := by
  have h := sm_mem (n := sN T) (l := sLL T lev Y) (oL_nodup _ _ _) (fun x hx => ((oL_mem _ _).mp hx).1)
  have b := sm_bnd (f := fun o => if o ∈ sLL T lev Y then 1 else 0) (c := 1) (n := sN T) (fun k _ => by
    skip
    split <;> omega)
  omega
theorem C_leaver_L (h : iA S T lev Y) {a : Nat} (ha : a < 2147483648) : ∀ (j n i : Nat), (i : Int) + j = T 9 → j < n → (C_leaver_L8 n (a : Int) (i : Int) S = some (.inl S) ∧ ∀ s, i ≤ s → s < sN T → 0 < Y.2.2 s → sAhead T lev Y s (sN T) ≠ a) ∨ ∃ s : Nat, C_leaver_L8 n (a : Int) (i : Int) S = some (.inr ((s : Int), S)) ∧ oNth (sLL T lev Y) a = s
  | 0, n + 1, i, e, _ => by
    have b9 := bT_n h.1.1
    have e1 := h.1.2.1.2.2.2.2.1
    rw [C_leaver_L8]
    simp (disch := omega) only [qk_r, e1, if_pos (show T 9 ≤ (i : Int) by omega)]
    refine Or.inl ⟨trivial, fun s h1 h2 => ?_⟩
    unfold sN at h2
    omega
  | j + 1, n + 1, i, e, hn => by
    obtain ⟨hI, hb, hc, hm⟩ := id h
    have b9 := bT_n hI.1
    have e1 := hI.2.1.2.2.2.2.1
    have ih := C_leaver_L h ha j n (i + 1) (by omega) (by omega)
    have f1 : (((i + 1 : Nat)) : Int) = (i : Int) + 1 := by omega
    rw [f1] at ih
    rw [C_leaver_L8]
    simp (disch := omega) only [qk_r, e1, if_neg (show ¬ T 9 ≤ (i : Int) by omega), Stays_has_s hb hc hI.1 (s := i) (by omega), ob_some, ite01_r, ite01_e]
    by_cases g : 0 < Y.2.2 i
    · obtain ⟨l1, l2, z1, z2⟩ := sAhead_pos (T := T) (lev := lev) (Y := Y) (s := i) (by unfold sN; omega) g
      have hl := sLL_len (T := T) (lev := lev) (Y := Y)
      rw [z1] at hl
      have hl2 : l1.length ≤ 14 := by
        simp at hl
        unfold sN at hl
        omega
      simp (disch := omega) only [if_pos g, C_leaversAhead_s h (s := i) (by omega) g, ob_some, qk_r]
      by_cases c : sAhead T lev Y i (sN T) = a
      · simp only [if_pos c]
        refine Or.inr ⟨i, rfl, ?_⟩
        have : a = l1.length := by omega
        rw [this, z1]
        exact oNth_cut
      · simp only [if_neg c]
        rcases ih with ⟨p1, p2⟩ | ⟨s, p1, p2⟩
        · refine Or.inl ⟨p1, fun s h1 h2 h3 => ?_⟩
          rcases Nat.lt_or_ge i s with q | q
          · exact p2 s (by omega) h2 h3
          · have : s = i := by omega
            rw [this]
            exact c
        · exact Or.inr ⟨s, p1, p2⟩
    · simp only [if_neg g]
      rcases ih with ⟨p1, p2⟩ | ⟨s, p1, p2⟩
      · refine Or.inl ⟨p1, fun s h1 h2 h3 => ?_⟩
        rcases Nat.lt_or_ge i s with q | q
        · exact p2 s (by omega) h2 h3
        · have : s = i := by omega
          rw [this] at h3
          exact absurd h3 g
      · exact Or.inr ⟨s, p1, p2⟩
/-- the reference's chain -/
theorem M_nextLeaver_L (h : iA S T lev Y) {bs bn : Int} (hbs : qR bs) (hbn : qR bn) : ∀ (j n i : Nat), (i : Int) + j = T 9 → j < n → M_nextLeaver_L5 n bs bn (sArg (fun x => 0 < Y.2.2 x ∧ (bs < sLv T lev Y x ∨ sLv T lev Y x = bs ∧ bn < x)) (sLv T lev Y) i) (i : Int) S = some (sArg (fun x => 0 < Y.2.2 x ∧ (bs < sLv T lev Y x ∨ sLv T lev Y x = bs ∧ bn < x)) (sLv T lev Y) (sN T), S)
  | 0, n + 1, i, e, _ => by
    have b9 := bT_n h.1.1
    have e1 := h.1.2.2.1 9
    rw [M_nextLeaver_L5]
    simp (disch := omega) only [qk_r, e1, if_pos (show T 9 ≤ (i : Int) by omega)]
    unfold sN
    rw [show (T 9).toNat = i by omega]
  | j + 1, n + 1, i, e, hn => by
    obtain ⟨hI, hb, hc, hm⟩ := id h
    obtain ⟨u1, u2⟩ := id hbs
    obtain ⟨u3, u4⟩ := id hbn
    have b9 := bT_n hI.1
    have e1 := hI.2.2.1 9
    have bi := hm.2.2.2.2.2 i (by omega)
    have ih := M_nextLeaver_L h hbs hbn j n (i + 1) (by omega) (by omega)
    have f1 : (((i + 1 : Nat)) : Int) = (i : Int) + 1 := by omega
    rw [f1, sArg] at ih
    rcases sArg_rng (fun x => 0 < Y.2.2 x ∧ (bs < sLv T lev Y x ∨ sLv T lev Y x = bs ∧ bn < x)) (sLv T lev Y) i with ea | ⟨s, ea, a1, a2⟩
    · rw [ea] at ih ⊢
      rw [M_nextLeaver_L5]
      simp (disch := omega) only [qk_r, qk_ix, e1, if_neg (show ¬ T 9 ≤ (i : Int) by omega), Int.toNat_natCast, M_stays_s hb hm hI.1 (s := i) (by omega), ob_some, ite01_r, ite01_e, reduceIte]
      simp only [reduceIte] at ih
      by_cases g : 0 < Y.2.2 i
      · obtain ⟨-, -, -, ei⟩ := hm.2.1 i (by omega) g
        simp only [ei, if_pos g]
        unfold sLv at ih
        by_cases c1 : bs < sLeave T lev i (Y.2.1 i) (Y.2.2 i)
        · simp (disch := omega) only [if_pos c1, ob_some, qk_r, if_neg (show ¬ (1 : Int) = 0 by omega)]
          rw [cI_t ⟨g, Or.inl c1⟩] at ih
          exact ih
        · by_cases c2 : sLeave T lev i (Y.2.1 i) (Y.2.2 i) = bs
          · by_cases c3 : (i : Int) ≤ bn
            · simp (disch := omega) only [if_neg c1, if_pos c2, if_pos c3, ob_some, qk_r, reduceIte]
              rw [cI_f (by omega)] at ih
              exact ih
            · simp (disch := omega) only [if_neg c1, if_pos c2, if_neg c3, ob_some, qk_r, if_neg (show ¬ (1 : Int) = 0 by omega)]
              rw [cI_t ⟨g, Or.inr ⟨c2, by omega⟩⟩] at ih
              exact ih
          · simp (disch := omega) only [if_neg c1, if_neg c2, ob_some, qk_r, reduceIte]
            rw [cI_f (by omega)] at ih
            exact ih
      · rw [cI_f (fun q => g q.1)] at ih
        simp only [if_neg g]
        by_cases c1 : bs < S 82 i
        · simp only [if_pos c1, ob_some]
          exact ih
        · by_cases c2 : S 82 i = bs
          · by_cases c3 : (i : Int) ≤ bn
            · simp only [if_neg c1, if_pos c2, if_pos c3, ob_some]
              exact ih
            · simp only [if_neg c1, if_pos c2, if_neg c3, ob_some]
              exact ih
          · simp only [if_neg c1, if_neg c2, ob_some]
            exact ih
    · obtain ⟨-, -, -, eas⟩ := hm.2.1 s (by omega) a2.1
      have oss := bY_one hI.1 hb (s := s) (by omega) a2.1
      rw [ea] at ih ⊢
      rw [M_nextLeaver_L5]
      simp (disch := omega) only [qk_r, qk_ix, e1, if_neg (show ¬ T 9 ≤ (i : Int) by omega), if_neg (show ¬ (s : Int) = -1 by omega), Int.toNat_natCast, M_stays_s hb hm hI.1 (s := i) (by omega), ob_some, ite01_r, ite01_e, eas]
      simp only [if_neg (show ¬ (s : Int) = -1 by omega), Int.toNat_natCast] at ih
      by_cases g : 0 < Y.2.2 i
      · obtain ⟨-, -, -, ei⟩ := hm.2.1 i (by omega) g
        have oi := bY_one hI.1 hb (s := i) (by omega) g
        simp only [ei, if_pos g]
        unfold sLv at ih
        by_cases c0 : sLeave T lev s (Y.2.1 s) (Y.2.2 s) ≤ sLeave T lev i (Y.2.1 i) (Y.2.2 i)
        · simp only [if_pos c0] at ih ⊢
          by_cases c1 : bs < sLeave T lev i (Y.2.1 i) (Y.2.2 i)
          · simp (disch := omega) only [if_pos c1, ob_some, qk_r, if_neg (show ¬ (1 : Int) = 0 by omega)]
            rw [cI_t ⟨g, Or.inl c1⟩] at ih
            exact ih
          · by_cases c2 : sLeave T lev i (Y.2.1 i) (Y.2.2 i) = bs
            · by_cases c3 : (i : Int) ≤ bn
              · simp (disch := omega) only [if_neg c1, if_pos c2, if_pos c3, ob_some, qk_r, reduceIte]
                rw [cI_f (by omega)] at ih
                exact ih
              · simp (disch := omega) only [if_neg c1, if_pos c2, if_neg c3, ob_some, qk_r, if_neg (show ¬ (1 : Int) = 0 by omega)]
                rw [cI_t ⟨g, Or.inr ⟨c2, by omega⟩⟩] at ih
                exact ih
            · simp (disch := omega) only [if_neg c1, if_neg c2, ob_some, qk_r, reduceIte]
              rw [cI_f (by omega)] at ih
              exact ih
        · simp only [if_neg c0] at ih ⊢
          by_cases c1 : bs < sLeave T lev i (Y.2.1 i) (Y.2.2 i)
          · simp (disch := omega) only [if_pos c1, ob_some, qk_r, if_neg (show ¬ (1 : Int) = 0 by omega)]
            rw [cI_t ⟨g, Or.inl c1⟩] at ih
            exact ih
          · by_cases c2 : sLeave T lev i (Y.2.1 i) (Y.2.2 i) = bs
            · by_cases c3 : (i : Int) ≤ bn
              · simp (disch := omega) only [if_neg c1, if_pos c2, if_pos c3, ob_some, qk_r, reduceIte]
                rw [cI_f (by omega)] at ih
                exact ih
              · simp (disch := omega) only [if_neg c1, if_pos c2, if_neg c3, ob_some, qk_r, if_neg (show ¬ (1 : Int) = 0 by omega)]
                rw [cI_t ⟨g, Or.inr ⟨c2, by omega⟩⟩] at ih
                exact ih
            · simp (disch := omega) only [if_neg c1, if_neg c2, ob_some, qk_r, reduceIte]
              rw [cI_f (by omega)] at ih
              exact ih
      · rw [cI_f (fun q => g q.1)] at ih
        simp only [if_neg g]
        by_cases c1 : bs < S 82 i
        · simp only [if_pos c1, ob_some]
          exact ih
        · by_cases c2 : S 82 i = bs
          · by_cases c3 : (i : Int) ≤ bn
            · simp only [if_neg c1, if_pos c2, if_pos c3, ob_some]
              exact ih
            · simp only [if_neg c1, if_pos c2, if_neg c3, ob_some]
              exact ih
          · simp only [if_neg c1, if_neg c2, ob_some]
            exact ih
theorem M_nextLeaver_s (h : iA S T lev Y) {bs bn : Int} (hbs : qR bs) (hbn : qR bn) : ∃ r, M_nextLeaver bs bn S = some (r, S) ∧ oNext (fun s => 0 < Y.2.2 s) (fun x => bs < sLv T lev Y x ∨ sLv T lev Y x = bs ∧ bn < x) (sLv T lev Y) (sN T) r := by
  have b9 := bT_n h.1.1
  have e := M_nextLeaver_L h hbs hbn (T 9).toNat qF 0 (by omega) (by unfold qF; omega)
  have e' : M_nextLeaver_L5 qF bs bn (-1) 0 S = _ := e
  rw [M_nextLeaver, e']
  exact ⟨_, rfl, sArg_next⟩
theorem M_leaver_L (h : iA S T lev Y) {a : Nat} (ha : a < 2147483648) : ∀ (j n k : Nat), (sLL T lev Y).length ≤ k + j → j < n → k ≤ a → M_leaver_L15 n (a : Int) (oNth (sLL T lev Y) k) (k : Int) S = some (oNth (sLL T lev Y) a, S)
  | j, n + 1, k, e, hn, hk => by
    rw [M_leaver_L15]
    simp (disch := omega) only [qk_r]
    rcases Nat.lt_or_ge k a with q | q
    · rw [if_neg (by omega)]
      rcases Nat.lt_or_ge k (sLL T lev Y).length with q2 | q2
      · obtain ⟨s, es⟩ : ∃ s : Nat, oNth (sLL T lev Y) k = s := by
          unfold oNth
          cases z : (sLL T lev Y).drop k with
          | nil => exact absurd (List.drop_eq_nil_iff.mp z) (by omega)
          | cons b t => exact ⟨b, rfl⟩
        obtain ⟨l1, l2, z1, z2, z3⟩ := oNth_in es
        have hsp := oL_split z1
        obtain ⟨s1, s2⟩ := hsp.1
        have b9 := bT_n h.1.1
        have hs9 : (s : Int) < T 9 := by unfold sN at s1; omega
        obtain ⟨hI, hb, hc, hm⟩ := id h
        obtain ⟨-, -, -, e82⟩ := hm.2.1 s hs9 s2
        have os := bY_one hI.1 hb hs9 s2
        rw [es]
        simp (disch := omega) only [qk_r, qk_ix, if_neg (show ¬ (s : Int) = -1 by omega), Int.toNat_natCast, e82]
        obtain ⟨r, r1, r2⟩ := M_nextLeaver_s h (bs := sLeave T lev s (Y.2.1 s) (Y.2.2 s)) (bn := (s : Int)) ⟨by omega, by omega⟩ ⟨by omega, by omega⟩
        rw [r1]
        simp only [ob_some]
        have r3 : oNext (fun s => 0 < Y.2.2 s) (oLt (sLv T lev Y) s) (sLv T lev Y) (sN T) r := by
          have : (fun x : Nat => sLeave T lev s (Y.2.1 s) (Y.2.2 s) < sLv T lev Y x ∨ sLv T lev Y x = sLeave T lev s (Y.2.1 s) (Y.2.2 s) ∧ (s : Int) < (x : Int)) = oLt (sLv T lev Y) s := by
            funext x
            apply propext
            unfold oLt sLv
            constructor <;> (rintro (q | q); exact Or.inl q; exact Or.inr ⟨q.1.symm, by omega⟩)
          rw [this] at r2
          exact r2
        have r4 := oNext_step z1 r3
        rw [z3] at r4
        rw [r4]
        cases j with
        | zero => omega
        | succ j => exact M_leaver_L h ha j n (k + 1) (by omega) (by omega) (by omega)
      · rw [oNth_out q2, oNth_out (show (sLL T lev Y).length ≤ a by omega)]
        rfl
    · have : k = a := by omega
      subst this
      rw [if_pos (by omega)]
theorem p_leaver (h : iA S T lev Y) {a : Int} (ha : qR a) : ∃ r, C_leaver a S = some (r, S) ∧ M_leaver a S = some (r, S) := by
  obtain ⟨m1, m2⟩ := id ha
  have b9 := bT_n h.1.1
  simp (disch := omega) only [C_leaver, M_leaver, qk_r]
  by_cases g : 0 ≤ a
  · simp only [if_pos g]
    have f1 : ((a.toNat : Nat) : Int) = a := by omega
    obtain ⟨r, r1, r2⟩ := M_nextLeaver_s h (bs := -1) (bn := -1) ⟨by omega, by omega⟩ ⟨by omega, by omega⟩
    have r3 : oNext (fun s => 0 < Y.2.2 s) (fun _ => True) (sLv T lev Y) (sN T) r := by
      rcases r2 with ⟨p1, p2⟩ | ⟨s, p1, p2, p3, p4, p5⟩
      · refine Or.inl ⟨p1, fun x hx px _ => p2 x hx px (Or.inl ?_)⟩
        have := bY_one h.1.1 h.2.1 (s := x) (by unfold sN at hx; omega) px
        unfold sLv
        omega
      · refine Or.inr ⟨s, p1, p2, p3, trivial, fun x hx px _ => p5 x hx px (Or.inl ?_)⟩
        have := bY_one h.1.1 h.2.1 (s := x) (by unfold sN at hx; omega) px
        unfold sLv
        omega
    have r4 := oNext_head r3
    have hl := sLL_len (T := T) (lev := lev) (Y := Y)
    have e2 := M_leaver_L h (a := a.toNat) (by omega) (sN T) qF 0 (by omega) (by unfold sN qF; omega) (by omega)
    have e2' : M_leaver_L15 qF a r 0 S = some (oNth (sLL T lev Y) a.toNat, S) := by
      rw [f1] at e2
      rw [r4]
      exact e2
    rw [r1]
    simp only [ob_some]
    rw [e2']
    simp only [ob_some]
    rcases C_leaver_L h (a := a.toNat) (by omega) (T 9).toNat qF 0 (by omega) (by unfold qF; omega) with ⟨e1, q⟩ | ⟨s, e1, q⟩
    · rw [f1] at e1
      have e1' : C_leaver_L8 qF a 0 S = _ := e1
      rw [e1']
      have : oNth (sLL T lev Y) a.toNat = -1 := by
        unfold oNth
        cases z : (sLL T lev Y).drop a.toNat with
        | nil => rfl
        | cons s t =>
          exfalso
          have es : oNth (sLL T lev Y) a.toNat = s := by
            unfold oNth
            rw [z]
            rfl
          obtain ⟨l1, l2, z1, z2, z3⟩ := oNth_in es
          have hsp := (oL_split z1).1
          obtain ⟨k1, k2, y1, y2⟩ := sAhead_pos (T := T) (lev := lev) (Y := Y) (s := s) hsp.1 hsp.2
          have c := q s (by omega) hsp.1 hsp.2
          apply c
          rw [y2]
          have w1 := oL_count (g := fun i => if 0 < Y.2.2 i ∧ (sLv T lev Y i < sLv T lev Y s ∨ sLv T lev Y i = sLv T lev Y s ∧ i < s) then 1 else 0) z1 (fun o ho po lo => if_pos ⟨po, lo⟩) (fun o ho no => if_neg (fun q => no ⟨q.1, q.2⟩))
          have w2 := oL_count (g := fun i => if 0 < Y.2.2 i ∧ (sLv T lev Y i < sLv T lev Y s ∨ sLv T lev Y i = sLv T lev Y s ∧ i < s) then 1 else 0) y1 (fun o ho po lo => if_pos ⟨po, lo⟩) (fun o ho no => if_neg (fun q => no ⟨q.1, q.2⟩))
          omega
      rw [this]
      exact ⟨_, rfl, rfl⟩
    · rw [f1] at e1
      have e1' : C_leaver_L8 qF a 0 S = _ := e1
      have s9 : s < sN T := by
        obtain ⟨l1, l2, z1, z2, z3⟩ := oNth_in q
        exact (oL_split z1).1.1
      unfold sN at s9
      rw [e1', q]
      simp (disch := omega) only [ob_some, qk_r, if_neg (show ¬ (s : Int) = -1 by omega)]
      exact ⟨_, rfl, rfl⟩
  · simp only [if_neg g]
    exact ⟨_, rfl, rfl⟩
end PV
