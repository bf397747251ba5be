/-! ORDERS: the ships of a kind P, by f, of like ones by number, as a list -/
def oLt (f : Nat → Int) (a b : Nat) : Prop := f a < f b ∨ (f a = f b ∧ a < b)
def oIns (f : Nat → Int) (a : Nat) : List Nat → List Nat
  | [] => [a]
  | b :: l => if f a < f b then a :: b :: l else b :: oIns f a l
noncomputable def oL (P : Nat → Prop) (f : Nat → Int) : Nat → List Nat
  | 0 => []
  | n + 1 => @ite _ (P n) (Classical.propDecidable _) (oIns f n (oL P f n)) (oL P f n)
theorem oIns_mem {f : Nat → Int} {a x : Nat} : ∀ {l : List Nat}, x ∈ oIns f a l ↔ x = a ∨ x ∈ l
  | [] => by simp [oIns]
  | b :: l => by
    unfold oIns
    split
    · simp
    · simp only [List.mem_cons, oIns_mem (l := l)]
      constructor
      · rintro (h | h | h)
        · exact Or.inr (Or.inl h)
        · exact Or.inl h
        · exact Or.inr (Or.inr h)
      · rintro (h | h | h)
        · exact Or.inr (Or.inl h)
        · exact Or.inl h
        · exact Or.inr (Or.inr h)
theorem oL_s (P : Nat → Prop) (f : Nat → Int) {n : Nat} (h : P n) : oL P f (n + 1) = oIns f n (oL P f n) := if_pos h
theorem oL_n (P : Nat → Prop) (f : Nat → Int) {n : Nat} (h : ¬ P n) : oL P f (n + 1) = oL P f n := if_neg h
theorem oL_mem (P : Nat → Prop) (f : Nat → Int) {x : Nat} : ∀ {n : Nat}, x ∈ oL P f n ↔ x < n ∧ P x
  | 0 => by simp [oL]
  | n + 1 => by
    by_cases h : P n
    · rw [oL_s P f h, oIns_mem, oL_mem P f]
      constructor
      · rintro (e | ⟨h1, h2⟩)
        · subst e
          exact ⟨by omega, h⟩
        · exact ⟨by omega, h2⟩
      · rintro ⟨h1, h2⟩
        rcases Nat.lt_or_ge x n with q | q
        · exact Or.inr ⟨q, h2⟩
        · exact Or.inl (by omega)
    · rw [oL_n P f h, oL_mem P f]
      constructor
      · rintro ⟨h1, h2⟩
        exact ⟨by omega, h2⟩
      · rintro ⟨h1, h2⟩
        refine ⟨?_, h2⟩
        rcases Nat.lt_or_ge x n with q | q
        · exact q
        · have : x = n := by omega
          exact absurd (this ▸ h2) h
theorem oIns_sorted {f : Nat → Int} {a : Nat} : ∀ {l : List Nat}, l.Pairwise (oLt f) → (∀ x ∈ l, x < a) → (oIns f a l).Pairwise (oLt f)
  | [], _, _ => by simp [oIns]
  | b :: l, hp, hl => by
    obtain ⟨h1, h2⟩ := List.pairwise_cons.mp hp
    unfold oIns
    split
    · next g =>
      refine List.pairwise_cons.mpr ⟨fun x hx => ?_, hp⟩
      rcases List.mem_cons.mp hx with e | e
      · rw [e]
        exact Or.inl g
      · rcases h1 x e with q | q
        · exact Or.inl (by omega)
        · exact Or.inl (by omega)
    · next g =>
      refine List.pairwise_cons.mpr ⟨fun x hx => ?_, oIns_sorted h2 (fun x hx => hl x (List.mem_cons_of_mem _ hx))⟩
      rcases oIns_mem.mp hx with e | e
      · rw [e]
        have := hl b List.mem_cons_self
        rcases Int.lt_or_le (f b) (f a) with q | q
        · exact Or.inl q
        · exact Or.inr ⟨by omega, this⟩
      · exact h1 x e
theorem oL_sorted (P : Nat → Prop) (f : Nat → Int) : ∀ n : Nat, (oL P f n).Pairwise (oLt f)
  | 0 => List.Pairwise.nil
  | n + 1 => by
    by_cases h : P n
    · rw [oL_s P f h]
      exact oIns_sorted (oL_sorted P f n) (fun x hx => ((oL_mem P f).mp hx).1)
    · rw [oL_n P f h]
      exact oL_sorted P f n
theorem oLt_irr {f : Nat → Int} {a : Nat} : ¬ oLt f a a := by
  intro h
  rcases h with h | h <;> omega
theorem oLt_asym {f : Nat → Int} {a b : Nat} (h : oLt f a b) : ¬ oLt f b a := by
  intro h2
  unfold oLt at h h2
  omega
theorem oLt_tri (f : Nat → Int) (a b : Nat) : oLt f a b ∨ a = b ∨ oLt f b a := by
  unfold oLt
  omega
theorem oLt_tr {f : Nat → Int} {a b c : Nat} (h1 : oLt f a b) (h2 : oLt f b c) : oLt f a c := by
  unfold oLt at *
  omega
/-- which ones stand ahead of one, which behind -/
theorem oL_split {P : Nat → Prop} {f : Nat → Int} {n s : Nat} {l1 l2 : List Nat} (e : oL P f n = l1 ++ s :: l2) : (s < n ∧ P s) ∧ (∀ x, (x < n ∧ P x ∧ oLt f x s) ↔ x ∈ l1) ∧ (∀ x, (x < n ∧ P x ∧ oLt f s x) ↔ x ∈ l2) ∧ l1.Nodup ∧ l2.Pairwise (oLt f) := by
  have hp := oL_sorted P f n
  rw [e] at hp
  obtain ⟨p1, p2, p3⟩ := List.pairwise_append.mp hp
  obtain ⟨q1, q2⟩ := List.pairwise_cons.mp p2
  have hs : s ∈ oL P f n := by rw [e]; simp
  have hm : ∀ x, x ∈ l1 ++ s :: l2 ↔ x < n ∧ P x := fun x => by rw [← e]; exact oL_mem P f
  refine ⟨(oL_mem P f).mp hs, fun x => ⟨fun ⟨a, b, c⟩ => ?_, fun hx => ?_⟩, fun x => ⟨fun ⟨a, b, c⟩ => ?_, fun hx => ?_⟩, ?_, q2⟩
  · rcases List.mem_append.mp ((hm x).mpr ⟨a, b⟩) with h | h
    · exact h
    · rcases List.mem_cons.mp h with h | h
      · rw [h] at c
        exact absurd c oLt_irr
      · exact absurd (q1 x h) (oLt_asym c)
  · have h := (hm x).mp (List.mem_append_left _ hx)
    exact ⟨h.1, h.2, p3 x hx s List.mem_cons_self⟩
  · rcases List.mem_append.mp ((hm x).mpr ⟨a, b⟩) with h | h
    · exact absurd (p3 x h s List.mem_cons_self) (oLt_asym c)
    · rcases List.mem_cons.mp h with h | h
      · rw [h] at c
        exact absurd c oLt_irr
      · exact h
  · have h := (hm x).mp (List.mem_append_right _ (List.mem_cons_of_mem _ hx))
    exact ⟨h.1, h.2, q1 x hx⟩
  · refine List.Pairwise.imp (fun {a b} h => ?_) p1
    intro q
    rw [q] at h
    exact oLt_irr h
/-- r is the first one of P behind what 'B' says, -1: there is none -/
def oNext (P B : Nat → Prop) (f : Nat → Int) (n : Nat) (r : Int) : Prop :=
  (r = -1 ∧ ∀ x, x < n → P x → ¬ B x) ∨ ∃ s : Nat, r = s ∧ s < n ∧ P s ∧ B s ∧ ∀ x, x < n → P x → B x → x = s ∨ oLt f s x
/-- a list's head, as an answer -/
def oHd : List Nat → Int
  | [] => -1
  | a :: _ => a
theorem oNext_head {P : Nat → Prop} {f : Nat → Int} {n : Nat} {r : Int} (h : oNext P (fun _ => True) f n r) : r = oHd (oL P f n) := by
  have hp := oL_sorted P f n
  have hm : ∀ x, x ∈ oL P f n ↔ x < n ∧ P x := fun x => oL_mem P f
  cases hl : oL P f n with
  | nil =>
    rw [hl] at hm
    rcases h with ⟨h1, h2⟩ | ⟨s, h1, h2, h3, -⟩
    · exact h1
    · exact absurd ((hm s).mpr ⟨h2, h3⟩) (List.not_mem_nil)
  | cons a l =>
    rw [hl] at hm hp
    obtain ⟨q1, q2⟩ := List.pairwise_cons.mp hp
    have ha := (hm a).mp List.mem_cons_self
    rcases h with ⟨h1, h2⟩ | ⟨s, h1, h2, h3, -, h4⟩
    · exact absurd trivial (h2 a ha.1 ha.2)
    · rw [h1]
      show (s : Int) = a
      rcases h4 a ha.1 ha.2 trivial with e | e
      · rw [e]
      · rcases List.mem_cons.mp ((hm s).mpr ⟨h2, h3⟩) with g | g
        · rw [g]
        · exact absurd (q1 s g) (oLt_asym e)
theorem oNext_step {P : Nat → Prop} {f : Nat → Int} {n s : Nat} {l1 l2 : List Nat} {r : Int} (e : oL P f n = l1 ++ s :: l2) (h : oNext P (oLt f s) f n r) : r = oHd l2 := by
  obtain ⟨-, -, h2, -, hp⟩ := oL_split e
  cases l2 with
  | nil =>
    rcases h with ⟨a, -⟩ | ⟨t, a, b, c, d, -⟩
    · exact a
    · exact absurd ((h2 t).mp ⟨b, c, d⟩) List.not_mem_nil
  | cons a l =>
    have ha := (h2 a).mpr List.mem_cons_self
    obtain ⟨q1, q2⟩ := List.pairwise_cons.mp hp
    rcases h with ⟨-, b⟩ | ⟨t, b, c, d, g, k⟩
    · exact absurd ha.2.2 (b a ha.1 ha.2.1)
    · rw [b]
      show (t : Int) = a
      rcases k a ha.1 ha.2.1 ha.2.2 with z | z
      · rw [z]
      · rcases List.mem_cons.mp ((h2 t).mp ⟨c, d, g⟩) with w | w
        · rw [w]
        · exact absurd (q1 t w) (oLt_asym z)
/-- how many stand ahead -/
theorem sm_one {a : Nat} : ∀ {n : Nat}, a < n → sm (fun o => if o = a then 1 else 0) n = 1
  | 0, h => absurd h (by omega)
  | n + 1, h => by
    rw [sm]
    rcases Nat.lt_or_ge a n with q | q
    · rw [sm_one q, if_neg (by omega)]
      rfl
    · have : a = n := by omega
      subst this
      rw [if_pos rfl, sm_cong (g := fun _ => 0) (fun k hk => if_neg (by omega)), sm_zero]
      rfl
theorem sm_mem {n : Nat} : ∀ {l : List Nat}, l.Nodup → (∀ x ∈ l, x < n) → sm (fun o => if o ∈ l then 1 else 0) n = l.length
  | [], _, _ => by
    rw [sm_cong (g := fun _ => 0) (fun k hk => by simp), sm_zero]
    rfl
  | a :: l, hn, hl => by
    obtain ⟨h1, h2⟩ := List.nodup_cons.mp hn
    have ih := sm_mem (n := n) h2 (fun x hx => hl x (List.mem_cons_of_mem _ hx))
    rw [sm_cong (g := fun o => (if o = a then 1 else 0) + (if o ∈ l then 1 else 0)) (fun o ho => by
      by_cases e : o = a
      · subst e
        simp [h1]
      · by_cases g : o ∈ l
        · simp [e, g]
        · simp [e, g]), sm_add, ih, sm_one (hl a List.mem_cons_self)]
    simp
    omega
theorem oL_count {P : Nat → Prop} {f : Nat → Int} {n s : Nat} {l1 l2 : List Nat} {g : Nat → Int} (e : oL P f n = l1 ++ s :: l2) (h1 : ∀ o, o < n → P o → oLt f o s → g o = 1) (h0 : ∀ o, o < n → ¬ (P o ∧ oLt f o s) → g o = 0) : sm g n = l1.length := by
  obtain ⟨-, k1, -, k3, -⟩ := oL_split e
  rw [← sm_mem (n := n) k3 (fun x hx => ((k1 x).mpr hx).1)]
  apply sm_cong
  intro o ho
  by_cases q : o ∈ l1
  · rw [if_pos q]
    have := (k1 o).mpr q
    exact h1 o ho this.2.1 this.2.2
  · rw [if_neg q]
    exact h0 o ho (fun z => q ((k1 o).mp ⟨ho, z.1, z.2⟩))
theorem oL_nodup (P : Nat → Prop) (f : Nat → Int) (n : Nat) : (oL P f n).Nodup := by
  refine List.Pairwise.imp (fun {a b} h => ?_) (oL_sorted P f n)
  intro q
  rw [q] at h
  exact oLt_irr h
