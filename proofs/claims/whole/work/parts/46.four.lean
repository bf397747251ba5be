/-! the first four: orders, what they come to -/
theorem foldl_fm {β γ : Type} {f : γ → β → γ} {g : Nat → List β} : ∀ (L : List Nat) (b : γ), (L.flatMap g).foldl f b = L.foldl (fun b i => (g i).foldl f b) b
  | [], b => rfl
  | a :: L, b => by
    rw [List.flatMap_cons, List.foldl_append, List.foldl_cons, foldl_fm L]
theorem foldl_id {β γ : Type} {f : γ → β → γ} {b : γ} : ∀ (L : List β), (∀ p ∈ L, f b p = b) → L.foldl f b = b
  | [], _ => rfl
  | a :: L, h => by
    rw [List.foldl_cons, h a List.mem_cons_self]
    exact foldl_id L (fun p hp => h p (List.mem_cons_of_mem _ hp))
theorem pm_mem {n : Nat} : ∀ (d : Nat) (tk : Int) (p : List Nat), p ∈ pmT n d tk → p.length = d ∧ ∀ i ∈ p, i < n
  | 0, tk, p, h => by
    have : p = [] := by simpa [pmT] using h
    subst this
    exact ⟨rfl, fun i hi => absurd hi List.not_mem_nil⟩
  | d + 1, tk, p, h => by
    rw [pmT, List.mem_flatMap] at h
    obtain ⟨i, hi, hp⟩ := h
    by_cases g : qb_iand (qb_ishr tk (i : Int)) 1 = 0
    · rw [if_pos g, List.mem_map] at hp
      obtain ⟨q, hq, rfl⟩ := hp
      obtain ⟨z1, z2⟩ := pm_mem d _ q hq
      refine ⟨by rw [List.length_cons, z1], fun j hj => ?_⟩
      rcases List.mem_cons.mp hj with w | w
      · rw [w]
        exact List.mem_range.mp hi
      · exact z2 j w
    · rw [if_neg g] at hp
      exact absurd hp List.not_mem_nil
section PFO
variable {T lev : Nat → Int}
/-- what the ships of an order keep to -/
def lOK (T : Nat → Int) (Y0 : qY) (l : List Nat) : Prop := l.length ≤ 4 ∧ l.Nodup ∧ (∀ s ∈ l, (s : Int) < T 9) ∧ ∀ s ∈ l, Y0.2.2 s = 0
theorem getD_mem {l : List Nat} {i : Nat} (h : i < l.length) : l.getD i 0 ∈ l := by
  rw [List.getD_eq_getElem?_getD, List.getElem?_eq_getElem h, Option.getD_some]
  exact List.getElem_mem h
theorem getD_inj {l : List Nat} (hn : l.Nodup) {i j : Nat} (hi : i < l.length) (hj : j < l.length) (e : l.getD i 0 = l.getD j 0) : i = j := by
  rw [List.getD_eq_getElem?_getD, List.getElem?_eq_getElem hi, Option.getD_some, List.getD_eq_getElem?_getD, List.getElem?_eq_getElem hj, Option.getD_some] at e
  exact (List.getElem_inj hn).mp e
/-- the state after some ships of an order -/
def sE (T lev : Nat → Int) (Y0 : qY) (l pre : List Nat) (a : qY × Int × Int) : Prop := bY T lev a.1 ∧ wY T lev a.1 ∧ yLe T Y0 a.1 ∧ (∀ i, i < l.length → i ∉ pre → a.1.2.2 (l.getD i 0) = 0) ∧ (0 ≤ a.2.1 ∧ a.2.1 ≤ pre.length) ∧ (0 ≤ a.2.2 ∧ a.2.2 ≤ 2680 * pre.length)
theorem yB_okD {Y : qY} (hT : bT T) (hb : bY T lev Y) (hw : wY T lev Y) {s : Nat} (hs : (s : Int) < T 9) (h0 : Y.2.2 s = 0) (d : fdN1 T lev Y s ∨ ∃ k t x, fdS1 T lev Y s k t x) : bY T lev (yB T lev Y s) ∧ wY T lev (yB T lev Y s) ∧ yLe T Y (yB T lev Y s) ∧ (∀ i, i ≠ s → (yB T lev Y s).1 i = Y.1 i ∧ (yB T lev Y s).2.1 i = Y.2.1 i ∧ (yB T lev Y s).2.2 i = Y.2.2 i) ∧ (0 < (yB T lev Y s).2.2 s ↔ sB T lev Y s = 1) ∧ (sB T lev Y s = 0 ∨ sB T lev Y s = 1) := by
  rcases d with q | ⟨k, t, x, q⟩
  · rw [yB_N q, sB_N q]
    exact ⟨hb, hw, yLe_rfl, fun i _ => ⟨rfl, rfl, rfl⟩, by omega, Or.inl rfl⟩
  · obtain ⟨o1, o2, o3, o4⟩ := fd_ok hT hs q
    have b := okS_b hT hs o1
    rw [yB_S q, sB_S q]
    refine ⟨bY_put hT hb hs (Or.inr o1), wY_put hb h0 hw o1.2.1.2 o2 o3, yLe_put h0, fun i hi => ⟨if_neg hi, if_neg hi, if_neg hi⟩, ?_, Or.inr rfl⟩
    have e : (yP Y s x t k).2.2 s = k := if_pos rfl
    rw [e]
    omega
theorem fd_orM {S : qSto} {Y : qY} (hI : iT S T lev) (hb : bY T lev Y) (hm : mY S T lev Y) (hw : wP T lev Y) {s : Nat} (hs : (s : Int) < T 9) (h0 : Y.2.2 s = 0) : fdN1 T lev Y s ∨ ∃ k t x, fdS1 T lev Y s k t x := by
  obtain ⟨r, S', t1, t2, t3⟩ := layM hI hb hm hw hs h0
  rcases t3 with ⟨q1, q2, q3⟩ | ⟨q1, k, t, x, q2, q3⟩
  · exact Or.inl q2
  · exact Or.inr ⟨k, t, x, q2⟩
theorem fdN_le {Y1 Y2 : qY} (hT : bT T) {s : Nat} (hs : (s : Int) < T 9) (h : yLe T Y1 Y2) (hk : ∀ s, 0 ≤ Y2.2.2 s) (n : fdN1 T lev Y1 s) : fdN1 T lev Y2 s := fun k a b t x hx hz => n k a b t x hx (law_le hT hs h hk hz)
theorem sCost_0 {Y : qY} (hT : bT T) {s : Nat} (hs : (s : Int) < T 9) : 0 ≤ sCost T lev Y s := by
  have c := bT_con hT hs
  have i8 := ishr8 (r := sCon T s 6) (by omega) (by omega)
  have l0 : 0 ≤ sLate T lev Y s := by
    unfold sLate
    omega
  unfold sCost
  exact Int.mul_nonneg l0 (by omega)
theorem sE_step {Y0 : qY} {l pre : List Nat} {a : qY × Int × Int} (hT : bT T) (hl : lOK T Y0 l) (h : sE T lev Y0 l pre a) {i : Nat} (hi : i < l.length) (hp : i ∉ pre) (d : fdN1 T lev a.1 (l.getD i 0) ∨ ∃ k t x, fdS1 T lev a.1 (l.getD i 0) k t x) : sE T lev Y0 l (pre ++ [i]) (fStep T lev l a i) := by
  obtain ⟨h1, h2, h3, h4, h5, h6⟩ := h
  have hs := hl.2.2.1 _ (getD_mem hi)
  have h0 := h4 i hi hp
  obtain ⟨z1, z2, z3, z4, z5, z6⟩ := yB_okD hT h1 h2 hs h0 d
  have hlen : ((pre ++ [i]).length : Int) = (pre.length : Int) + 1 := by simp
  have hnot : ∀ j, j < l.length → j ∉ pre ++ [i] → j ∉ pre ∧ l.getD j 0 ≠ l.getD i 0 := fun j hj hn => by
    constructor
    · intro q
      exact hn (List.mem_append_left _ q)
    · intro q
      have := getD_inj hl.2.1 hj hi q
      exact hn (List.mem_append_right _ (by rw [this]; exact List.mem_singleton.mpr rfl))
  unfold fStep
  by_cases g : sB T lev a.1 (l.getD i 0) = 1
  · rw [if_pos g]
    have cb := sCost_b hT z1 hs (z5.mpr g)
    refine ⟨z1, z2, yLe_tr h3 z3, fun j hj hn => ?_, ?_, ?_⟩
    · obtain ⟨n1, n2⟩ := hnot j hj hn
      rw [(z4 _ n2).2.2]
      exact h4 j hj n1
    · rw [hlen]
      show 0 ≤ a.2.1 ∧ a.2.1 ≤ _
      omega
    · rw [hlen]
      show 0 ≤ a.2.2 + _ ∧ a.2.2 + _ ≤ _
      omega
  · rw [if_neg g]
    refine ⟨h1, h2, h3, fun j hj hn => h4 j hj (hnot j hj hn).1, ?_, ?_⟩
    · rw [hlen]
      show 0 ≤ a.2.1 + 1 ∧ a.2.1 + 1 ≤ _
      omega
    · rw [hlen]
      show 0 ≤ a.2.2 ∧ a.2.2 ≤ _
      omega
/-- an order never gets cheaper -/
theorem fEv_mono {Y0 : qY} {l : List Nat} (hT : bT T) (hl : lOK T Y0 l) : ∀ (p : List Nat) (a : qY × Int × Int), (∀ i ∈ p, i < l.length) → a.2.1 < (fEv T lev l a p).2.1 ∨ (a.2.1 = (fEv T lev l a p).2.1 ∧ a.2.2 ≤ (fEv T lev l a p).2.2)
  | [], a, _ => Or.inr ⟨rfl, Int.le_refl _⟩
  | i :: p, a, h => by
    have e : fEv T lev l a (i :: p) = fEv T lev l (fStep T lev l a i) p := rfl
    rw [e]
    have ih := fEv_mono hT hl p (fStep T lev l a i) (fun j hj => h j (List.mem_cons_of_mem _ hj))
    have hs := hl.2.2.1 _ (getD_mem (h i List.mem_cons_self))
    have st : a.2.1 < (fStep T lev l a i).2.1 ∨ (a.2.1 = (fStep T lev l a i).2.1 ∧ a.2.2 ≤ (fStep T lev l a i).2.2) := by
      unfold fStep
      split
      · right
        have := sCost_0 (lev := lev) (Y := yB T lev a.1 (l.getD i 0)) hT hs
        refine ⟨rfl, ?_⟩
        show a.2.2 ≤ a.2.2 + _
        omega
      · left
        show a.2.1 < a.2.1 + 1
        omega
    omega
theorem prune {Y0 : qY} {l pre : List Nat} {a : qY × Int × Int} {b : Int × Int × List Nat} (hT : bT T) (hl : lOK T Y0 l) {d : Nat} {tk : Int} (h : b.1 < a.2.1 ∨ (a.2.1 = b.1 ∧ b.2.1 ≤ a.2.2)) : (pmT l.length d tk).foldl (fUp T lev l a pre) b = b := by
  refine foldl_id _ (fun p hp => ?_)
  have := fEv_mono (lev := lev) hT hl p a (pm_mem d tk p hp).2
  unfold fUp
  rw [if_neg]
  show ¬ (_ < b.1 ∨ (_ = b.1 ∧ _ < b.2.1))
  omega
theorem fold_pm {l pre : List Nat} {a : qY × Int × Int} {d : Nat} {tk : Int} (b : Int × Int × List Nat) : (pmT l.length (d + 1) tk).foldl (fUp T lev l a pre) b = (List.range' 0 l.length).foldl (fun b (i : Nat) => if qb_iand (qb_ishr tk (i : Int)) 1 = 0 then (pmT l.length d (qb_ior tk (qb_ishl 1 (i : Int)))).foldl (fUp T lev l (fStep T lev l a i) (pre ++ [i])) b else b) b := by
  rw [pmT, foldl_fm, List.range_eq_range']
  congr 1
  funext b i
  by_cases g : qb_iand (qb_ishr tk (i : Int)) 1 = 0
  · rw [if_pos g, if_pos g, List.foldl_map]
    congr 1
    funext b p
    unfold fUp
    have e1 : fEv T lev l a (i :: p) = fEv T lev l (fStep T lev l a i) p := rfl
    rw [e1, List.append_assoc]
    rfl
  · rw [if_neg g, if_neg g]
    rfl
/-- bits of what is taken -/
def tB (tk : Int) (pre : List Nat) : Prop := (0 ≤ tk ∧ tk ≤ 15) ∧ ∀ i : Nat, i < 4 → qb_iand (qb_ishr tk (i : Int)) 1 = if i ∈ pre then 1 else 0
theorem tB_step {tk : Int} {pre : List Nat} (h : tB tk pre) {i : Nat} (hi : i < 4) : tB (qb_ior tk (qb_ishl 1 (i : Int))) (pre ++ [i]) := by
  refine ⟨(bits_or_s h.1.1 h.1.2 hi hi).1, fun q hq => ?_⟩
  rw [(bits_or_s h.1.1 h.1.2 hi hq).2, h.2 q hq]
  by_cases g : q = i
  · rw [if_pos g, if_pos (List.mem_append_right _ (by rw [g]; exact List.mem_singleton.mpr rfl))]
  · rw [if_neg g]
    by_cases g2 : q ∈ pre
    · rw [if_pos g2, if_pos (List.mem_append_left _ g2)]
    · rw [if_neg g2, if_neg (fun z => by
        rcases List.mem_append.mp z with w | w
        · exact g2 w
        · exact g (List.mem_singleton.mp w))]
theorem tB_0 : tB 0 [] := by
  refine ⟨by omega, fun i hi => ?_⟩
  have : ∀ i : Fin 4, qb_iand (qb_ishr 0 (i.val : Int)) 1 = 0 := by decide +kernel
  rw [if_neg List.not_mem_nil]
  exact this ⟨i, hi⟩
/-- the class' cells while orders are tried -/
def tS (T lev : Nat → Int) (Y0 : qY) (l pre : List Nat) (a : qY × Int × Int) (b : Int × Int × List Nat) (S : qSto) : Prop :=
  iT S T lev ∧ cY S T lev a.1 ∧ S 11 4 = l.length ∧ (S 11 5 = b.1 ∧ S 11 6 = b.2.1) ∧ ((0 ≤ b.1 ∧ b.1 ≤ 5) ∧ (0 ≤ b.2.1 ∧ b.2.1 ≤ 20000)) ∧ (∀ i, i < b.2.2.length → S 47 i = (l.getD (b.2.2.getD i 0) 0 : Nat)) ∧ (∀ i, i < l.length → S 48 i = (l.getD i 0 : Nat) ∧ (S 50 i = 0 ∨ S 50 i = 1) ∧ (S 50 i = 0 → fdN1 T lev Y0 (l.getD i 0))) ∧ (∀ i, i < pre.length → S 49 i = (l.getD (pre.getD i 0) 0 : Nat))
def fQ (d : Nat) (S S' : qSto) : Prop := (∀ c, ¬ (c = 6 ∨ c = 8 ∨ c = 9 ∨ c = 11 ∨ (37 ≤ c ∧ c ≤ 47) ∨ c = 49) → S' c = S c) ∧ (∀ i, i ≠ 5 → i ≠ 6 → S' 11 i = S 11 i) ∧ ∀ i, i < d → S' 49 i = S 49 i
theorem fQ_rfl {d : Nat} {S : qSto} : fQ d S S := ⟨fun _ _ => rfl, fun _ _ _ => rfl, fun _ _ => rfl⟩
theorem fQ_tr {d : Nat} {S S1 S2 : qSto} (h1 : fQ d S S1) (h2 : fQ d S1 S2) : fQ d S S2 := ⟨fun c h => (h2.1 c h).trans (h1.1 c h), fun i a b => (h2.2.1 i a b).trans (h1.2.1 i a b), fun i a => (h2.2.2 i a).trans (h1.2.2 i a)⟩
theorem fQ_le {d e : Nat} {S S1 : qSto} (h : fQ e S S1) (hd : d ≤ e) : fQ d S S1 := ⟨h.1, h.2.1, fun i hi => h.2.2 i (by omega)⟩
theorem fC_Q {d : Nat} {S S1 : qSto} (h : fC S S1) : fQ d S S1 := ⟨fun c hc => h c (by omega), fun i _ _ => by rw [h 11 (by omega)], fun i _ => by rw [h 49 (by omega)]⟩
/-- tries from a depth on -/
def tOK (T lev : Nat → Int) (Y0 : qY) (l : List Nat) (d : Nat) (F : Int → Int → Int → qSto → Option qSto) : Prop :=
  ∀ (tk : Int) (pre : List Nat) (a : qY × Int × Int) (b : Int × Int × List Nat) (S : qSto), pre.length = d → d ≤ l.length → tB tk pre → sE T lev Y0 l pre a → tS T lev Y0 l pre a b S → ∃ S', F tk a.2.1 a.2.2 S = some S' ∧ fQ d S S' ∧ tS T lev Y0 l pre a ((pmT l.length (l.length - d) tk).foldl (fUp T lev l a pre) b) S'
/-- a whole order is kept, if it is better -/
theorem t_leaf {Y0 : qY} {l pre : List Nat} {a : qY × Int × Int} {b : Int × Int × List Nat} {S : qSto} {tk : Int} (hl : lOK T Y0 l) (hd : pre.length = l.length) (he : sE T lev Y0 l pre a) (hS : tS T lev Y0 l pre a b S) (hb : a.2.1 < b.1 ∨ (a.2.1 = b.1 ∧ a.2.2 < b.2.1)) {d : Nat} (hdd : pre.length = d) : fQ d S (qua (qup (qup S 11 5 a.2.1) 11 6 a.2.2) 47 (qcpy (qup (qup S 11 5 a.2.1) 11 6 a.2.2) 49 47 0 0 4)) ∧ tS T lev Y0 l pre a ((pmT l.length (l.length - d) tk).foldl (fUp T lev l a pre) b) (qua (qup (qup S 11 5 a.2.1) 11 6 a.2.2) 47 (qcpy (qup (qup S 11 5 a.2.1) 11 6 a.2.2) 49 47 0 0 4)) := by
  obtain ⟨s1, s2, s3, s4, s5, s6, s7, s8⟩ := hS
  have hl4 := hl.1
  have e0 : (pmT l.length (l.length - d) tk).foldl (fUp T lev l a pre) b = (a.2.1, a.2.2, pre) := by
    have : l.length - d = 0 := by omega
    rw [this]
    show fUp T lev l a pre b [] = _
    unfold fUp
    have e : (fEv T lev l a []) = a := rfl
    rw [e, if_pos hb, List.append_nil]
  have off : ∀ c, c ≠ 11 → c ≠ 47 → (qua (qup (qup S 11 5 a.2.1) 11 6 a.2.2) 47 (qcpy (qup (qup S 11 5 a.2.1) 11 6 a.2.2) 49 47 0 0 4)) c = S c := fun c h1 h2 => by rw [qua_off c h2, qup_off h1, qup_off h1]
  have on11 : ∀ i, (qua (qup (qup S 11 5 a.2.1) 11 6 a.2.2) 47 (qcpy (qup (qup S 11 5 a.2.1) 11 6 a.2.2) 49 47 0 0 4)) 11 i = if i = 6 then a.2.2 else if i = 5 then a.2.1 else S 11 i := fun i => by rw [qua_off 11 (by omega), qup_on, qup_on]
  have on47 : ∀ i, i < 4 → (qua (qup (qup S 11 5 a.2.1) 11 6 a.2.2) 47 (qcpy (qup (qup S 11 5 a.2.1) 11 6 a.2.2) 49 47 0 0 4)) 47 i = S 49 i := fun i hi => by
    rw [qua_on]
    unfold qcpy
    rw [if_pos (by omega), qup_off (by omega), qup_off (by omega)]
    congr 1
    omega
  obtain ⟨e1, e2, e3, e4, e5, e6⟩ := he
  rw [e0]
  generalize (qua (qup (qup S 11 5 a.2.1) 11 6 a.2.2) 47 (qcpy (qup (qup S 11 5 a.2.1) 11 6 a.2.2) 49 47 0 0 4)) = S' at off on11 on47
  refine ⟨⟨fun c hc => off c (by omega) (by omega), fun i h5 h6 => by rw [on11, if_neg h6, if_neg h5], fun i _ => by rw [off 49 (by omega) (by omega)]⟩, iT_off s1 (fun c hc => off c (by omega) (by omega)), cY_off s2 (fun c hc => off c (by omega) (by omega)), ?_, ⟨?_, ?_⟩, ⟨⟨by show 0 ≤ a.2.1; omega, by show a.2.1 ≤ 5; omega⟩, by show 0 ≤ a.2.2; omega, by show a.2.2 ≤ 20000; omega⟩, fun i hi => ?_, fun i hi => ?_, fun i hi => ?_⟩
  · rw [on11, if_neg (by omega), if_neg (by omega), s3]
  · rw [on11, if_neg (by omega), if_pos rfl]
  · rw [on11, if_pos rfl]
  · have hi' : i < pre.length := hi
    rw [on47 i (by omega)]
    exact s8 i hi'
  · rw [off 48 (by omega) (by omega), off 50 (by omega) (by omega)]
    exact s7 i hi
  · rw [off 49 (by omega) (by omega)]
    exact s8 i hi
theorem tS_off {Y0 : qY} {l pre : List Nat} {a : qY × Int × Int} {b : Int × Int × List Nat} {S S' : qSto} (h : tS T lev Y0 l pre a b S) (f : ∀ c, c = 11 ∨ (47 ≤ c ∧ c ≤ 50) → S' c = S c) (hI : iT S' T lev) (hc : cY S' T lev a.1) : tS T lev Y0 l pre a b S' := by
  obtain ⟨s1, s2, s3, s4, s5, s6, s7, s8⟩ := h
  refine ⟨hI, hc, ?_, ?_, s5, ?_, ?_, ?_⟩
  · rw [f 11 (by omega)]
    exact s3
  · rw [f 11 (by omega)]
    exact s4
  · rw [f 47 (by omega)]
    exact s6
  · rw [f 48 (by omega), f 50 (by omega)]
    exact s7
  · rw [f 49 (by omega)]
    exact s8
theorem try_n4 {Y0 : qY} {l : List Nat} (hT : bT T) (hl : lOK T Y0 l) : tOK T lev Y0 l 4 FirstFour_tryFrom_n4 := fun tk pre a b S hp hd hB he hS => by
  obtain ⟨s1, s2, s3, ⟨s4, s4'⟩, ⟨⟨b1, b2⟩, b3, b4⟩, -, -, -⟩ := id hS
  obtain ⟨-, -, -, -, e5, e6⟩ := id he
  have hl4 := hl.1
  rw [FirstFour_tryFrom_n4]
  simp (disch := omega) only [qk_r, s3, s4, s4']
  by_cases g : b.1 < a.2.1
  · rw [if_pos g, prune hT hl (Or.inl g)]
    exact ⟨S, rfl, fQ_rfl, hS⟩
  · rw [if_neg g]
    by_cases g2 : a.2.1 = b.1
    · rw [if_pos g2]
      by_cases g3 : a.2.2 < b.2.1
      · rw [if_pos g3, if_pos (by omega)]
        have z := t_leaf (tk := tk) hl (by omega) he hS (Or.inr ⟨g2, g3⟩) hp
        exact ⟨_, rfl, z.1, z.2⟩
      · rw [if_neg g3, prune hT hl (Or.inr ⟨g2, by omega⟩)]
        exact ⟨S, rfl, fQ_rfl, hS⟩
    · rw [if_neg g2, if_pos (by omega)]
      have z := t_leaf (tk := tk) hl (by omega) he hS (Or.inl (by omega)) hp
      exact ⟨_, rfl, z.1, z.2⟩
end PFO
