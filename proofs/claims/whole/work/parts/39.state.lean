/-! the whole state of both sides -/
/-- the first ships without a stay, four at the most -/
def sFst (Y : qY) : Nat → List Nat
  | 0 => []
  | i + 1 => if Y.2.2 i ≤ 0 ∧ (sFst Y i).length < 4 then sFst Y i ++ [i] else sFst Y i
def sFour (T : Nat → Int) (Y : qY) : List Nat := sFst Y (sN T)
/-- one ship of an order is put by itself: stays, how many are left out, cost -/
noncomputable def fStep (T lev : Nat → Int) (l : List Nat) (a : qY × Int × Int) (i : Nat) : qY × Int × Int :=
  if sB T lev a.1 (l.getD i 0) = 1 then (yB T lev a.1 (l.getD i 0), a.2.1, a.2.2 + sCost T lev (yB T lev a.1 (l.getD i 0)) (l.getD i 0)) else (a.1, a.2.1 + 1, a.2.2)
noncomputable def fEv (T lev : Nat → Int) (l : List Nat) (a : qY × Int × Int) (p : List Nat) : qY × Int × Int := p.foldl (fStep T lev l) a
/-- all orders of what a set of bits leaves, the first by numbers first -/
def pmT (n : Nat) : Nat → Int → List (List Nat)
  | 0, _ => [[]]
  | d + 1, tk => (List.range n).flatMap (fun (i : Nat) => if qb_iand (qb_ishr tk (i : Int)) 1 = 0 then (pmT n d (qb_ior tk (qb_ishl 1 (i : Int)))).map (fun p => i :: p) else [])
abbrev fBet (e b : Int × Int) : Prop := e.1 < b.1 ∨ (e.1 = b.1 ∧ e.2 < b.2)
noncomputable def fUp (T lev : Nat → Int) (l : List Nat) (a : qY × Int × Int) (pre : List Nat) (b : Int × Int × List Nat) (p : List Nat) : Int × Int × List Nat :=
  if fBet (fEv T lev l a p).2 (b.1, b.2.1) then ((fEv T lev l a p).2.1, (fEv T lev l a p).2.2, pre ++ p) else b
noncomputable def fBest (T lev : Nat → Int) (Y : qY) : Int × Int × List Nat :=
  (pmT (sFour T Y).length (sFour T Y).length 0).foldl (fUp T lev (sFour T Y) (Y, 0, 0) []) (5, 0, [])
def iF (S : qSto) (T lev : Nat → Int) (Y : qY) : Prop :=
  (S 11 3 = 0 ∨ S 11 3 = 1) ∧ (S 11 3 = 1 → S 11 4 = (sFour T Y).length ∧ S 11 5 = (fBest T lev Y).1 ∧ S 11 6 = (fBest T lev Y).2.1 ∧ ∀ i : Nat, i < (sFour T Y).length → S 47 i = ((sFour T Y).getD ((fBest T lev Y).2.2.getD i 0) 0 : Nat))
/-- acts -/
def hA (S : qSto) (T lev : Nat → Int) (o m : Nat) : Prop :=
  o < 12 ∧ m ≤ 12 ∧ S 12 1 = o ∧ S 12 2 = m ∧ S 70 31 = m ∧ ∀ i, i < m → ∃ Y, bY T lev Y ∧ wY T lev Y ∧ gR (S (52 + (o + i) % 12)) Y ∧ gR (mR S i) Y
/-- marks -/
def hM (S : qSto) (T lev : Nat → Int) : Prop :=
  (0 ≤ S 12 4 ∧ S 12 4 ≤ 15) ∧ ∀ q : Nat, q < 4 → qb_iand (qb_ishr (S 12 4) (q : Int)) 1 = S 86 q ∧ (S 86 q = 0 ∨ S 86 q = 1) ∧ (S 86 q = 1 → ∃ Y, bY T lev Y ∧ wY T lev Y ∧ gR (S (65 + q)) Y ∧ gR (mR S (12 + q)) Y)
/-- a name's letters as one number -/
def nmW (f : Nat → Int) : Nat → Int
  | 0 => 0
  | j + 1 => 32 * nmW f j + (f j - 96)
def nmOk (f : Nat → Int) (w : Int) : Prop := ∃ n : Nat, (1 ≤ n ∧ n ≤ 8) ∧ (∀ i, i < n → 97 ≤ f i ∧ f i ≤ 122) ∧ (∀ i, n ≤ i → i < 8 → f i = 0) ∧ w = nmW f n
def iN (S : qSto) (T : Nat → Int) : Prop := ∀ s : Nat, (s : Int) < T 9 → nmOk (fun i => S 24 (8 * s + i)) (S 74 s)
def iW (S : qSto) : Prop := (0 ≤ S 13 1 ∧ S 13 1 ≤ 266) ∧ S 70 41 = S 13 1 ∧ ∀ i : Nat, (i : Int) < S 13 1 → S 69 i = S 92 i ∧ 0 ≤ S 92 i ∧ S 92 i ≤ 127
def iP (S : qSto) : Prop := (0 ≤ S 0 1 ∧ S 0 1 ≤ 1200) ∧ S 70 5 = S 0 1 ∧ ∀ i : Nat, (i : Int) < S 0 1 → (0 ≤ S 75 i ∧ S 75 i ≤ 255) ∧ S 1 i = Int.bmod (S 75 i) 256
def iX (S : qSto) : Prop := S 4 5 = S 70 15 ∧ S 4 6 = S 70 16 ∧ qR (S 70 15) ∧ qR (S 70 16)
def iR (S : qSto) (T : Nat → Int) : Prop := iN S T ∧ iW S ∧ iP S ∧ iX S
def iG (S : qSto) : Prop := ∃ T lev Y, iA S T lev Y ∧ wY T lev Y ∧ (∃ o m, hA S T lev o m) ∧ hM S T lev ∧ iR S T ∧ iF S T lev Y
/-- what class and reference change without an act -/
def fS (S S1 : qSto) : Prop := ∀ c, ¬ (c = 6 ∨ c = 8 ∨ c = 9 ∨ c = 14 ∨ (37 ≤ c ∧ c ≤ 46)) → S1 c = S c
def fT (S S1 : qSto) : Prop := (∀ c, ¬ (c = 70 ∨ (78 ≤ c ∧ c ≤ 85) ∨ (87 ≤ c ∧ c ≤ 91)) → S1 c = S c) ∧ (∀ i, ¬ (i = 27 ∨ i = 28 ∨ (37 ≤ i ∧ i ≤ 39)) → S1 70 i = S 70 i) ∧ ∀ q, q < 16 → ∀ u, u < 42 → mR S1 q u = mR S q u
/-- what they change with one -/
def fA (S S1 : qSto) : Prop := ∀ c, ¬ (c = 6 ∨ c = 8 ∨ c = 9 ∨ c = 11 ∨ c = 12 ∨ c = 14 ∨ (37 ≤ c ∧ c ≤ 50) ∨ (52 ≤ c ∧ c ≤ 63)) → S1 c = S c
def fB (S S1 : qSto) : Prop := (∀ c, ¬ (c = 70 ∨ (78 ≤ c ∧ c ≤ 85) ∨ (87 ≤ c ∧ c ≤ 91)) → S1 c = S c) ∧ ∀ i, ¬ (i = 27 ∨ i = 28 ∨ i = 31 ∨ (37 ≤ i ∧ i ≤ 39)) → S1 70 i = S 70 i
theorem fS_rfl {S : qSto} : fS S S := fun _ _ => rfl
theorem fS_tr {S S1 S2 : qSto} (h1 : fS S S1) (h2 : fS S1 S2) : fS S S2 := fun c h => (h2 c h).trans (h1 c h)
theorem fC_S {S S1 : qSto} (h : fC S S1) : fS S S1 := fun c hc => h c (by omega)
theorem fO14_S {S S1 : qSto} (h : fO 14 S S1) : fS S S1 := fun c hc => h c (by omega)
theorem fY_S {S S1 : qSto} (h : ∀ c, ¬ (37 ≤ c ∧ c ≤ 43) → S1 c = S c) : fS S S1 := fun c hc => h c (by omega)
theorem fT_rfl {S : qSto} : fT S S := ⟨fun _ _ => rfl, fun _ _ => rfl, fun _ _ _ _ => rfl⟩
theorem fT_tr {S S1 S2 : qSto} (h1 : fT S S1) (h2 : fT S1 S2) : fT S S2 := ⟨fun c h => (h2.1 c h).trans (h1.1 c h), fun c h => (h2.2.1 c h).trans (h1.2.1 c h), fun q hq u hu => (h2.2.2 q hq u hu).trans (h1.2.2 q hq u hu)⟩
theorem fM_T {S S1 : qSto} (h : fM S S1) : fT S S1 := ⟨fun c hc => h.1 c (by omega), fun i hi => h.2 i (by omega) (by omega), fun q _ u _ => by show S1 85 _ = S 85 _; rw [h.1 85 (by omega)]⟩
theorem fZ_T {S S1 : qSto} (h : ∀ c, ¬ (78 ≤ c ∧ c ≤ 82) → S1 c = S c) : fT S S1 := ⟨fun c hc => h c (by omega), fun i _ => by rw [h 70 (by omega)], fun q _ u _ => by show S1 85 _ = S 85 _; rw [h 85 (by omega)]⟩
theorem fZ_M {S S1 : qSto} (h : ∀ c, ¬ (78 ≤ c ∧ c ≤ 82) → S1 c = S c) : fM S S1 := ⟨fun c hc => h c (by omega), fun i _ _ => by rw [h 70 (by omega)]⟩
theorem puts_T {S S1 : qSto} {r : Nat} (hr : 16 ≤ r) (h : fO 85 S S1) (h2 : ∀ q, q ≠ r → ∀ i, i < 42 → mR S1 q i = mR S q i) : fT S S1 := ⟨fun c hc => h c (by omega), fun i _ => by rw [h 70 (by omega)], fun q hq u hu => h2 q (by omega) u hu⟩
theorem fB_rfl {S : qSto} : fB S S := ⟨fun _ _ => rfl, fun _ _ => rfl⟩
theorem fB_tr {S S1 S2 : qSto} (h1 : fB S S1) (h2 : fB S1 S2) : fB S S2 := ⟨fun c h => (h2.1 c h).trans (h1.1 c h), fun c h => (h2.2 c h).trans (h1.2 c h)⟩
theorem fT_B {S S1 : qSto} (h : fT S S1) : fB S S1 := ⟨h.1, fun i hi => h.2.1 i (by omega)⟩
section PST
variable {T lev : Nat → Int} {Y : qY}
theorem fS_iT {S S1 : qSto} (h : iT S T lev) (f : fS S S1) : iT S1 T lev := iT_off h (fun c hc => f c (by omega))
theorem fS_mY {S S1 : qSto} (h : mY S T lev Y) (f : fS S S1) : mY S1 T lev Y := mY_off h (fun c hc => f c (by omega))
theorem fT_iT {S S1 : qSto} (h : iT S T lev) (f : fT S S1) : iT S1 T lev := iT_off h (fun c hc => f.1 c (by omega))
theorem fT_cY {S S1 : qSto} (h : cY S T lev Y) (f : fT S S1) : cY S1 T lev Y := cY_off h (fun c hc => f.1 c (by omega))
theorem fA_iT {S S1 : qSto} (h : iT S T lev) (f : fA S S1) : iT S1 T lev := iT_off h (fun c hc => f c (by omega))
theorem fA_mY {S S1 : qSto} (h : mY S T lev Y) (f : fA S S1) : mY S1 T lev Y := mY_off h (fun c hc => f c (by omega))
theorem fB_iT {S S1 : qSto} (h : iT S T lev) (f : fB S S1) : iT S1 T lev := iT_off h (fun c hc => f.1 c (by omega))
theorem fB_cY {S S1 : qSto} (h : cY S T lev Y) (f : fB S S1) : cY S1 T lev Y := cY_off h (fun c hc => f.1 c (by omega))
theorem iR_off {S S' : qSto} (h : iR S T) (e : ∀ c, c = 0 ∨ c = 1 ∨ c = 4 ∨ c = 13 ∨ c = 24 ∨ c = 69 ∨ c = 74 ∨ c = 75 ∨ c = 92 → S' c = S c) (e2 : ∀ i, i = 5 ∨ i = 15 ∨ i = 16 ∨ i = 41 → S' 70 i = S 70 i) : iR S' T := by
  obtain ⟨hN, hW, hP, hX⟩ := h
  refine ⟨fun s hs => ?_, ?_, ?_, ?_⟩
  · rw [e 24 (by omega), e 74 (by omega)]
    exact hN s hs
  · unfold iW
    rw [e 13 (by omega), e2 41 (by omega), e 69 (by omega), e 92 (by omega)]
    exact hW
  · unfold iP
    rw [e 0 (by omega), e2 5 (by omega), e 75 (by omega), e 1 (by omega)]
    exact hP
  · unfold iX
    rw [e 4 (by omega), e2 15 (by omega), e2 16 (by omega)]
    exact hX
theorem hM_off {S S' : qSto} (h : hM S T lev) (e1 : S' 12 4 = S 12 4) (e2 : S' 86 = S 86) (e3 : ∀ c, 65 ≤ c → c ≤ 68 → S' c = S c) (e4 : ∀ q, 12 ≤ q → q < 16 → ∀ u, u < 42 → mR S' q u = mR S q u) : hM S' T lev := by
  refine ⟨by rw [e1]; exact h.1, fun q hq => ?_⟩
  obtain ⟨a, b, c⟩ := h.2 q hq
  rw [e1, e2]
  refine ⟨a, b, fun g => ?_⟩
  obtain ⟨Y, y1, y2, y3, y4⟩ := c g
  exact ⟨Y, y1, y2, by rw [e3 _ (by omega) (by omega)]; exact y3, gR_cong y4 (fun i hi => e4 _ (by omega) (by omega) i hi)⟩
theorem hA_off {S S' : qSto} {o m : Nat} (h : hA S T lev o m) (e1 : S' 12 = S 12) (e2 : S' 70 31 = S 70 31) (e3 : ∀ c, 52 ≤ c → c ≤ 63 → S' c = S c) (e4 : ∀ q, q < 12 → ∀ u, u < 42 → mR S' q u = mR S q u) : hA S' T lev o m := by
  obtain ⟨a1, a2, a3, a4, a5, a6⟩ := h
  refine ⟨a1, a2, by rw [e1]; exact a3, by rw [e1]; exact a4, by rw [e2]; exact a5, fun i hi => ?_⟩
  obtain ⟨Y, y1, y2, y3, y4⟩ := a6 i hi
  have hp : (o + i) % 12 < 12 := Nat.mod_lt _ (by omega)
  exact ⟨Y, y1, y2, by rw [e3 _ (by omega) (by omega)]; exact y3, gR_cong y4 (fun u hu => e4 i (by omega) u hu)⟩
theorem iF_off {S S' : qSto} (h : iF S T lev Y) (e1 : S' 11 = S 11) (e2 : S' 47 = S 47) : iF S' T lev Y := by
  unfold iF
  rw [e1, e2]
  exact h
/-- nothing but looking -/
theorem read_iG {S S1 S2 : qSto} (h : iA S T lev Y) (hw : wY T lev Y) (hH : ∃ o m, hA S T lev o m) (hK : hM S T lev) (hR : iR S T) (hF : iF S T lev Y) (f1 : fS S S1) (c1 : cY S1 T lev Y) (f2 : fT S1 S2) (m2 : mY S2 T lev Y) : iG S2 := by
  obtain ⟨o, m, ha⟩ := hH
  have e : ∀ c, ¬ (c = 6 ∨ c = 8 ∨ c = 9 ∨ c = 14 ∨ (37 ≤ c ∧ c ≤ 46)) → ¬ (c = 70 ∨ (78 ≤ c ∧ c ≤ 85) ∨ (87 ≤ c ∧ c ≤ 91)) → S2 c = S c := fun c h1 h2 => (f2.1 c h2).trans (f1 c h1)
  have e7 : ∀ i, ¬ (i = 27 ∨ i = 28 ∨ (37 ≤ i ∧ i ≤ 39)) → S2 70 i = S 70 i := fun i hi => by rw [f2.2.1 i hi, f1 70 (by omega)]
  have e8 : ∀ q, q < 16 → ∀ u, u < 42 → mR S2 q u = mR S q u := fun q hq u hu => by
    rw [f2.2.2 q hq u hu]
    show S1 85 _ = S 85 _
    rw [f1 85 (by omega)]
  refine ⟨T, lev, Y, ⟨fT_iT (fS_iT h.1 f1) f2, h.2.1, fT_cY c1 f2, m2⟩, hw, ⟨o, m, hA_off ha (e 12 (by omega) (by omega)) (e7 31 (by omega)) (fun c _ _ => e c (by omega) (by omega)) (fun q hq => e8 q (by omega))⟩, hM_off hK (by rw [e 12 (by omega) (by omega)]) (e 86 (by omega) (by omega)) (fun c _ _ => e c (by omega) (by omega)) (fun q _ hq => e8 q hq), iR_off hR (fun c hc => e c (by omega) (by omega)) (fun i hi => e7 i (by omega)), iF_off hF (e 11 (by omega) (by omega)) (e 47 (by omega) (by omega))⟩
/-- an act is kept: the class, the reference -/
def kC (o m : Nat) (S S1 : qSto) (Y : qY) : Prop := S1 12 1 = ((if m = 12 then (o + 1) % 12 else o : Nat) : Int) ∧ S1 12 2 = ((if m = 12 then 12 else m + 1 : Nat) : Int) ∧ S1 12 4 = S 12 4 ∧ gR (S1 (52 + (o + m) % 12)) Y ∧ (∀ c, 52 ≤ c → c ≤ 63 → c ≠ 52 + (o + m) % 12 → S1 c = S c) ∧ S1 11 3 = 0
def kM (m : Nat) (S S1 : qSto) (Y : qY) : Prop := S1 70 31 = (if m = 12 then 12 else (m : Int) + 1) ∧ (∀ q, 12 ≤ q → q < 16 → ∀ u, u < 42 → mR S1 q u = mR S q u) ∧ (m < 12 → (∀ q, q < m → ∀ u, u < 42 → mR S1 q u = mR S q u) ∧ gR (mR S1 m) Y) ∧ (m = 12 → (∀ q, q < 11 → ∀ u, u < 42 → mR S1 q u = mR S (q + 1) u) ∧ gR (mR S1 11) Y)
theorem keptC {S S1 : qSto} {o m : Nat} (ha : hA S T lev o m) (f : ∀ c, ¬ (c = 6 ∨ c = 8 ∨ c = 9 ∨ c = 11 ∨ c = 14 ∨ (37 ≤ c ∧ c ≤ 50)) → S1 c = S c) (g : gR (S1 14) Y) : ∃ S2, C_keepAct S1 = some S2 ∧ fA S S2 ∧ kC o m S S2 Y ∧ ∀ c, ¬ (c = 11 ∨ c = 12 ∨ (52 ≤ c ∧ c ≤ 63)) → S2 c = S1 c := by
  obtain ⟨a1, a2, a3, a4, a5, a6⟩ := ha
  have hp : (o + m) % 12 < 12 := Nat.mod_lt _ (by omega)
  obtain ⟨S2, t1, t2, t3, t4, t5, t6, t7, t8⟩ := keepAct_s (S := S1) a1 a2 (by rw [f 12 (by omega)]; exact a3) (by rw [f 12 (by omega)]; exact a4)
  refine ⟨S2, t1, fun c hc => ?_, ⟨t6, t7, ?_, gR_cong g t8, fun c h1 h2 h3 => ?_, t4⟩, fun c hc => t2 c (by omega) (by omega) (by omega)⟩
  · rw [t2 c (by omega) (by omega) (by omega), f c (by omega)]
  · rw [t5 4 (by omega) (by omega), f 12 (by omega)]
  · rw [t2 c h3 (by omega) (by omega), f c (by omega)]
theorem keptM {S S1 : qSto} {m : Nat} (hm : m ≤ 12) (e : S 70 31 = m) (f : fT S S1) (g : gR (mR S1 16) Y) : ∃ S2, M_keeps S1 = some S2 ∧ fB S S2 ∧ kM m S S2 Y ∧ (∀ c, c ≠ 70 → c ≠ 85 → S2 c = S1 c) ∧ (∀ i, i ≠ 31 → S2 70 i = S1 70 i) ∧ ∀ q, 16 ≤ q → ∀ u, u < 42 → mR S2 q u = mR S1 q u := by
  obtain ⟨S2, t1, t2, t3, t4, t5, t6, t7⟩ := keeps_s (S := S1) hm (by rw [f.2.1 31 (by omega)]; exact e)
  refine ⟨S2, t1, ⟨fun c hc => ?_, fun i hi => ?_⟩, ⟨t4, fun q h1 h2 u hu => ?_, fun h => ⟨fun q hq u hu => ?_, ?_⟩, fun h => ⟨fun q hq u hu => ?_, ?_⟩⟩, fun c h1 h2 => t2 c h2 h1, t3, fun q hq u hu => t5 q (by omega) u hu⟩
  · rw [t2 c (by omega) (by omega), f.1 c hc]
  · rw [t3 i (by omega), f.2.1 i (by omega)]
  · rw [t5 q h1 u hu, f.2.2 q h2 u hu]
  · rw [(t6 h).1 q hq u hu, f.2.2 q (by omega) u hu]
  · exact gR_cong g (t6 h).2
  · rw [(t7 h).1 q hq u hu, f.2.2 (q + 1) (by omega) u hu]
  · exact gR_cong g (t7 h).2
theorem kM_T {S S1 S2 : qSto} {m : Nat} (h : kM m S S1 Y) (f : fT S1 S2) : kM m S S2 Y := by
  refine ⟨by rw [f.2.1 31 (by omega)]; exact h.1, fun q h1 h2 u hu => (f.2.2 q h2 u hu).trans (h.2.1 q h1 h2 u hu), fun g => ⟨fun q hq u hu => (f.2.2 q (by omega) u hu).trans ((h.2.2.1 g).1 q hq u hu), gR_cong (h.2.2.1 g).2 (fun i hi => f.2.2 m (by omega) i hi)⟩, fun g => ⟨fun q hq u hu => (f.2.2 q (by omega) u hu).trans ((h.2.2.2 g).1 q hq u hu), gR_cong (h.2.2.2 g).2 (fun i hi => f.2.2 11 (by omega) i hi)⟩⟩
theorem act_hA {S S1 S2 : qSto} {o m : Nat} (ha : hA S T lev o m) (hb : bY T lev Y) (hw : wY T lev Y) (f1 : fA S S1) (k1 : kC o m S S1 Y) (f2 : fB S1 S2) (k2 : kM m S1 S2 Y) : ∃ o m, hA S2 T lev o m := by
  obtain ⟨a1, a2, a3, a4, a5, a6⟩ := ha
  obtain ⟨c1, c2, c3, c4, c5, c6⟩ := k1
  obtain ⟨m1, m2, m3, m4⟩ := k2
  have hp : (o + m) % 12 < 12 := Nat.mod_lt _ (by omega)
  have e12 : S2 12 = S1 12 := f2.1 12 (by omega)
  have r1 : ∀ q u, mR S1 q u = mR S q u := fun q u => by
    show S1 85 _ = S 85 _
    rw [f1 85 (by omega)]
  by_cases g : m = 12
  · obtain ⟨n1, n2⟩ := m4 g
    refine ⟨(o + 1) % 12, 12, Nat.mod_lt _ (by omega), Nat.le_refl _, ?_, ?_, ?_, fun i hi => ?_⟩
    · rw [e12, c1, if_pos g]
    · rw [e12, c2, if_pos g]
    · rw [m1, if_pos g]
      rfl
    · have hq : ((o + 1) % 12 + i) % 12 < 12 := Nat.mod_lt _ (by omega)
      by_cases z : i = 11
      · refine ⟨Y, hb, hw, ?_, ?_⟩
        · rw [f2.1 _ (by omega), show ((o + 1) % 12 + i) % 12 = (o + m) % 12 by omega]
          exact c4
        · rw [z]
          exact n2
      · obtain ⟨Y', y1, y2, y3, y4⟩ := a6 (i + 1) (by omega)
        refine ⟨Y', y1, y2, ?_, ?_⟩
        · rw [f2.1 _ (by omega), show ((o + 1) % 12 + i) % 12 = (o + (i + 1)) % 12 by omega, c5 _ (by omega) (by omega) (by omega)]
          exact y3
        · exact gR_cong y4 (fun u hu => by rw [n1 i (by omega) u hu, r1])
  · obtain ⟨n1, n2⟩ := m3 (by omega)
    refine ⟨o, m + 1, a1, by omega, ?_, ?_, ?_, fun i hi => ?_⟩
    · rw [e12, c1, if_neg g]
    · rw [e12, c2, if_neg g]
    · rw [m1, if_neg g]
      omega
    · have hq : (o + i) % 12 < 12 := Nat.mod_lt _ (by omega)
      by_cases z : i = m
      · refine ⟨Y, hb, hw, ?_, ?_⟩
        · rw [f2.1 _ (by omega), z]
          exact c4
        · rw [z]
          exact n2
      · obtain ⟨Y', y1, y2, y3, y4⟩ := a6 i (by omega)
        refine ⟨Y', y1, y2, ?_, ?_⟩
        · rw [f2.1 _ (by omega), c5 _ (by omega) (by omega) (by omega)]
          exact y3
        · exact gR_cong y4 (fun u hu => by rw [n1 i (by omega) u hu, r1])
/-- an act -/
theorem act_iG {S S1 S2 : qSto} {Y' : qY} {o m : Nat} (h : iA S T lev Y) (hw : wY T lev Y) (ha : hA S T lev o m) (hK : hM S T lev) (hR : iR S T) (f1 : fA S S1) (k1 : kC o m S S1 Y) (c1 : cY S1 T lev Y') (f2 : fB S1 S2) (k2 : kM m S1 S2 Y) (m2 : mY S2 T lev Y') (hb' : bY T lev Y') (hw' : wY T lev Y') : iG S2 := by
  have e : ∀ c, ¬ (c = 6 ∨ c = 8 ∨ c = 9 ∨ c = 11 ∨ c = 12 ∨ c = 14 ∨ (37 ≤ c ∧ c ≤ 50) ∨ (52 ≤ c ∧ c ≤ 63)) → ¬ (c = 70 ∨ (78 ≤ c ∧ c ≤ 85) ∨ (87 ≤ c ∧ c ≤ 91)) → S2 c = S c := fun c h1 h2 => (f2.1 c h2).trans (f1 c h1)
  have e7 : ∀ i, ¬ (i = 27 ∨ i = 28 ∨ i = 31 ∨ (37 ≤ i ∧ i ≤ 39)) → S2 70 i = S 70 i := fun i hi => by rw [f2.2 i hi, f1 70 (by omega)]
  refine ⟨T, lev, Y', ⟨fB_iT (fA_iT h.1 f1) f2, hb', fB_cY c1 f2, m2⟩, hw', act_hA ha h.2.1 hw f1 k1 f2 k2, hM_off hK (by rw [f2.1 12 (by omega), k1.2.2.1]) (e 86 (by omega) (by omega)) (fun c _ _ => e c (by omega) (by omega)) (fun q h1 h2 u hu => ?_), iR_off hR (fun c hc => e c (by omega) (by omega)) (fun i hi => e7 i (by omega)), ?_⟩
  · rw [k2.2.1 q h1 h2 u hu]
    show S1 85 _ = S 85 _
    rw [f1 85 (by omega)]
  · have z : S2 11 3 = 0 := by rw [f2.1 11 (by omega), k1.2.2.2.2.2]
    exact ⟨Or.inl z, fun q => by omega⟩
end PST
