/-! the stays: Y gives x, t, k of each ship (k 0: none) -/
abbrev qY : Type := (Nat → Int) × (Nat → Int) × (Nat → Int)
def sm (f : Nat → Int) : Nat → Int
  | 0 => 0
  | n + 1 => sm f n + f n
theorem sm_cong {f g : Nat → Int} : ∀ {n : Nat}, (∀ k, k < n → f k = g k) → sm f n = sm g n
  | 0, _ => rfl
  | n + 1, h => by rw [sm, sm, sm_cong (fun k hk => h k (by omega)), h n (by omega)]
theorem sm_add (f g : Nat → Int) : ∀ n : Nat, sm (fun k => f k + g k) n = sm f n + sm g n
  | 0 => rfl
  | n + 1 => by rw [sm, sm, sm, sm_add f g n]; omega
theorem sm_zero : ∀ n : Nat, sm (fun _ => 0) n = 0
  | 0 => rfl
  | n + 1 => by rw [sm, sm_zero n]; rfl
theorem sm_swap (f : Nat → Nat → Int) (n : Nat) : ∀ m : Nat, sm (fun a => sm (fun b => f a b) n) m = sm (fun b => sm (fun a => f a b) m) n
  | 0 => (sm_zero n).symm
  | m + 1 => by
    rw [sm, sm_swap f n m, ← sm_add]
    rfl
theorem sm_bnd {f : Nat → Int} {c : Int} : ∀ {n : Nat}, (∀ k, k < n → 0 ≤ f k ∧ f k ≤ c) → 0 ≤ sm f n ∧ sm f n ≤ n * c
  | 0, _ => by simp [sm]
  | n + 1, h => by
    have h1 := sm_bnd (n := n) (fun k hk => h k (by omega))
    have h2 := h n (by omega)
    rw [sm]
    have e : ((n + 1 : Nat) : Int) * c = n * c + c := by rw [Int.natCast_add, Int.add_mul]; simp
    omega
/-- a row of slots, k in each of it -/
theorem sm_row (a w : Nat) (k : Int) : ∀ n : Nat, sm (fun t => if a ≤ t ∧ t < a + w then k else 0) n = k * ((min n (a + w) : Nat) - (min n a : Nat) : Int)
  | 0 => by simp [sm]
  | n + 1 => by
    rw [sm, sm_row a w k n]
    by_cases g : a ≤ n ∧ n < a + w
    · rw [if_pos g]
      have e1 : ((min (n + 1) (a + w) : Nat) : Int) = (n : Int) + 1 := by omega
      have e2 : ((min n (a + w) : Nat) : Int) = n := by omega
      have e3 : ((min (n + 1) a : Nat) : Int) = (min n a : Nat) := by omega
      rw [e1, e2, e3, show (n : Int) + 1 - (min n a : Nat) = ((n : Int) - (min n a : Nat)) + 1 by omega, Int.mul_add, Int.mul_one]
    · rw [if_neg g, Int.add_zero]
      have e1 : ((min (n + 1) (a + w) : Nat) : Int) - (min (n + 1) a : Nat) = (min n (a + w) : Nat) - (min n a : Nat) := by omega
      rw [e1]
def sN (T : Nat → Int) : Nat := (T 9).toNat
def sAtW (T : Nat → Int) (Y : qY) (s t : Nat) : Prop := 0 < Y.2.2 s ∧ Y.2.1 s ≤ t ∧ (t : Int) < Y.2.1 s + sWork T s (Y.2.2 s)
def sBusy (T : Nat → Int) (Y : qY) (t : Nat) : Int := sm (fun s => if 0 < Y.2.2 s ∧ Y.2.1 s ≤ t ∧ (t : Int) < Y.2.1 s + sWork T s (Y.2.2 s) then Y.2.2 s else 0) (sN T)
/-- bounds of stays: laws 1 to 5 -/
def bY (T lev : Nat → Int) (Y : qY) : Prop :=
  (∀ s : Nat, 0 ≤ Y.2.2 s ∧ (T 9 ≤ s → Y.2.2 s = 0)) ∧
  ∀ s : Nat, (s : Int) < T 9 → 0 < Y.2.2 s → (sCon T s 7 ≤ Y.2.2 s ∧ Y.2.2 s ≤ sCon T s 8) ∧ (0 ≤ Y.1 s ∧ Y.1 s ≤ 998) ∧ (sCon T s 4 ≤ Y.2.1 s ∧ Y.2.1 s ≤ 335) ∧ sLeave T lev s (Y.2.1 s) (Y.2.2 s) ≠ -1
def gB (S : qSto) (c : Nat) : Prop := ∀ s : Nat, s < 14 → -1000000 ≤ S c s ∧ S c s ≤ 1000000
/-- the class' cells of stays -/
def cY (S : qSto) (T lev : Nat → Int) (Y : qY) : Prop :=
  (∀ s : Nat, s < 14 → S 40 s = Y.2.2 s) ∧
  (∀ s : Nat, (s : Int) < T 9 → 0 < Y.2.2 s → S 37 s = Y.1 s ∧ S 38 s = Y.1 s + sCon T s 0 - 1 ∧ S 39 s = Y.2.1 s ∧ S 41 s = sWork T s (Y.2.2 s) ∧ S 42 s = sLeave T lev s (Y.2.1 s) (Y.2.2 s)) ∧
  (∀ t : Nat, t < 336 → S 43 t = sBusy T Y t) ∧ (gB S 37 ∧ gB S 38 ∧ gB S 39 ∧ gB S 41 ∧ gB S 42)
/-- the reference's cells of stays -/
def mY (S : qSto) (T lev : Nat → Int) (Y : qY) : Prop :=
  (∀ s : Nat, s < 14 → S 80 s = Y.2.2 s) ∧
  (∀ s : Nat, (s : Int) < T 9 → 0 < Y.2.2 s → S 78 s = Y.1 s ∧ S 79 s = Y.2.1 s ∧ S 81 s = sWork T s (Y.2.2 s) ∧ S 82 s = sLeave T lev s (Y.2.1 s) (Y.2.2 s)) ∧
  (gB S 78 ∧ gB S 79 ∧ gB S 81 ∧ gB S 82)
section PY
variable {S : qSto} {T lev : Nat → Int} {Y : qY}
/-- what the bounds give of one stay -/
theorem bY_one (hT : bT T) (h : bY T lev Y) {s : Nat} (hs : (s : Int) < T 9) (hk : 0 < Y.2.2 s) : (1 ≤ Y.2.2 s ∧ Y.2.2 s ≤ 8) ∧ (0 ≤ Y.1 s ∧ Y.1 s ≤ 998) ∧ (0 ≤ Y.2.1 s ∧ Y.2.1 s ≤ 335) ∧ (1 ≤ sWork T s (Y.2.2 s)) ∧ Y.2.1 s + sWork T s (Y.2.2 s) ≤ sLeave T lev s (Y.2.1 s) (Y.2.2 s) ∧ sLeave T lev s (Y.2.1 s) (Y.2.2 s) ≤ 335 := by
  have c := bT_con hT hs
  have b0 := hT.1
  obtain ⟨h1, h2, h3, h4⟩ := h.2 s hs hk
  have hw := sWork_b hT hs (k := Y.2.2 s) (by omega) (by omega)
  have hl := sNext_rng T lev (sCon T s 2) (Y.2.1 s + sWork T s (Y.2.2 s)).toNat
  have e : sLeave T lev s (Y.2.1 s) (Y.2.2 s) = sNext T lev (sCon T s 2) (Y.2.1 s + sWork T s (Y.2.2 s)).toNat := rfl
  rw [← e] at hl
  rcases hl with hl | hl
  · exact absurd hl h4
  · refine ⟨⟨by omega, by omega⟩, ⟨by omega, by omega⟩, ⟨by omega, by omega⟩, by omega, by omega, by omega⟩
theorem Stays_has_s (hb : bY T lev Y) (h : cY S T lev Y) (hT : bT T) {s : Nat} (hs : s < 14) : Stays_has (s : Int) S = some (if 0 < Y.2.2 s then 1 else 0, S) := by
  have e := h.1 s hs
  have n := bT_n hT
  have k0 := hb.1 s
  have k8 : Y.2.2 s ≤ 8 := by
    rcases Int.lt_or_le 0 (Y.2.2 s) with g | g
    · rcases Int.lt_or_le (s : Int) (T 9) with q | q
      · exact (bY_one hT hb q g).1.2
      · have := k0.2 q
        omega
    · omega
  simp (disch := omega) only [Stays_has, qk_ix, qk_r, Int.toNat_natCast, e]
  by_cases g : 0 < Y.2.2 s
  · rw [if_neg (by omega), if_pos g]
  · rw [if_pos (by omega), if_neg g]
theorem M_stays_s (hb : bY T lev Y) (h : mY S T lev Y) (hT : bT T) {s : Nat} (hs : s < 14) : M_stays (s : Int) S = some (if 0 < Y.2.2 s then 1 else 0, S) := by
  have e := h.1 s hs
  have n := bT_n hT
  have k0 := hb.1 s
  have k8 : Y.2.2 s ≤ 8 := by
    rcases Int.lt_or_le 0 (Y.2.2 s) with g | g
    · rcases Int.lt_or_le (s : Int) (T 9) with q | q
      · exact (bY_one hT hb q g).1.2
      · have := k0.2 q
        omega
    · omega
  simp (disch := omega) only [M_stays, qk_ix, qk_r, Int.toNat_natCast, e]
  by_cases g : 0 < Y.2.2 s
  · rw [if_neg (by omega), if_pos g]
  · rw [if_pos (by omega), if_neg g]
def sMany (T : Nat → Int) (Y : qY) : Int := sm (fun s => if 0 < Y.2.2 s then 1 else 0) (sN T)
theorem Stays_howMany_L (hI : iT S T lev) (hb : bY T lev Y) (h : cY S T lev Y) : ∀ (j n i : Nat), (i : Int) + j = T 9 → j < n → Stays_howMany_L4 n (sm (fun s => if 0 < Y.2.2 s then 1 else 0) i) (i : Int) S = some (sMany T Y, S)
  | 0, n + 1, i, e, _ => by
    have b9 := bT_n hI.1
    have e2 := hI.2.1.2.2.2.2.1
    rw [Stays_howMany_L4]
    simp (disch := omega) only [qk_r, e2]
    rw [if_pos (by omega)]
    unfold sMany sN
    rw [show (T 9).toNat = i by omega]
  | j + 1, n + 1, i, e, hn => by
    have b9 := bT_n hI.1
    have e2 := hI.2.1.2.2.2.2.1
    rw [Stays_howMany_L4]
    simp (disch := omega) only [qk_r, e2, if_neg (show ¬ T 9 ≤ (i : Int) by omega), Stays_has_s hb h hI.1 (s := i) (by omega), ob_some, ite01_r, ite01_e]
    have ih := Stays_howMany_L hI hb h j n (i + 1) (by omega) (by omega)
    rw [sm] at ih
    by_cases g : 0 < Y.2.2 i
    · simp only [if_pos g, ob_some] at ih ⊢
      exact ih
    · simp only [if_neg g, ob_some] at ih ⊢
      exact ih
theorem Stays_howMany_s (hI : iT S T lev) (hb : bY T lev Y) (h : cY S T lev Y) : Stays_howMany S = some (sMany T Y, S) := by
  have b9 := bT_n hI.1
  have e := Stays_howMany_L hI hb h (T 9).toNat qF 0 (by omega) (by unfold qF; omega)
  have e' : Stays_howMany_L4 qF 0 0 S = some (sMany T Y, S) := e
  rw [Stays_howMany, e']
  rfl
theorem M_staying_L (hI : iT S T lev) (hb : bY T lev Y) (h : mY S T lev Y) : ∀ (j n i : Nat), (i : Int) + j = T 9 → j < n → M_staying_L4 n (sm (fun s => if 0 < Y.2.2 s then 1 else 0) i) (i : Int) S = some (sMany T Y, S)
  | 0, n + 1, i, e, _ => by
    have b9 := bT_n hI.1
    have e2 := hI.2.2.1 9
    rw [M_staying_L4]
    simp (disch := omega) only [qk_r, e2]
    rw [if_pos (by omega)]
    unfold sMany sN
    rw [show (T 9).toNat = i by omega]
  | j + 1, n + 1, i, e, hn => by
    have b9 := bT_n hI.1
    have e2 := hI.2.2.1 9
    rw [M_staying_L4]
    simp (disch := omega) only [qk_r, e2, if_neg (show ¬ T 9 ≤ (i : Int) by omega), M_stays_s hb h hI.1 (s := i) (by omega), ob_some, ite01_r, ite01_e]
    have ih := M_staying_L hI hb h j n (i + 1) (by omega) (by omega)
    rw [sm] at ih
    by_cases g : 0 < Y.2.2 i
    · simp only [if_pos g, ob_some] at ih ⊢
      exact ih
    · simp only [if_neg g, ob_some, Int.add_zero] at ih ⊢
      exact ih
theorem M_staying_s (hI : iT S T lev) (hb : bY T lev Y) (h : mY S T lev Y) : M_staying S = some (sMany T Y, S) := by
  have b9 := bT_n hI.1
  have e := M_staying_L hI hb h (T 9).toNat qF 0 (by omega) (by unfold qF; omega)
  have e' : M_staying_L4 qF 0 0 S = some (sMany T Y, S) := e
  rw [M_staying, e']
  rfl
/-! late, cost -/
def sLate (T lev : Nat → Int) (Y : qY) (s : Nat) : Int := max 0 (sLeave T lev s (Y.2.1 s) (Y.2.2 s) - sCon T s 5)
def sCost (T lev : Nat → Int) (Y : qY) (s : Nat) : Int := sLate T lev Y s * qb_ishr 8 (sCon T s 6)
theorem ishr8 {r : Int} (h0 : 0 ≤ r) (h3 : r ≤ 3) : 1 ≤ qb_ishr 8 r ∧ qb_ishr 8 r ≤ 8 := by
  have : r = 0 ∨ r = 1 ∨ r = 2 ∨ r = 3 := by omega
  rcases this with rfl | rfl | rfl | rfl <;> decide
theorem sLate_b (hT : bT T) (hb : bY T lev Y) {s : Nat} (hs : (s : Int) < T 9) (hk : 0 < Y.2.2 s) : 0 ≤ sLate T lev Y s ∧ sLate T lev Y s ≤ 335 := by
  have c := bT_con hT hs
  have o := bY_one hT hb hs hk
  unfold sLate
  omega
theorem sCost_b (hT : bT T) (hb : bY T lev Y) {s : Nat} (hs : (s : Int) < T 9) (hk : 0 < Y.2.2 s) : 0 ≤ sCost T lev Y s ∧ sCost T lev Y s ≤ 2680 := by
  have c := bT_con hT hs
  have o := sLate_b hT hb hs hk
  have i8 := ishr8 (r := sCon T s 6) (by omega) (by omega)
  have := bnd_mul (a := sLate T lev Y s) (b := qb_ishr 8 (sCon T s 6)) (A := 335) (B := 8) o.1 o.2 (by omega) (by omega)
  unfold sCost
  omega
theorem Stays_lateOf_s (hI : iT S T lev) (hb : bY T lev Y) (h : cY S T lev Y) {s : Nat} (hs : (s : Int) < T 9) : Stays_lateOf (s : Int) S = some (if 0 < Y.2.2 s then sLate T lev Y s else 0, S) := by
  have b9 := bT_n hI.1
  simp only [Stays_lateOf, Stays_has_s hb h hI.1 (s := s) (by omega), ob_some, ite01_r, ite01_e]
  by_cases g : 0 < Y.2.2 s
  · have c := bT_con hI.1 hs
    have o := bY_one hI.1 hb hs g
    obtain ⟨-, -, -, -, e5⟩ := h.2.1 s hs g
    have ec : Told_contractOf (s : Int) 5 S = some (sCon T s 5, S) := Told_contractOf_s hI hs (w := 5) (by omega)
    simp (disch := omega) only [if_pos g, qk_ix, ec, ob_some, Int.toNat_natCast, e5]
    rw [Jm_max_s ⟨by omega, by omega⟩ ⟨by omega, by omega⟩]
    rfl
  · simp only [if_neg g]
theorem M_lateOf_s (hI : iT S T lev) (hb : bY T lev Y) (h : mY S T lev Y) {s : Nat} (hs : (s : Int) < T 9) (g : 0 < Y.2.2 s) : M_lateOf (s : Int) S = some (sLate T lev Y s, S) := by
  have b9 := bT_n hI.1
  have c := bT_con hI.1 hs
  have o := bY_one hI.1 hb hs g
  obtain ⟨-, -, -, e5⟩ := h.2.1 s hs g
  have ec : M_of (s : Int) 5 S = some (sCon T s 5, S) := M_of_s hI hs (w := 5) (by omega)
  simp (disch := omega) only [M_lateOf, qk_ix, ec, ob_some, Int.toNat_natCast, e5, qk_r]
  unfold sLate
  split
  · next q => rw [Int.max_eq_right q]
  · next q => rw [Int.max_eq_left (by omega)]
theorem Stays_costOf_s (hI : iT S T lev) (hb : bY T lev Y) (h : cY S T lev Y) {s : Nat} (hs : (s : Int) < T 9) (g : 0 < Y.2.2 s) : Stays_costOf (s : Int) S = some (sCost T lev Y s, S) := by
  have ec : Told_contractOf (s : Int) 6 S = some (sCon T s 6, S) := Told_contractOf_s hI hs (w := 6) (by omega)
  simp only [Stays_costOf, Stays_lateOf_s hI hb h hs, if_pos g, ob_some, ec]
  rfl
theorem M_costOf_s (hI : iT S T lev) (hb : bY T lev Y) (h : mY S T lev Y) {s : Nat} (hs : (s : Int) < T 9) (g : 0 < Y.2.2 s) : M_costOf (s : Int) S = some (sCost T lev Y s, S) := by
  have ec : M_of (s : Int) 6 S = some (sCon T s 6, S) := M_of_s hI hs (w := 6) (by omega)
  simp only [M_costOf, M_lateOf_s hI hb h hs g, ob_some, ec]
  rfl
theorem costOfAll_L (hI : iT S T lev) (hb : bY T lev Y) (hc : cY S T lev Y) (hm : mY S T lev Y) : ∀ (j n i : Nat) (a : Int), (i : Int) + j = T 9 → j < n → ∃ r, C_costOfAll_L4 n a (i : Int) S = some (r, S) ∧ M_costOfAll_L4 n a (i : Int) S = some (r, S)
  | 0, n + 1, i, a, e, _ => by
    have b9 := bT_n hI.1
    have e1 := hI.2.1.2.2.2.2.1
    have e2 := hI.2.2.1 9
    rw [C_costOfAll_L4, M_costOfAll_L4]
    simp (disch := omega) only [qk_r, e1, e2, if_pos (show T 9 ≤ (i : Int) by omega)]
    exact ⟨a, rfl, rfl⟩
  | j + 1, n + 1, i, a, e, hn => by
    have b9 := bT_n hI.1
    have e1 := hI.2.1.2.2.2.2.1
    have e2 := hI.2.2.1 9
    rw [C_costOfAll_L4, M_costOfAll_L4]
    simp (disch := omega) only [qk_r, e1, e2, if_neg (show ¬ T 9 ≤ (i : Int) by omega), M_stays_s hb hm hI.1 (s := i) (by omega), Stays_has_s hb hc hI.1 (s := i) (by omega), ob_some, ite01_r, ite01_e]
    by_cases g : 0 < Y.2.2 i
    · simp only [if_pos g, Stays_costOf_s hI hb hc (s := i) (by omega) g, M_costOf_s hI hb hm (s := i) (by omega) g, ob_some]
      exact costOfAll_L hI hb hc hm j n (i + 1) _ (by omega) (by omega)
    · simp only [if_neg g, ob_some]
      exact costOfAll_L hI hb hc hm j n (i + 1) _ (by omega) (by omega)
theorem p_costOfAll (hI : iT S T lev) (hb : bY T lev Y) (hc : cY S T lev Y) (hm : mY S T lev Y) : ∃ r, C_costOfAll S = some (r, S) ∧ M_costOfAll S = some (r, S) := by
  have b9 := bT_n hI.1
  obtain ⟨r, e1, e2⟩ := costOfAll_L hI hb hc hm (T 9).toNat qF 0 0 (by omega) (by unfold qF; omega)
  have e1' : C_costOfAll_L4 qF 0 0 S = some (r, S) := e1
  have e2' : M_costOfAll_L4 qF 0 0 S = some (r, S) := e2
  rw [C_costOfAll, M_costOfAll, e1', e2']
  exact ⟨r, rfl, rfl⟩
/-! slots of cranes at work in all -/
theorem sBusy_b (hT : bT T) (hb : bY T lev Y) (t : Nat) : 0 ≤ sBusy T Y t ∧ sBusy T Y t ≤ 112 := by
  have b9 := bT_n hT
  have := sm_bnd (f := fun s => if 0 < Y.2.2 s ∧ Y.2.1 s ≤ t ∧ (t : Int) < Y.2.1 s + sWork T s (Y.2.2 s) then Y.2.2 s else 0) (c := 8) (n := sN T) (fun s hs => by
    skip
    split
    · next q =>
      have := bY_one hT hb (s := s) (by unfold sN at hs; omega) q.1
      omega
    · omega)
  unfold sBusy
  unfold sN at this ⊢
  omega
theorem Stays_busyIn_L (hI : iT S T lev) (h : cY S T lev Y) {z : Nat} (hz : z ≤ 336) (a0 : Nat) : ∀ (j n i : Nat), i + j = z → j < n → a0 ≤ i → Stays_busyIn_L5 n (z : Int) (sm (sBusy T Y) i - sm (sBusy T Y) a0) (i : Int) S = some (sm (sBusy T Y) z - sm (sBusy T Y) a0, S)
  | 0, n + 1, i, e, _, _ => by
    rw [Stays_busyIn_L5]
    simp (disch := omega) only [qk_r]
    rw [if_pos (by omega), show i = z by omega]
  | j + 1, n + 1, i, e, hn, ha => by
    have e3 := h.2.2.1 i (by omega)
    rw [Stays_busyIn_L5]
    simp (disch := omega) only [qk_r, qk_ix, Int.toNat_natCast, e3, if_neg (show ¬ (z : Int) ≤ (i : Int) by omega)]
    have ih := Stays_busyIn_L hI h hz a0 j n (i + 1) (by omega) (by omega) (by omega)
    rw [sm] at ih
    have e4 : sm (sBusy T Y) i - sm (sBusy T Y) a0 + sBusy T Y i = sm (sBusy T Y) i + sBusy T Y i - sm (sBusy T Y) a0 := by omega
    rw [e4]
    exact ih
theorem Stays_busyIn_s (hI : iT S T lev) (h : cY S T lev Y) {a z : Nat} (ha : a ≤ z) (hz : z ≤ 336) : Stays_busyIn (a : Int) (z : Int) S = some (sm (sBusy T Y) z - sm (sBusy T Y) a, S) := by
  have e := Stays_busyIn_L hI h hz a (z - a) qF a (by omega) (by unfold qF; omega) (Nat.le_refl a)
  rw [Int.sub_self] at e
  rw [Stays_busyIn, e]
  rfl
def sAllW (T : Nat → Int) (Y : qY) (n : Nat) : Int := sm (fun s => if 0 < Y.2.2 s then Y.2.2 s * sWork T s (Y.2.2 s) else 0) n
theorem sBusy_all (hT : bT T) (hb : bY T lev Y) : sm (sBusy T Y) 336 = sAllW T Y (sN T) := by
  have b9 := bT_n hT
  unfold sAllW
  have e : sm (sBusy T Y) 336 = sm (fun t => sm (fun s => if 0 < Y.2.2 s ∧ Y.2.1 s ≤ t ∧ (t : Int) < Y.2.1 s + sWork T s (Y.2.2 s) then Y.2.2 s else 0) (sN T)) 336 := rfl
  rw [e, sm_swap]
  apply sm_cong
  intro s hs
  skip
  by_cases g : 0 < Y.2.2 s
  · rw [if_pos g]
    have o := bY_one hT hb (s := s) (by unfold sN at hs; omega) g
    rw [sm_cong (g := fun t => if (Y.2.1 s).toNat ≤ t ∧ t < (Y.2.1 s).toNat + (sWork T s (Y.2.2 s)).toNat then Y.2.2 s else 0) (fun t ht => by
      skip
      by_cases q : (Y.2.1 s).toNat ≤ t ∧ t < (Y.2.1 s).toNat + (sWork T s (Y.2.2 s)).toNat
      · rw [if_pos q, if_pos ⟨g, by omega, by omega⟩]
      · rw [if_neg q, if_neg (fun z => q ⟨by omega, by omega⟩)]), sm_row]
    have e9 : ((min 336 ((Y.2.1 s).toNat + (sWork T s (Y.2.2 s)).toNat) : Nat) : Int) - (min 336 (Y.2.1 s).toNat : Nat) = sWork T s (Y.2.2 s) := by omega
    rw [e9]
  · rw [if_neg g, sm_cong (g := fun _ => 0) (fun t ht => by rw [if_neg (fun q => g q.1)]), sm_zero]
theorem M_workOfAll_L (hI : iT S T lev) (hb : bY T lev Y) (h : mY S T lev Y) : ∀ (j n i : Nat), (i : Int) + j = T 9 → j < n → M_workOfAll_L4 n (sAllW T Y i) (i : Int) S = some (sAllW T Y (sN T), S)
  | 0, n + 1, i, e, _ => by
    have b9 := bT_n hI.1
    have e2 := hI.2.2.1 9
    rw [M_workOfAll_L4]
    simp (disch := omega) only [qk_r, e2]
    rw [if_pos (by omega)]
    unfold sN
    rw [show (T 9).toNat = i by omega]
  | j + 1, n + 1, i, e, hn => by
    have b9 := bT_n hI.1
    have e2 := hI.2.2.1 9
    rw [M_workOfAll_L4]
    simp (disch := omega) only [qk_r, e2, if_neg (show ¬ T 9 ≤ (i : Int) by omega), M_stays_s hb h hI.1 (s := i) (by omega), ob_some, ite01_r, ite01_e]
    have ih := M_workOfAll_L hI hb h j n (i + 1) (by omega) (by omega)
    unfold sAllW at ih ⊢
    rw [sm] at ih
    by_cases g : 0 < Y.2.2 i
    · obtain ⟨-, -, e3, -⟩ := h.2.1 i (by omega) g
      have e4 := h.1 i (by omega)
      simp (disch := omega) only [if_pos g, ob_some, qk_ix, Int.toNat_natCast, e3, e4] at ih ⊢
      exact ih
    · simp only [if_neg g, ob_some, Int.add_zero] at ih ⊢
      exact ih
theorem p_workOfAll (hI : iT S T lev) (hb : bY T lev Y) (hc : cY S T lev Y) (hm : mY S T lev Y) : ∃ r, Stays_busyIn 0 336 S = some (r, S) ∧ M_workOfAll S = some (r, S) := by
  have b9 := bT_n hI.1
  have e1 := Stays_busyIn_s hI hc (a := 0) (z := 336) (by omega) (by omega)
  have e1' : Stays_busyIn 0 336 S = _ := e1
  have e2 := M_workOfAll_L hI hb hm (T 9).toNat qF 0 (by omega) (by unfold qF; omega)
  have e2' : M_workOfAll_L4 qF 0 0 S = some (sAllW T Y (sN T), S) := e2
  refine ⟨sAllW T Y (sN T), ?_, ?_⟩
  · have z0 : sm (sBusy T Y) 0 = 0 := rfl
    rw [e1', sBusy_all hI.1 hb, z0, Int.sub_zero]
  · rw [M_workOfAll, e2']
    rfl
end PY
