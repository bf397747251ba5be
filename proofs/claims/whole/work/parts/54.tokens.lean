/-! the text, byte by byte: the class passes rows of bytes, the reference makes tokens -/
def isB (c : Int) : Bool := decide (c = 32 ∨ c = 10)
def isL (c : Int) : Bool := decide (97 ≤ c ∧ c ≤ 122)
def isD (c : Int) : Bool := decide (48 ≤ c ∧ c ≤ 57)
def adv (P : Int → Bool) (B : Nat → Int) (n : Nat) : Nat → Nat → Nat
  | 0, i => i
  | f + 1, i => if i < n ∧ P (B i) = true then adv P B n f (i + 1) else i
/-- the first place from i on that is not of P -/
def upto (P : Int → Bool) (B : Nat → Int) (n i : Nat) : Nat := adv P B n (n - i) i
section PTK
variable {B : Nat → Int} {n : Nat} {P : Int → Bool}
theorem upto_y {i : Nat} (h : i < n) (hp : P (B i) = true) : upto P B n i = upto P B n (i + 1) := by
  unfold upto
  rw [show n - i = (n - (i + 1)) + 1 by omega, adv, if_pos ⟨h, hp⟩]
theorem upto_n {i : Nat} (h : ¬ (i < n ∧ P (B i) = true)) : upto P B n i = i := by
  unfold upto
  cases e : n - i with
  | zero => rfl
  | succ k => rw [adv, if_neg h]
theorem upto_spec : ∀ (j i : Nat), i + j = n → (i ≤ upto P B n i ∧ upto P B n i ≤ n) ∧ (∀ u, i ≤ u → u < upto P B n i → P (B u) = true) ∧ (upto P B n i < n → P (B (upto P B n i)) = false)
  | 0, i, e => by
    rw [upto_n (by omega)]
    exact ⟨by omega, fun u a b => by omega, fun h => by omega⟩
  | j + 1, i, e => by
    by_cases g : P (B i) = true
    · rw [upto_y (by omega) g]
      obtain ⟨h1, h2, h3⟩ := upto_spec j (i + 1) (by omega)
      refine ⟨by omega, fun u a b => ?_, h3⟩
      by_cases w : u = i
      · rw [w]
        exact g
      · exact h2 u (by omega) b
    · rw [upto_n (fun q => g q.2)]
      refine ⟨by omega, fun u a b => by omega, fun _ => ?_⟩
      cases z : P (B i) with
      | false => rfl
      | true => exact absurd z g
theorem upto_b {i : Nat} (h : i ≤ n) : i ≤ upto P B n i ∧ upto P B n i ≤ n := (upto_spec (n - i) i (by omega)).1
theorem upto_in {i u : Nat} (h : i ≤ n) (h1 : i ≤ u) (h2 : u < upto P B n i) : P (B u) = true := (upto_spec (n - i) i (by omega)).2.1 u h1 h2
theorem upto_e {i : Nat} (h : i ≤ n) (h1 : upto P B n i < n) : P (B (upto P B n i)) = false := (upto_spec (n - i) i (by omega)).2.2 h1
/-- bytes: all, the class', the reference's -/
def hBy (B : Nat → Int) (n : Nat) : Prop := n ≤ 1200 ∧ ∀ i, i < n → 0 ≤ B i ∧ B i ≤ 255
def bP (S : qSto) (B : Nat → Int) (n : Nat) : Prop := S 4 3 = n ∧ ∀ i, i < n → S 1 i = Int.bmod (B i) 256
def bQ (S : qSto) (B : Nat → Int) (n : Nat) : Prop := S 70 6 = n ∧ ∀ i, i < n → S 75 i = B i
theorem sgn {c : Int} (h : 0 ≤ c ∧ c ≤ 255) : Int.bmod c 256 = if c < 128 then c else c - 256 := by
  show (if c % ((256 : Nat) : Int) < (((256 : Nat) : Int) + 1) / 2 then c % ((256 : Nat) : Int) else c % ((256 : Nat) : Int) - ((256 : Nat) : Int)) = if c < 128 then c else c - 256
  by_cases g : c < 128
  · rw [if_pos g, if_pos (by omega)]
    omega
  · rw [if_neg g, if_neg (by omega)]
    omega
def f4 (S S' : qSto) : Prop := (∀ c, c ≠ 4 → S' c = S c) ∧ ∀ u, u ≠ 4 → S' 4 u = S 4 u
theorem f4_rfl {S : qSto} : f4 S S := ⟨fun _ _ => rfl, fun _ _ => rfl⟩
theorem f4_tr {S S1 S2 : qSto} (h1 : f4 S S1) (h2 : f4 S1 S2) : f4 S S2 := ⟨fun c h => (h2.1 c h).trans (h1.1 c h), fun c h => (h2.2 c h).trans (h1.2 c h)⟩
theorem f4_b {S S' : qSto} (h : bP S B n) (f : f4 S S') : bP S' B n := by
  unfold bP
  rw [f.2 3 (by omega), f.1 1 (by omega)]
  exact h
theorem f4_up {S : qSto} {v : Int} : f4 S (qup S 4 4 v) := ⟨fun c h => qup_off h, fun u h => by rw [qup_on, if_neg h]⟩
theorem skip_L (hb : hBy B n) : ∀ (j f i : Nat) (S : qSto), i + j = n → j < f → bP S B n → S 4 4 = i → ∃ S', Reader_skipBlanks_L0 f S = some S' ∧ S' 4 4 = upto isB B n i ∧ f4 S S'
  | 0, f + 1, i, S, e, _, h, hi => by
    have := hb.1
    rw [Reader_skipBlanks_L0, hi, h.1, qk_r (by omega) (by omega), qk_r (by omega) (by omega), if_pos (by omega), upto_n (by omega)]
    exact ⟨S, rfl, hi, f4_rfl⟩
  | j + 1, f + 1, i, S, e, hj, h, hi => by
    have h12 := hb.1
    have bi := hb.2 i (by omega)
    have sg := sgn bi
    have s1 := h.2 i (by omega)
    have br := bmod_b (x := B i)
    rw [Reader_skipBlanks_L0, hi, h.1, qk_r (by omega) (by omega), qk_r (by omega) (by omega), if_neg (by omega), qk_ix (by omega) (by omega), Int.toNat_natCast, s1, qk_r (by omega) (by omega), qk_ix (by omega) (by omega), qk_r (by omega) (by omega)]
    have go : isB (B i) = true → ∃ S', Reader_skipBlanks_L0 f (qup S 4 4 ((i : Int) + 1)) = some S' ∧ S' 4 4 = upto isB B n i ∧ f4 S S' := fun hq => by
      obtain ⟨S', t1, t2, t3⟩ := skip_L hb j f (i + 1) (qup S 4 4 ((i : Int) + 1)) (by omega) (by omega) (f4_b h f4_up) (by rw [qup_on, if_pos rfl]; omega)
      exact ⟨S', t1, by rw [t2, upto_y (by omega) hq], f4_tr f4_up t3⟩
    by_cases g1 : B i = 32
    · rw [if_pos (by rw [sg, if_pos (by omega)]; exact g1)]
      exact go (decide_eq_true (Or.inl g1))
    · rw [if_neg (by rw [sg]; split <;> omega)]
      by_cases g2 : B i = 10
      · rw [if_pos (by rw [sg, if_pos (by omega)]; exact g2)]
        exact go (decide_eq_true (Or.inr g2))
      · rw [if_neg (by rw [sg]; split <;> omega), upto_n (fun q => by have := of_decide_eq_true q.2; omega)]
        exact ⟨S, rfl, hi, f4_rfl⟩
theorem skip_s (hb : hBy B n) {S : qSto} {i : Nat} (hn : i ≤ n) (h : bP S B n) (hi : S 4 4 = i) : ∃ S', Reader_skipBlanks S = some S' ∧ S' 4 4 = upto isB B n i ∧ f4 S S' := by
  obtain ⟨S', t1, t2, t3⟩ := skip_L hb (n - i) qF i S (by omega) (by have := hb.1; unfold qF; omega) h hi
  exact ⟨S', by rw [Reader_skipBlanks, t1]; rfl, t2, t3⟩
theorem pass_L (hb : hBy B n) {lo hi' : Int} (hl : 0 ≤ lo ∧ lo ≤ hi' ∧ hi' ≤ 127) (hP : ∀ c, P c = true ↔ lo ≤ c ∧ c ≤ hi') : ∀ (j f i : Nat) (S : qSto), i + j = n → j < f → bP S B n → S 4 4 = i → ∃ S', Reader_passRow_L5 f lo hi' S = some S' ∧ S' 4 4 = upto P B n i ∧ f4 S S'
  | 0, f + 1, i, S, e, _, h, hi => by
    have := hb.1
    rw [Reader_passRow_L5, hi, h.1, qk_r (by omega) (by omega), qk_r (by omega) (by omega), if_pos (by omega), upto_n (by omega)]
    exact ⟨S, rfl, hi, f4_rfl⟩
  | j + 1, f + 1, i, S, e, hj, h, hi => by
    have h12 := hb.1
    have bi := hb.2 i (by omega)
    have sg := sgn bi
    have s1 := h.2 i (by omega)
    have br := bmod_b (x := B i)
    rw [Reader_passRow_L5, hi, h.1, qk_r (by omega) (by omega), qk_r (by omega) (by omega), if_neg (by omega), qk_ix (by omega) (by omega), Int.toNat_natCast, s1, qk_r (by omega) (by omega), qk_r (by omega) (by omega), qk_ix (by omega) (by omega), qk_r (by omega) (by omega), qk_r (by omega) (by omega)]
    by_cases g : P (B i) = true
    · have q := (hP _).mp g
      rw [if_pos (by omega)] at sg
      rw [sg, if_neg (by omega), if_neg (by omega)]
      obtain ⟨S', t1, t2, t3⟩ := pass_L hb hl hP j f (i + 1) (qup S 4 4 ((i : Int) + 1)) (by omega) (by omega) (f4_b h f4_up) (by rw [qup_on, if_pos rfl]; omega)
      exact ⟨S', t1, by rw [t2, upto_y (by omega) g], f4_tr f4_up t3⟩
    · have q : ¬ (lo ≤ B i ∧ B i ≤ hi') := fun z => g ((hP _).mpr z)
      rw [upto_n (fun z => g z.2)]
      by_cases g1 : Int.bmod (B i) 256 < lo
      · rw [if_pos g1]
        exact ⟨S, rfl, hi, f4_rfl⟩
      · rw [if_neg g1, if_pos (by
          rw [sg] at g1 ⊢
          split at g1
          · next z =>
            rw [if_pos z]
            omega
          · omega)]
        exact ⟨S, rfl, hi, f4_rfl⟩
theorem pass_s (hb : hBy B n) {lo hi' : Int} (hl : 0 ≤ lo ∧ lo ≤ hi' ∧ hi' ≤ 127) (hP : ∀ c, P c = true ↔ lo ≤ c ∧ c ≤ hi') {S : qSto} {i : Nat} (hn : i ≤ n) (h : bP S B n) (hi : S 4 4 = i) : ∃ S', Reader_passRow lo hi' S = some (((upto P B n i - i : Nat) : Int), S') ∧ S' 4 4 = upto P B n i ∧ f4 S S' := by
  obtain ⟨S', t1, t2, t3⟩ := pass_L hb hl hP (n - i) qF i S (by omega) (by have := hb.1; unfold qF; omega) h hi
  have b := upto_b (P := P) (B := B) hn
  refine ⟨S', ?_, t2, t3⟩
  rw [Reader_passRow, t1]
  simp only [ob_sn]
  rw [t2, hi, show ((upto P B n i : Nat) : Int) - (i : Int) = ((upto P B n i - i : Nat) : Int) by omega]
theorem isL_iff (c : Int) : isL c = true ↔ 97 ≤ c ∧ c ≤ 122 := decide_eq_true_iff
theorem isD_iff (c : Int) : isD c = true ↔ 48 ≤ c ∧ c ≤ 57 := decide_eq_true_iff
theorem isB_iff (c : Int) : isB c = true ↔ c = 32 ∨ c = 10 := decide_eq_true_iff
/-! the reference -/
theorem byteAt_s (hb : hBy B n) {S : qSto} (h : bQ S B n) {i : Nat} (hi : i ≤ 1200) : M_byteAt (i : Int) S = some (if i < n then B i else -1, S) := by
  have := hb.1
  rw [M_byteAt, qk_r (by omega) (by omega), if_neg (by omega), qk_r (by omega) (by omega), h.1, qk_r (by omega) (by omega)]
  by_cases g : i < n
  · rw [if_neg (by omega), qk_ix (by omega) (by omega), Int.toNat_natCast, h.2 i g, if_pos g]
  · rw [if_pos (by omega), if_neg g]
theorem byteAt_p (hb : hBy B n) {S : qSto} (h : bQ S B n) {i : Nat} (hi : i < n) : M_byteAt ((i : Int) - 1) S = some (if 0 < i then B (i - 1) else -1, S) := by
  have := hb.1
  by_cases g : 0 < i
  · have e : (i : Int) - 1 = ((i - 1 : Nat) : Int) := by omega
    rw [e, byteAt_s hb h (by omega), if_pos (by omega), if_pos g]
  · rw [M_byteAt, qk_r (by omega) (by omega), if_pos (by omega), if_neg g]
theorem isLetter_s {S : qSto} {c : Int} (hc : qR c) : M_isLetter c S = some (if isL c = true then 1 else 0, S) := by
  have e : (isL c = true) = (97 ≤ c ∧ c ≤ 122) := propext (isL_iff c)
  obtain ⟨c1, c2⟩ := hc
  rw [M_isLetter, qk_r c1 c2, M_in_s ⟨by omega, by omega⟩ ⟨by omega, by omega⟩ ⟨by omega, by omega⟩]
  simp only [ob_some, ite01_z, e]
theorem isDigit_s {S : qSto} {c : Int} (hc : qR c) : M_isDigit c S = some (if isD c = true then 1 else 0, S) := by
  have e : (isD c = true) = (48 ≤ c ∧ c ≤ 57) := propext (isD_iff c)
  obtain ⟨c1, c2⟩ := hc
  rw [M_isDigit, qk_r c1 c2, M_in_s ⟨by omega, by omega⟩ ⟨by omega, by omega⟩ ⟨by omega, by omega⟩]
  simp only [ob_some, ite01_z, e]
/-- what reading tokens changes -/
def f7 (S S' : qSto) : Prop := (∀ c, c ≠ 70 → S' c = S c) ∧ ∀ u, ¬ ((7 ≤ u ∧ u ≤ 10) ∨ u = 17) → S' 70 u = S 70 u
theorem f7_rfl {S : qSto} : f7 S S := ⟨fun _ _ => rfl, fun _ _ => rfl⟩
theorem f7_tr {S S1 S2 : qSto} (h1 : f7 S S1) (h2 : f7 S1 S2) : f7 S S2 := ⟨fun c h => (h2.1 c h).trans (h1.1 c h), fun c h => (h2.2 c h).trans (h1.2 c h)⟩
theorem f7_b {S S' : qSto} (h : bQ S B n) (f : f7 S S') : bQ S' B n := by
  unfold bQ
  rw [f.2 6 (by omega), f.1 75 (by omega)]
  exact h
theorem f7_up {S : qSto} {u : Nat} {v : Int} (hu : (7 ≤ u ∧ u ≤ 10) ∨ u = 17) : f7 S (qup S 70 u v) := ⟨fun c h => qup_off h, fun w h => by rw [qup_on, if_neg (by intro q; rw [q] at h; exact h hu)]⟩
def fv (v : Nat) (S S' : qSto) : Prop := (∀ c, c ≠ 70 → S' c = S c) ∧ ∀ u, u ≠ 7 → u ≠ v → S' 70 u = S 70 u
theorem fv_rfl {v : Nat} {S : qSto} : fv v S S := ⟨fun _ _ => rfl, fun _ _ _ => rfl⟩
theorem fv_tr {v : Nat} {S S1 S2 : qSto} (h1 : fv v S S1) (h2 : fv v S1 S2) : fv v S S2 := ⟨fun c h => (h2.1 c h).trans (h1.1 c h), fun c h g => (h2.2 c h g).trans (h1.2 c h g)⟩
theorem fv_7 {v : Nat} {S S1 : qSto} (hv : (7 ≤ v ∧ v ≤ 10) ∨ v = 17) (h : fv v S S1) : f7 S S1 := ⟨h.1, fun u hu => h.2 u (by omega) (by omega)⟩
theorem fv_b {v : Nat} {S S' : qSto} (hv : (7 ≤ v ∧ v ≤ 10) ∨ v = 17) (h : bQ S B n) (f : fv v S S') : bQ S' B n := f7_b h (fv_7 hv f)
theorem fv_up {v u : Nat} {S : qSto} {x : Int} (hu : u = 7 ∨ u = v) : fv v S (qup S 70 u x) := ⟨fun c h => qup_off h, fun w h g => by rw [qup_on, if_neg (by omega)]⟩
/-- a number by its digits -/
def dvN (f : Nat → Int) : Nat → Int
  | 0 => 0
  | j + 1 => 10 * dvN f j + (f j - 48)
theorem letters_L (hb : hBy B n) {j : Nat} : ∀ (r f c : Nat) (S : qSto), j + c + r = n → r < f → bQ S B n → S 70 7 = ((j + c : Nat) : Int) → S 70 17 = nmW (fun u => B (j + u)) (min c 8) → ∃ S', M_letters_L21 f (c : Int) S = some (((upto isL B n (j + c) - j : Nat) : Int), S') ∧ S' 70 7 = upto isL B n (j + c) ∧ S' 70 17 = nmW (fun u => B (j + u)) (min (upto isL B n (j + c) - j) 8) ∧ fv 17 S S'
  | 0, f + 1, c, S, e, _, h, h7, hw => by
    have := hb.1
    rw [M_letters_L21, h7, byteAt_s hb h (by omega), if_neg (by omega)]
    simp only [ob_sn]
    rw [isLetter_s ⟨by omega, by omega⟩, if_neg (by rw [isL_iff]; omega)]
    simp only [ob_sn]
    rw [qk_r (by omega) (by omega), if_pos trivial, upto_n (by omega), show j + c - j = c by omega]
    exact ⟨S, rfl, h7, hw, fv_rfl⟩
  | r + 1, f + 1, c, S, e, hr, h, h7, hw => by
    have h12 := hb.1
    have bi := hb.2 (j + c) (by omega)
    rw [M_letters_L21, h7, byteAt_s hb h (by omega), if_pos (by omega)]
    simp only [ob_sn]
    rw [isLetter_s ⟨by omega, by omega⟩]
    by_cases g : isL (B (j + c)) = true
    · rw [if_pos g]
      simp only [ob_sn]
      rw [qk_r (by omega) (by omega), if_neg (by omega)]
      have step : ∀ S1, fv 17 S S1 → S1 70 7 = ((j + c : Nat) : Int) → S1 70 17 = nmW (fun u => B (j + u)) (min (c + 1) 8) → ∃ S', M_letters_L21 f ((c : Int) + 1) (qup S1 70 7 ((S1 70 7) + 1)) = some (((upto isL B n (j + c) - j : Nat) : Int), S') ∧ S' 70 7 = upto isL B n (j + c) ∧ S' 70 17 = nmW (fun u => B (j + u)) (min (upto isL B n (j + c) - j) 8) ∧ fv 17 S S' := fun S1 f1 e7 e17 => by
        have ff : fv 17 S1 (qup S1 70 7 ((S1 70 7) + 1)) := fv_up (by omega)
        obtain ⟨S', t1, t2, t3, t4⟩ := letters_L hb (j := j) r f (c + 1) (qup S1 70 7 ((S1 70 7) + 1)) (by omega) (by omega) (fv_b (by omega) h (fv_tr f1 ff)) (by rw [qup_on, if_pos rfl, e7]; omega) (by rw [qup_on, if_neg (by omega)]; exact e17)
        have eu : upto isL B n (j + (c + 1)) = upto isL B n (j + c) := (upto_y (by omega) g).symm
        rw [eu] at t1 t2 t3
        exact ⟨S', t1, t2, t3, fv_tr f1 (fv_tr ff t4)⟩
      rw [qk_r (by omega) (by omega)]
      by_cases g8 : (8 : Int) ≤ (c : Int)
      · rw [if_pos g8]
        simp only [ob_sn]
        refine step S fv_rfl h7 ?_
        rw [show min (c + 1) 8 = min c 8 by omega]
        exact hw
      · rw [if_neg g8, h7, byteAt_s hb h (by omega), if_pos (by omega)]
        simp only [ob_sn]
        rw [qk_r (by omega) (by omega)]
        simp only [ob_sn]
        refine step (qup S 70 17 (32 * S 70 17 + B (j + c) - 96)) (fv_up (by omega)) (by rw [qup_on, if_neg (by omega)]; exact h7) ?_
        rw [qup_on, if_pos rfl, hw, show min (c + 1) 8 = c + 1 by omega, show min c 8 = c by omega, nmW]
        omega
    · rw [if_neg g]
      simp only [ob_sn]
      rw [qk_r (by omega) (by omega), if_pos trivial, upto_n (fun q => g q.2), show j + c - j = c by omega]
      exact ⟨S, rfl, h7, hw, fv_rfl⟩
theorem digits_L (hb : hBy B n) {j : Nat} : ∀ (r f c : Nat) (S : qSto), j + c + r = n → r < f → bQ S B n → S 70 7 = ((j + c : Nat) : Int) → S 70 10 = dvN (fun u => B (j + u)) (min c 4) → ∃ S', M_digits_L21 f (c : Int) S = some (((upto isD B n (j + c) - j : Nat) : Int), S') ∧ S' 70 7 = upto isD B n (j + c) ∧ S' 70 10 = dvN (fun u => B (j + u)) (min (upto isD B n (j + c) - j) 4) ∧ fv 10 S S'
  | 0, f + 1, c, S, e, _, h, h7, hw => by
    have := hb.1
    rw [M_digits_L21, h7, byteAt_s hb h (by omega), if_neg (by omega)]
    simp only [ob_sn]
    rw [isDigit_s ⟨by omega, by omega⟩, if_neg (by rw [isD_iff]; omega)]
    simp only [ob_sn]
    rw [qk_r (by omega) (by omega), if_pos trivial, upto_n (by omega), show j + c - j = c by omega]
    exact ⟨S, rfl, h7, hw, fv_rfl⟩
  | r + 1, f + 1, c, S, e, hr, h, h7, hw => by
    have h12 := hb.1
    have bi := hb.2 (j + c) (by omega)
    rw [M_digits_L21, h7, byteAt_s hb h (by omega), if_pos (by omega)]
    simp only [ob_sn]
    rw [isDigit_s ⟨by omega, by omega⟩]
    by_cases g : isD (B (j + c)) = true
    · rw [if_pos g]
      simp only [ob_sn]
      rw [qk_r (by omega) (by omega), if_neg (by omega)]
      have step : ∀ S1, fv 10 S S1 → S1 70 7 = ((j + c : Nat) : Int) → S1 70 10 = dvN (fun u => B (j + u)) (min (c + 1) 4) → ∃ S', M_digits_L21 f ((c : Int) + 1) (qup S1 70 7 ((S1 70 7) + 1)) = some (((upto isD B n (j + c) - j : Nat) : Int), S') ∧ S' 70 7 = upto isD B n (j + c) ∧ S' 70 10 = dvN (fun u => B (j + u)) (min (upto isD B n (j + c) - j) 4) ∧ fv 10 S S' := fun S1 f1 e7 e17 => by
        have ff : fv 10 S1 (qup S1 70 7 ((S1 70 7) + 1)) := fv_up (by omega)
        obtain ⟨S', t1, t2, t3, t4⟩ := digits_L hb (j := j) r f (c + 1) (qup S1 70 7 ((S1 70 7) + 1)) (by omega) (by omega) (fv_b (by omega) h (fv_tr f1 ff)) (by rw [qup_on, if_pos rfl, e7]; omega) (by rw [qup_on, if_neg (by omega)]; exact e17)
        have eu : upto isD B n (j + (c + 1)) = upto isD B n (j + c) := (upto_y (by omega) g).symm
        rw [eu] at t1 t2 t3
        exact ⟨S', t1, t2, t3, fv_tr f1 (fv_tr ff t4)⟩
      rw [qk_r (by omega) (by omega)]
      by_cases g8 : (4 : Int) ≤ (c : Int)
      · rw [if_pos g8]
        simp only [ob_sn]
        refine step S fv_rfl h7 ?_
        rw [show min (c + 1) 4 = min c 4 by omega]
        exact hw
      · rw [if_neg g8, h7, byteAt_s hb h (by omega), if_pos (by omega)]
        simp only [ob_sn]
        refine step (qup S 70 10 (10 * S 70 10 + B (j + c) - 48)) (fv_up (by omega)) (by rw [qup_on, if_neg (by omega)]; exact h7) ?_
        rw [qup_on, if_pos rfl, hw, show min (c + 1) 4 = c + 1 by omega, show min c 4 = c by omega, dvN]
        omega
    · rw [if_neg g]
      simp only [ob_sn]
      rw [qk_r (by omega) (by omega), if_pos trivial, upto_n (fun q => g q.2), show j + c - j = c by omega]
      exact ⟨S, rfl, h7, hw, fv_rfl⟩
/-- glued to what stands ahead -/
def gD (B : Nat → Int) (j : Nat) : Prop := 0 < j ∧ isD (B (j - 1)) = true
def gL (B : Nat → Int) (j : Nat) : Prop := 0 < j ∧ isL (B (j - 1)) = true
/-- the token from i on has been read -/
def tok (B : Nat → Int) (n i : Nat) (S : qSto) : Prop :=
  S 70 8 = upto isB B n i ∧
  ((n ≤ upto isB B n i ∧ S 70 9 = 4 ∧ S 70 7 = upto isB B n i) ∨
   (upto isB B n i < n ∧ isL (B (upto isB B n i)) = true ∧ S 70 7 = upto isL B n (upto isB B n i) ∧ ((S 70 9 = 1 ∧ upto isL B n (upto isB B n i) - upto isB B n i ≤ 8 ∧ ¬ gD B (upto isB B n i) ∧ S 70 17 = nmW (fun u => B (upto isB B n i + u)) (upto isL B n (upto isB B n i) - upto isB B n i)) ∨ (S 70 9 = 5 ∧ (8 < upto isL B n (upto isB B n i) - upto isB B n i ∨ gD B (upto isB B n i))))) ∨
   (upto isB B n i < n ∧ isD (B (upto isB B n i)) = true ∧ S 70 7 = upto isD B n (upto isB B n i) ∧ ((S 70 9 = 2 ∧ upto isD B n (upto isB B n i) - upto isB B n i ≤ 4 ∧ ¬ gL B (upto isB B n i) ∧ S 70 10 = dvN (fun u => B (upto isB B n i + u)) (upto isD B n (upto isB B n i) - upto isB B n i)) ∨ (S 70 9 = 5 ∧ (4 < upto isD B n (upto isB B n i) - upto isB B n i ∨ gL B (upto isB B n i))))) ∨
   (upto isB B n i < n ∧ isL (B (upto isB B n i)) = false ∧ isD (B (upto isB B n i)) = false ∧ S 70 7 = ((upto isB B n i + 1 : Nat) : Int) ∧ S 70 9 = (if B (upto isB B n i) = 59 then 3 else 5)))
theorem blanks_L (hb : hBy B n) : ∀ (r f i : Nat) (S : qSto), i + r = n → r < f → bQ S B n → S 70 7 = i → ∃ S', M_goOn_L0 f S = some S' ∧ S' 70 7 = upto isB B n i ∧ (∀ c, c ≠ 70 → S' c = S c) ∧ ∀ u, u ≠ 7 → S' 70 u = S 70 u
  | 0, f + 1, i, S, e, _, h, h7 => by
    have := hb.1
    rw [M_goOn_L0, h7, byteAt_s hb h (by omega), if_neg (by omega)]
    simp only [ob_sn]
    rw [qk_r (by omega) (by omega), if_neg (by omega), h7, byteAt_s hb h (by omega), if_neg (by omega)]
    simp only [ob_sn]
    rw [qk_r (by omega) (by omega), if_neg (by omega), upto_n (by omega)]
    exact ⟨S, rfl, h7, fun _ _ => rfl, fun _ _ => rfl⟩
  | r + 1, f + 1, i, S, e, hr, h, h7 => by
    have h12 := hb.1
    have bi := hb.2 i (by omega)
    have go : isB (B i) = true → ∃ S', M_goOn_L0 f (qup S 70 7 ((S 70 7) + 1)) = some S' ∧ S' 70 7 = upto isB B n i ∧ (∀ c, c ≠ 70 → S' c = S c) ∧ ∀ u, u ≠ 7 → S' 70 u = S 70 u := fun hq => by
      obtain ⟨S', t1, t2, t3, t4⟩ := blanks_L hb r f (i + 1) (qup S 70 7 ((S 70 7) + 1)) (by omega) (by omega) (f7_b h (f7_up (by omega))) (by rw [qup_on, if_pos rfl, h7]; omega)
      exact ⟨S', t1, by rw [t2, upto_y (by omega) hq], fun c hc => (t3 c hc).trans (qup_off hc), fun u hu => by rw [t4 u hu, qup_on, if_neg hu]⟩
    rw [M_goOn_L0, h7, byteAt_s hb h (by omega), if_pos (by omega)]
    simp only [ob_sn]
    rw [qk_r (by omega) (by omega)]
    by_cases g1 : B i = 32
    · rw [if_pos g1]
      exact go ((isB_iff _).mpr (Or.inl g1))
    · rw [if_neg g1, h7, byteAt_s hb h (by omega), if_pos (by omega)]
      simp only [ob_sn]
      rw [qk_r (by omega) (by omega)]
      by_cases g2 : B i = 10
      · rw [if_pos g2]
        exact go ((isB_iff _).mpr (Or.inr g2))
      · rw [if_neg g2, upto_n (fun q => by have := (isB_iff _).mp q.2; omega)]
        exact ⟨S, rfl, h7, fun _ _ => rfl, fun _ _ => rfl⟩
theorem goOn_s (hb : hBy B n) {S : qSto} {i : Nat} (hi : i ≤ n) (h : bQ S B n) (h7 : S 70 7 = i) : ∃ S', M_goOn S = some S' ∧ tok B n i S' ∧ f7 S S' := by
  have h12 := hb.1
  obtain ⟨S1, t1, t2, t3, t4⟩ := blanks_L hb (n - i) qF i S (by omega) (by unfold qF; omega) h h7
  have ub := upto_b (P := isB) (B := B) hi
  have e8 : (qup S1 70 8 (S1 70 7)) 70 7 = upto isB B n i := by rw [qup_on, if_neg (by omega), t2]
  have p8 : (qup S1 70 8 (S1 70 7)) 70 8 = upto isB B n i := by rw [qup_on, if_pos rfl, t2]
  have f2 : f7 S (qup S1 70 8 (S1 70 7)) := f7_tr ⟨t3, fun u hu => t4 u (by omega)⟩ (f7_up (by omega))
  have b2 := f7_b h f2
  rw [M_goOn, t1]
  simp only [ob_sn]
  generalize qup S1 70 8 (S1 70 7) = S2 at e8 p8 f2 b2
  obtain ⟨j, hj⟩ : ∃ j, j = upto isB B n i := ⟨_, rfl⟩
  unfold tok
  rw [← hj] at e8 p8 ub ⊢
  rw [e8, byteAt_s hb b2 (by omega)]
  simp only [ob_sn]
  by_cases gn : j < n
  · have bj := hb.2 j gn
    rw [if_pos gn, qk_r (by omega) (by omega), if_neg (by omega), isLetter_s ⟨by omega, by omega⟩]
    simp only [ob_sn]
    by_cases gl : isL (B j) = true
    · rw [if_pos gl, qk_r (by omega) (by omega), if_neg (by omega)]
      -- letters
      have pv : qR (if 0 < j then B (j - 1) else -1) := by
        split
        · have := hb.2 (j - 1) (by omega)
          exact ⟨by omega, by omega⟩
        · exact ⟨by omega, by omega⟩
      have ul := upto_b (P := isL) (B := B) (show j ≤ n by omega)
      obtain ⟨S3, u1, u2, u3, u4⟩ := letters_L hb (j := j) (n - j) qF 0 (qup S2 70 17 0) (by omega) (by unfold qF; omega) (f7_b b2 (f7_up (by omega))) (by rw [qup_on, if_neg (by omega), e8]; rfl) (by rw [qup_on, if_pos rfl]; rfl)
      have u1' : M_letters_L21 qF 0 (qup S2 70 17 0) = some (((upto isL B n j - j : Nat) : Int), S3) := u1
      have u2' : S3 70 7 = upto isL B n j := u2
      have u3' : S3 70 17 = nmW (fun u => B (j + u)) (min (upto isL B n j - j) 8) := u3
      have g3 : fv 17 S2 S3 := fv_tr (fv_up (by omega)) u4
      have f3 : f7 S S3 := f7_tr f2 (fv_7 (by omega) g3)
      have s8 : S3 70 8 = j := by rw [g3.2 8 (by omega) (by omega), p8]
      have body : ∃ S', M_letters S2 = some S' ∧ f7 S S' ∧ S' 70 8 = j ∧ S' 70 7 = upto isL B n j ∧ ((S' 70 9 = 1 ∧ upto isL B n j - j ≤ 8 ∧ ¬ gD B j ∧ S' 70 17 = nmW (fun u => B (j + u)) (upto isL B n j - j)) ∨ (S' 70 9 = 5 ∧ (8 < upto isL B n j - j ∨ gD B j))) := by
        rw [M_letters, e8, byteAt_p hb b2 gn]
        simp only [ob_sn]
        rw [isDigit_s pv]
        simp only [ob_sn]
        rw [u1']
        simp only [ob_sn]
        have bad : (8 < upto isL B n j - j ∨ gD B j) → ∃ S', some (qup S3 70 9 5) = some S' ∧ f7 S S' ∧ S' 70 8 = j ∧ S' 70 7 = upto isL B n j ∧ ((S' 70 9 = 1 ∧ upto isL B n j - j ≤ 8 ∧ ¬ gD B j ∧ S' 70 17 = nmW (fun u => B (j + u)) (upto isL B n j - j)) ∨ (S' 70 9 = 5 ∧ (8 < upto isL B n j - j ∨ gD B j))) := fun hq => ⟨_, rfl, f7_tr f3 (f7_up (by omega)), by rw [qup_on, if_neg (by omega), s8], by rw [qup_on, if_neg (by omega), u2'], Or.inr ⟨by rw [qup_on, if_pos rfl], hq⟩⟩
        by_cases gg : gD B j
        · have e1 : isD (if 0 < j then B (j - 1) else -1) = true := by rw [if_pos gg.1]; exact gg.2
          rw [if_pos e1, qk_r (by omega) (by omega), if_neg (by omega)]
          exact bad (Or.inr gg)
        · have e1 : ¬ isD (if 0 < j then B (j - 1) else -1) = true := fun q => by
            by_cases z : 0 < j
            · rw [if_pos z] at q
              exact gg ⟨z, q⟩
            · rw [if_neg z, isD_iff] at q
              omega
          rw [if_neg e1, qk_r (by omega) (by omega), if_pos rfl, qk_r (by omega) (by omega)]
          by_cases g8 : ((upto isL B n j - j : Nat) : Int) ≤ 8
          · rw [if_pos g8]
            refine ⟨_, rfl, f7_tr f3 (f7_up (by omega)), by rw [qup_on, if_neg (by omega), s8], by rw [qup_on, if_neg (by omega), u2'], Or.inl ⟨by rw [qup_on, if_pos rfl], by omega, gg, ?_⟩⟩
            rw [qup_on, if_neg (by omega), u3', show min (upto isL B n j - j) 8 = upto isL B n j - j by omega]
          · rw [if_neg g8]
            exact bad (Or.inl (by omega))
      obtain ⟨S', y1, y2, y3, y4, y5⟩ := body
      rw [y1]
      exact ⟨S', rfl, ⟨y3, Or.inr (Or.inl ⟨gn, gl, y4, y5⟩)⟩, y2⟩
    · rw [if_neg gl, qk_r (by omega) (by omega), if_pos rfl, isDigit_s ⟨by omega, by omega⟩]
      simp only [ob_sn]
      by_cases gd : isD (B j) = true
      · rw [if_pos gd, qk_r (by omega) (by omega), if_neg (by omega)]
        have pv : qR (if 0 < j then B (j - 1) else -1) := by
          split
          · have := hb.2 (j - 1) (by omega)
            exact ⟨by omega, by omega⟩
          · exact ⟨by omega, by omega⟩
        have ul := upto_b (P := isD) (B := B) (show j ≤ n by omega)
        obtain ⟨S3, u1, u2, u3, u4⟩ := digits_L hb (j := j) (n - j) qF 0 (qup S2 70 10 0) (by omega) (by unfold qF; omega) (f7_b b2 (f7_up (by omega))) (by rw [qup_on, if_neg (by omega), e8]; rfl) (by rw [qup_on, if_pos rfl]; rfl)
        have u1' : M_digits_L21 qF 0 (qup S2 70 10 0) = some (((upto isD B n j - j : Nat) : Int), S3) := u1
        have u2' : S3 70 7 = upto isD B n j := u2
        have u3' : S3 70 10 = dvN (fun u => B (j + u)) (min (upto isD B n j - j) 4) := u3
        have g3 : fv 10 S2 S3 := fv_tr (fv_up (by omega)) u4
        have f3 : f7 S S3 := f7_tr f2 (fv_7 (by omega) g3)
        have s8 : S3 70 8 = j := by rw [g3.2 8 (by omega) (by omega), p8]
        have body : ∃ S', M_digits S2 = some S' ∧ f7 S S' ∧ S' 70 8 = j ∧ S' 70 7 = upto isD B n j ∧ ((S' 70 9 = 2 ∧ upto isD B n j - j ≤ 4 ∧ ¬ gL B j ∧ S' 70 10 = dvN (fun u => B (j + u)) (upto isD B n j - j)) ∨ (S' 70 9 = 5 ∧ (4 < upto isD B n j - j ∨ gL B j))) := by
          rw [M_digits, e8, byteAt_p hb b2 gn]
          simp only [ob_sn]
          rw [isLetter_s pv]
          simp only [ob_sn]
          rw [u1']
          simp only [ob_sn]
          have bad : (4 < upto isD B n j - j ∨ gL B j) → ∃ S', some (qup S3 70 9 5) = some S' ∧ f7 S S' ∧ S' 70 8 = j ∧ S' 70 7 = upto isD B n j ∧ ((S' 70 9 = 2 ∧ upto isD B n j - j ≤ 4 ∧ ¬ gL B j ∧ S' 70 10 = dvN (fun u => B (j + u)) (upto isD B n j - j)) ∨ (S' 70 9 = 5 ∧ (4 < upto isD B n j - j ∨ gL B j))) := fun hq => ⟨_, rfl, f7_tr f3 (f7_up (by omega)), by rw [qup_on, if_neg (by omega), s8], by rw [qup_on, if_neg (by omega), u2'], Or.inr ⟨by rw [qup_on, if_pos rfl], hq⟩⟩
          by_cases gg : gL B j
          · have e1 : isL (if 0 < j then B (j - 1) else -1) = true := by rw [if_pos gg.1]; exact gg.2
            rw [if_pos e1, qk_r (by omega) (by omega), if_neg (by omega)]
            exact bad (Or.inr gg)
          · have e1 : ¬ isL (if 0 < j then B (j - 1) else -1) = true := fun q => by
              by_cases z : 0 < j
              · rw [if_pos z] at q
                exact gg ⟨z, q⟩
              · rw [if_neg z, isL_iff] at q
                omega
            rw [if_neg e1, qk_r (by omega) (by omega), if_pos rfl, qk_r (by omega) (by omega)]
            by_cases g8 : ((upto isD B n j - j : Nat) : Int) ≤ 4
            · rw [if_pos g8]
              refine ⟨_, rfl, f7_tr f3 (f7_up (by omega)), by rw [qup_on, if_neg (by omega), s8], by rw [qup_on, if_neg (by omega), u2'], Or.inl ⟨by rw [qup_on, if_pos rfl], by omega, gg, ?_⟩⟩
              rw [qup_on, if_neg (by omega), u3', show min (upto isD B n j - j) 4 = upto isD B n j - j by omega]
            · rw [if_neg g8]
              exact bad (Or.inl (by omega))
        obtain ⟨S', y1, y2, y3, y4, y5⟩ := body
        rw [y1]
        exact ⟨S', rfl, ⟨y3, Or.inr (Or.inr (Or.inl ⟨gn, gd, y4, y5⟩))⟩, y2⟩
      · have gl' : isL (B j) = false := by
          cases z : isL (B j) with
          | false => rfl
          | true => exact absurd z gl
        have gd' : isD (B j) = false := by
          cases z : isD (B j) with
          | false => rfl
          | true => exact absurd z gd
        rw [if_neg gd, qk_r (by omega) (by omega), if_pos rfl, qk_r (by omega) (by omega), e8]
        have en : (j : Int) + 1 = ((j + 1 : Nat) : Int) := by omega
        rw [en]
        have fin : ∀ v : Int, v = (if B j = 59 then 3 else 5) → ∃ S', some (qup (qup S2 70 7 ((j + 1 : Nat) : Int)) 70 9 v) = some S' ∧ (S' 70 8 = j ∧ ((n ≤ j ∧ S' 70 9 = 4 ∧ S' 70 7 = j) ∨ (j < n ∧ isL (B j) = true ∧ S' 70 7 = upto isL B n j ∧ ((S' 70 9 = 1 ∧ upto isL B n j - j ≤ 8 ∧ ¬ gD B j ∧ S' 70 17 = nmW (fun u => B (j + u)) (upto isL B n j - j)) ∨ (S' 70 9 = 5 ∧ (8 < upto isL B n j - j ∨ gD B j)))) ∨ (j < n ∧ isD (B j) = true ∧ S' 70 7 = upto isD B n j ∧ ((S' 70 9 = 2 ∧ upto isD B n j - j ≤ 4 ∧ ¬ gL B j ∧ S' 70 10 = dvN (fun u => B (j + u)) (upto isD B n j - j)) ∨ (S' 70 9 = 5 ∧ (4 < upto isD B n j - j ∨ gL B j)))) ∨ (j < n ∧ isL (B j) = false ∧ isD (B j) = false ∧ S' 70 7 = ((j + 1 : Nat) : Int) ∧ S' 70 9 = (if B j = 59 then 3 else 5)))) ∧ f7 S S' := fun v hv => by
          refine ⟨_, rfl, ⟨?_, Or.inr (Or.inr (Or.inr ⟨gn, gl', gd', ?_, ?_⟩))⟩, f7_tr f2 (f7_tr (f7_up (by omega)) (f7_up (by omega)))⟩
          · rw [qup_on, if_neg (by omega), qup_on, if_neg (by omega), p8]
          · rw [qup_on, if_neg (by omega), qup_on, if_pos rfl]
          · rw [qup_on, if_pos rfl, hv]
        by_cases g5 : B j = 59
        · rw [if_pos g5]
          exact fin 3 (by rw [if_pos g5])
        · rw [if_neg g5]
          exact fin 5 (by rw [if_neg g5])
  · rw [if_neg gn, qk_r (by omega) (by omega), if_pos rfl]
    refine ⟨_, rfl, ⟨?_, Or.inl ⟨by omega, ?_, ?_⟩⟩, f7_tr f2 (f7_up (by omega))⟩
    · rw [qup_on, if_neg (by omega), p8]
    · rw [qup_on, if_pos rfl]
    · rw [qup_on, if_neg (by omega), e8]
end PTK
