/-! a ship's name -/
section PNA
variable {B : Nat → Int} {n : Nat} {F : Nat → Int} {o : Int} {N : Nat → Int} {ln : Nat → Int}
/-- the name that stands from j on, m letters, in row c -/
def nR (B : Nat → Int) (N : Nat → Int) (c j m : Nat) : Nat → Int := fun x => if 8 * c ≤ x ∧ x < 8 * c + 8 then (if x - 8 * c < m then B (j + (x - 8 * c)) else 0) else N x
theorem nR_on {c j m u : Nat} (hu : u < 8) : nR B N c j m (8 * c + u) = if u < m then B (j + u) else 0 := by
  unfold nR
  rw [if_pos (by omega), Nat.add_sub_cancel_left]
theorem nR_off {c j m x : Nat} (h : ¬ (8 * c ≤ x ∧ x < 8 * c + 8)) : nR B N c j m x = N x := if_neg h
theorem nameNext_L (hb : hBy B n) {c j m : Nat} (hc : c < 14) (hm : m ≤ 8) (hn : j + m ≤ n) (hl : ∀ u, u < m → 97 ≤ B (j + u) ∧ B (j + u) ≤ 122) : ∀ (r f i : Nat) (S : qSto), i + r = 8 → r < f → bP S B n → S 3 12 = c → (∀ x, S 34 x = if 8 * c ≤ x ∧ x < 8 * c + i then (if x - 8 * c < m then B (j + (x - 8 * c)) else 0) else N x) → ∃ S', Heard_nameNextShip_1_L12 f (j : Int) (m : Int) (i : Int) S = some S' ∧ (∀ x, S' 34 x = nR B N c j m x) ∧ ∀ d, d ≠ 34 → S' d = S d
  | 0, f + 1, i, S, e, _, hP, h3, h34 => by
    have e8 : i = 8 := by omega
    rw [Heard_nameNextShip_1_L12, qk_r (by omega) (by omega), if_pos (by omega)]
    rw [e8] at h34
    exact ⟨S, rfl, h34, fun _ _ => rfl⟩
  | r + 1, f + 1, i, S, e, hr, hP, h3, h34 => by
    have h12 := hb.1
    have ix : (((c : Int) * 8) + (i : Int)).toNat = 8 * c + i := by omega
    have iy : ((j : Int) + (i : Int)).toNat = j + i := by omega
    obtain ⟨v, hv⟩ : ∃ v : Int, v = if i < m then B (j + i) else 0 := ⟨_, rfl⟩
    have ev : (qk (qRb (i : Int)) (qk (qRb (m : Int)) (if (m : Int) ≤ (i : Int) then some 0 else (qk (qIx ((j : Int) + (i : Int)) 1200) (some (S 1 (Int.toNat ((j : Int) + (i : Int)))))))) : Option Int) = some v := by
      rw [qk_r (by omega) (by omega), qk_r (by omega) (by omega)]
      by_cases g : i < m
      · have bb := hl i g
        have sg := sgn (c := B (j + i)) (by omega)
        rw [if_pos (by omega)] at sg
        rw [if_neg (by omega), qk_ix (by omega) (by omega), iy, hP.2 (j + i) (by omega), sg, hv, if_pos g]
      · rw [if_pos (by omega), hv, if_neg g]
    rw [Heard_nameNextShip_1_L12, qk_r (by omega) (by omega), if_neg (by omega), ev]
    simp only [ob_sn]
    rw [h3, qk_ix (by omega) (by omega), ix]
    obtain ⟨S', t1, t2, t3⟩ := nameNext_L hb hc hm hn hl r f (i + 1) (qup S 34 (8 * c + i) v) (by omega) (by omega) ⟨by rw [qup_off (by omega)]; exact hP.1, by rw [qup_off (by omega)]; exact hP.2⟩ (by rw [qup_off (by omega)]; exact h3) (fun x => by
      rw [qup_on, h34]
      by_cases g : x = 8 * c + i
      · rw [if_pos g, if_pos (by omega), hv, g, Nat.add_sub_cancel_left]
      · rw [if_neg g]
        by_cases w : 8 * c ≤ x ∧ x < 8 * c + i
        · rw [if_pos w, if_pos (show 8 * c ≤ x ∧ x < 8 * c + (i + 1) by omega)]
        · rw [if_neg w, if_neg (by omega)])
    exact ⟨S', t1, t2, fun d hd => (t3 d hd).trans (qup_off hd)⟩
theorem nameNext_s (hb : hBy B n) {c j m : Nat} (hc : c < 14) (hm : m ≤ 8) (hn : j + m ≤ n) (hl : ∀ u, u < m → 97 ≤ B (j + u) ∧ B (j + u) ≤ 122) {S : qSto} (hP : bP S B n) (h3 : S 3 12 = c) (h34 : ∀ x, S 34 x = N x) : ∃ S', Heard_nameNextShip_1 (j : Int) (m : Int) S = some S' ∧ (∀ x, S' 34 x = nR B N c j m x) ∧ ∀ d, d ≠ 34 → S' d = S d := by
  obtain ⟨S', t1, t2, t3⟩ := nameNext_L (N := N) hb hc hm hn hl 8 qF 0 S (by omega) (by unfold qF; omega) hP h3 (fun x => by rw [h34, if_neg (by omega)])
  have t1' : Heard_nameNextShip_1_L12 qF (j : Int) (m : Int) 0 S = some S' := t1
  refine ⟨S', ?_, t2, t3⟩
  rw [Heard_nameNextShip_1, h3, qk_r (by omega) (by omega), if_neg (by omega), t1']
  rfl
theorem heardByte_s {S : qSto} {s u : Nat} (hs : s < 14) (hu : u < 8) : Heard_nameByte (s : Int) (u : Int) S = some (S 34 (8 * s + u), S) := by
  have ix : (((s : Int) * 8) + (u : Int)).toNat = 8 * s + u := by omega
  rw [Heard_nameByte, qk_r (by omega) (by omega), if_neg (by omega), qk_ix (by omega) (by omega), ix]
theorem same_L {S : qSto} {c s : Nat} (hc : c < 14) (hs : s < c) (h3 : S 3 12 = c) (hr : ∀ s, s ≤ c → ∀ u, u < 8 → qR (S 34 (8 * s + u))) : ∀ (r f i : Nat), i + r = 8 → r < f → ∃ k : Int, Heard_isNextNameToldAlready_L12 f (s : Int) (i : Int) S = some (k, S) ∧ (0 ≤ k ∧ k ≤ 8) ∧ (k = 8 ↔ ∀ u, i ≤ u → u < 8 → S 34 (8 * s + u) = S 34 (8 * c + u))
  | 0, f + 1, i, e, _ => by
    rw [Heard_isNextNameToldAlready_L12, qk_r (by omega) (by omega), if_pos (by omega)]
    exact ⟨_, rfl, by omega, fun _ u h1 h2 => by omega, fun _ => by omega⟩
  | r + 1, f + 1, i, e, hf => by
    have r1 := hr s (by omega) i (by omega)
    have r2 := hr c (by omega) i (by omega)
    rw [Heard_isNextNameToldAlready_L12, qk_r (by omega) (by omega), if_neg (by omega), heardByte_s (by omega) (by omega)]
    simp only [ob_sn]
    rw [h3, heardByte_s hc (by omega)]
    simp only [ob_sn]
    rw [qk_r r1.1 r1.2, qk_r r2.1 r2.2]
    by_cases g : S 34 (8 * s + i) = S 34 (8 * c + i)
    · rw [if_pos g]
      obtain ⟨k, t1, t2, t3⟩ := same_L hc hs h3 hr r f (i + 1) (by omega) (by omega)
      refine ⟨k, t1, t2, t3.trans ⟨fun h u h1 h2 => ?_, fun h u h1 h2 => h u (by omega) h2⟩⟩
      by_cases w : u = i
      · rw [w]
        exact g
      · exact h u (by omega) h2
    · rw [if_neg g]
      exact ⟨_, rfl, by omega, fun h => by omega, fun h => absurd (h i (by omega) (by omega)) g⟩
theorem nextTold_L {S : qSto} {c : Nat} (hc : c < 14) (h3 : S 3 12 = c) (hr : ∀ s, s ≤ c → ∀ u, u < 8 → qR (S 34 (8 * s + u))) : ∀ (r f i : Nat), i + r = c → r < f → (∀ s, s < i → ¬ ∀ u, u < 8 → S 34 (8 * s + u) = S 34 (8 * c + u)) → Heard_isNextNameToldAlready_L2 f (i : Int) S = some (cI (∃ s, s < c ∧ ∀ u, u < 8 → S 34 (8 * s + u) = S 34 (8 * c + u)) (.inr (1, S)) (.inl S))
  | 0, f + 1, i, e, _, hn => by
    rw [Heard_isNextNameToldAlready_L2, h3, qk_r (by omega) (by omega), qk_r (by omega) (by omega), if_pos (by omega), cI_f (fun ⟨s, h1, h2⟩ => hn s (by omega) h2)]
  | r + 1, f + 1, i, e, hf, hn => by
    obtain ⟨k, t1, t2, t3⟩ := same_L hc (show i < c by omega) h3 hr 8 qF 0 (by omega) (by unfold qF; omega)
    have t1' : Heard_isNextNameToldAlready_L12 qF (i : Int) 0 S = some (k, S) := t1
    rw [Heard_isNextNameToldAlready_L2, h3, qk_r (by omega) (by omega), qk_r (by omega) (by omega), if_neg (by omega), t1']
    simp only [ob_sn]
    rw [qk_r (by omega) (by omega)]
    by_cases g : k = 8
    · rw [if_pos g, cI_t ⟨i, by omega, fun u hu => t3.mp g u (by omega) hu⟩]
    · rw [if_neg g]
      exact nextTold_L hc h3 hr r f (i + 1) (by omega) (by omega) (fun s hs h => by
        by_cases w : s = i
        · rw [w] at h
          exact g (t3.mpr (fun u _ hu => h u hu))
        · exact hn s (by omega) h)
theorem nextTold_s {S : qSto} {c : Nat} (hc : c < 14) (h3 : S 3 12 = c) (hr : ∀ s, s ≤ c → ∀ u, u < 8 → qR (S 34 (8 * s + u))) : Heard_isNextNameToldAlready S = some (cI (∃ s, s < c ∧ ∀ u, u < 8 → S 34 (8 * s + u) = S 34 (8 * c + u)) 1 0, S) := by
  have w := nextTold_L hc h3 hr c qF 0 (by omega) (by unfold qF; omega) (fun u hu => by omega)
  have w' : Heard_isNextNameToldAlready_L2 qF 0 S = _ := w
  rw [Heard_isNextNameToldAlready, w']
  by_cases g : ∃ s, s < c ∧ ∀ u, u < 8 → S 34 (8 * s + u) = S 34 (8 * c + u)
  · rw [cI_t g, cI_t g]
    rfl
  · rw [cI_f g, cI_f g]
    rfl
/-! the reference's names -/
theorem L27_f {k q : Int} {S : qSto} (h : mF k q S) {c : Nat} (hc : c < 14) : ∀ (r f i : Nat), i + r = c → r < f → M_nameTold_L27 f (c : Int) (i : Int) S = some S
  | 0, f + 1, i, e, _ => by rw [M_nameTold_L27, qk_r (by omega) (by omega), qk_r (by omega) (by omega), if_pos (by omega)]
  | r + 1, f + 1, i, e, hf => by
    have := h.1
    rw [M_nameTold_L27, qk_r (by omega) (by omega), qk_r (by omega) (by omega), if_neg (by omega), h.2.1, qk_r (by omega) (by omega), if_neg (by omega)]
    simp only [ob_sn]
    exact L27_f h hc r f (i + 1) (by omega) (by omega)
theorem L27_s {S : qSto} (h0 : S 70 11 = 0) (h73 : ∀ s, S 73 s = ln s) {c : Nat} (hc : c < 14) (hr : ∀ s, s < c → qRL (ln s)) (hw : qRL (S 70 17)) : ∀ (r f i : Nat), i + r = c → r < f → (∀ s, s < i → ln s ≠ S 70 17) → M_nameTold_L27 f (c : Int) (i : Int) S = some (cI (∃ s, s < c ∧ ln s = S 70 17) (qup (qup S 70 11 3) 70 12 (S 70 8)) S)
  | 0, f + 1, i, e, _, hn => by
    rw [M_nameTold_L27, qk_r (by omega) (by omega), qk_r (by omega) (by omega), if_pos (by omega), cI_f (fun ⟨s, h1, h2⟩ => hn s (by omega) h2)]
  | r + 1, f + 1, i, e, hf, hn => by
    have r1 := hr i (by omega)
    rw [M_nameTold_L27, qk_r (by omega) (by omega), qk_r (by omega) (by omega), if_neg (by omega), h0, qk_r (by omega) (by omega), if_pos rfl, qk_ix (by omega) (by omega), Int.toNat_natCast, h73, qk_rl r1.1 r1.2, qk_rl hw.1 hw.2]
    by_cases g : ln i = S 70 17
    · rw [if_pos g, fail_0 h0, cI_t ⟨i, by omega, g⟩]
      simp only [ob_sn]
      exact L27_f (mF_fail (by omega)) hc r f (i + 1) (by omega) (by omega)
    · rw [if_neg g]
      simp only [ob_sn]
      exact L27_s h0 h73 hc hr hw r f (i + 1) (by omega) (by omega) (fun s hs => by
        by_cases w : s = i
        · rw [w]
          exact g
        · exact hn s (by omega))
theorem tok_word {p : Nat} {S : qSto} (hn : p ≤ n) (h : tok B n p S) (hg : ¬ gD B (upto isB B n p)) (h1 : 1 ≤ upto isL B n (upto isB B n p) - upto isB B n p) (h8 : upto isL B n (upto isB B n p) - upto isB B n p ≤ 8) : S 70 9 = 1 ∧ S 70 17 = nmW (fun u => B (upto isB B n p + u)) (upto isL B n (upto isB B n p) - upto isB B n p) ∧ S 70 7 = ((upto isL B n (upto isB B n p) : Nat) : Int) := by
  have ub := upto_b (P := isB) (B := B) hn
  have ul := upto_b (P := isL) (B := B) ub.2
  have w := upto_in (P := isL) (B := B) ub.2 (Nat.le_refl _) (show upto isB B n p < upto isL B n (upto isB B n p) by omega)
  rcases h.2 with q | ⟨-, -, q3, q4⟩ | ⟨-, q2, -⟩ | ⟨-, q2, -⟩
  · omega
  · rcases q4 with ⟨r1, r2, r3, r4⟩ | ⟨-, r2 | r2⟩
    · exact ⟨r1, r4, q3⟩
    · omega
    · exact absurd r2 hg
  · have a := (isL_iff _).mp w
    have b := (isD_iff _).mp q2
    omega
  · rw [w] at q2
    cases q2
theorem tok_noword {p : Nat} {S : qSto} (hn : p ≤ n) (h : tok B n p S) (hw : ¬ (1 ≤ upto isL B n (upto isB B n p) - upto isB B n p ∧ upto isL B n (upto isB B n p) - upto isB B n p ≤ 8)) : S 70 9 ≠ 1 := fun e9 => by
  have ub := upto_b (P := isB) (B := B) hn
  rcases h.2 with q | ⟨q1, q2, q3, q4⟩ | ⟨-, -, -, q⟩ | ⟨-, -, -, -, q⟩
  · omega
  · have := upto_b (P := isL) (B := B) (show upto isB B n p + 1 ≤ n by omega)
    have e := upto_y (P := isL) (B := B) q1 q2
    rcases q4 with r | r <;> omega
  · rcases q with q | q <;> omega
  · rw [q] at e9
    split at e9 <;> omega
/-- words and rows of bytes tell the same -/
theorem told_iff (hs : hS F o N ln) {c j m : Nat} (hc : F 9 = c) (h1 : 1 ≤ m) (h8 : m ≤ 8) (hl : ∀ u, u < m → 97 ≤ B (j + u) ∧ B (j + u) ≤ 122) : (∃ s, s < c ∧ ∀ u, u < 8 → nR B N c j m (8 * s + u) = nR B N c j m (8 * c + u)) ↔ ∃ s, s < c ∧ ln s = nmW (fun u => B (j + u)) m := by
  constructor
  · rintro ⟨s, h, hu⟩
    refine ⟨s, h, ?_⟩
    obtain ⟨l, l1, l2, l3, l4⟩ := hs.2.2.2 s (by omega)
    have hu' : ∀ u, u < 8 → N (8 * s + u) = if u < m then B (j + u) else 0 := fun u q => by
      have z := hu u q
      rw [nR_on q, nR_off (by omega)] at z
      exact z
    have e : l = m := by
      rcases Nat.lt_trichotomy l m with q | q | q
      · have z := hu' l (by omega)
        rw [l3 l (by omega) (by omega), if_pos q] at z
        have := hl l q
        omega
      · exact q
      · have z := hu' m (by omega)
        rw [if_neg (by omega)] at z
        have := l2 m q
        omega
    rw [l4, e]
    exact nmW_cong m (fun u q => by
      show N (8 * s + u) = B (j + u)
      rw [hu' u (by omega), if_pos q])
  · rintro ⟨s, h, hu⟩
    refine ⟨s, h, fun u q => ?_⟩
    obtain ⟨l, l1, l2, l3, l4⟩ := hs.2.2.2 s (by omega)
    rw [l4] at hu
    obtain ⟨e, f⟩ := nmW_inj l m l2 hl hu
    rw [nR_on q, nR_off (by omega)]
    by_cases g : u < m
    · rw [if_pos g]
      exact f u (by omega)
    · rw [if_neg g]
      exact l3 u (by omega) q
theorem RES_name (hb : hBy B n) (hs : hS F o N ln) {i0 p c : Nat} {R : qSto → Option qSto} (hpn : p ≤ n) (hL : 0 < p ∧ isL (B (p - 1)) = true) (hc : F 9 = c) (hc14 : c < 14) (hR : ∀ S kk q, mF kk q S → ∃ S', R S = some S' ∧ mF kk q S' ∧ fml S S')
    (hgo : ∀ j m : Nat, 1 ≤ m → m ≤ 8 → p ≤ j → (∀ u, u < m → 97 ≤ B (j + u) ∧ B (j + u) ≤ 122) → hp B n (j + m) → RES B n (F 10) i0 (cA B n F o (nR B N c j m) (j + m) 0 (fun _ => 0)) (cGo qF 10 0) (mA B n F o (nR B N c j m) (fU ln c (nmW (fun u => B (j + u)) m)) (j + m)) R) :
    RES B n (F 10) i0 (fun S => cV B n F o N S ∧ S 4 4 = (p : Int)) (fun S => Option.bind (Reader_readName S) (fun q277 => qk (qRb q277.1) (if q277.1 = 0 then some (0, q277.2) else cGo qF 10 0 q277.2))) (mA B n F o N ln p) (fun S => Option.bind (M_nameTold (c : Int) S) R) := by
  have h12 := hb.1
  have ub := upto_b (P := isB) (B := B) hpn
  have ul := upto_b (P := isL) (B := B) ub.2
  have hg : ¬ gD B (upto isB B n p) := fun q => by
    by_cases w : upto isB B n p = p
    · rw [w] at q
      have a := (isL_iff _).mp hL.2
      have b := (isD_iff _).mp q.2
      omega
    · have a := (isB_iff _).mp (gap_B (B := B) hpn (by omega))
      have b := (isD_iff _).mp q.2
      omega
  obtain ⟨j, hj⟩ : ∃ j, j = upto isB B n p := ⟨_, rfl⟩
  obtain ⟨m, hm⟩ : ∃ m, m = upto isL B n j - j := ⟨_, rfl⟩
  have em : upto isL B n j = j + m := by rw [hm, hj]; omega
  have hl : ∀ u, u < m → 97 ≤ B (j + u) ∧ B (j + u) ≤ 122 := by rw [hm, hj]; exact lets ub.2
  have kk := kAt_b B n p
  have head : ∀ S, cV B n F o N S → S 4 4 = (p : Int) → ∃ S1 S2, Reader_skipBlanks S = some S1 ∧ S1 4 4 = (j : Int) ∧ Reader_passRow 97 122 S1 = some ((m : Int), S2) ∧ S2 4 4 = ((j + m : Nat) : Int) ∧ f4 S S2 := fun S hc h4 => by
    obtain ⟨S1, t1, t2, t3⟩ := skip_s hb hpn hc.1 h4
    obtain ⟨S2, u1, u2, u3⟩ := pass_s (P := isL) hb (lo := 97) (hi' := 122) (by omega) isL_iff ub.2 (f4_b hc.1 t3) t2
    rw [← hj] at t2 u1 u2
    rw [← hm] at u1
    rw [em] at u2
    exact ⟨S1, S2, t1, t2, u1, u2, f4_tr t3 u3⟩
  rw [← hj] at ub ul
  rw [em] at ul
  -- a fault of the reference
  have mfl : ∀ (k : Int) S, 1 ≤ k ∧ k ≤ 4 → S 70 11 = 0 → ∃ S', Option.bind (some (qup (qup S 70 11 k) 70 12 (j : Int))) (fun t2218 => Option.bind (Option.bind (M_nameTold_L27 qF (c : Int) 0 t2218) (fun q2228 => qk (qRb (q2228 70 11)) (if (q2228 70 11) ≤ 0 then (qk (qIx (c : Int) 14) (Option.bind (M_goOn (qup q2228 73 (Int.toNat (c : Int)) (q2228 70 17))) (fun q2232 => some q2232))) else some q2228))) R) = some S' ∧ mF k (j : Int) S' ∧ fml S S' := fun k S hk h0 => by
    have vf : mF k (j : Int) (qup (qup S 70 11 k) 70 12 (j : Int)) := mF_fail hk
    obtain ⟨S', w1, w2, w3⟩ := hR _ _ _ vf
    have z := L27_f vf hc14 c qF 0 (by omega) (by unfold qF; omega)
    have z' : M_nameTold_L27 qF (c : Int) 0 (qup (qup S 70 11 k) 70 12 (j : Int)) = _ := z
    refine ⟨S', ?_, w2, fml_tr (gM_l (gM_fail (by omega))) w3⟩
    simp only [ob_sn]
    rw [z']
    simp only [ob_sn]
    rw [vf.2.1, qk_r (by omega) (by omega), if_neg (by omega)]
    exact w1
  have oa : ∀ {α β γ : Type} (x : Option α) (f : α → Option β) (g : β → Option γ), Option.bind (Option.bind x f) g = Option.bind x (fun a => Option.bind (f a) g) := fun x f g => by cases x <;> rfl
  by_cases g1 : 1 ≤ m ∧ m ≤ 8
  · have ek : kdF (isK B j m) 11 0 = kAt B n p := by
      unfold kAt
      rw [← hj, ← hm]
    by_cases g2 : kAt B n p = -1
    · have tw : ∀ S, mA B n F o N ln p S → S 70 9 = 1 ∧ S 70 17 = nmW (fun u => B (j + u)) m ∧ S 70 7 = ((j + m : Nat) : Int) := fun S ha => by
        have z := tok_word hpn ha.2 hg (by rw [← hj, ← hm]; exact g1.1) (by rw [← hj, ← hm]; exact g1.2)
        rw [← hj, ← hm, em] at z
        exact z
      have wu := nmW_u g1.2 hl
      have rl : ∀ s, s < c → qRL (ln s) := fun s h => by
        obtain ⟨l, l1, l2, -, l4⟩ := hs.2.2.2 s (by omega)
        have := nmW_u l1.2 l2
        rw [l4]
        exact ⟨by omega, by omega⟩
      have L27 : ∀ S, mA B n F o N ln p S → M_nameTold_L27 qF (c : Int) 0 S = some (cI (∃ s, s < c ∧ ln s = nmW (fun u => B (j + u)) m) (qup (qup S 70 11 3) 70 12 (S 70 8)) S) := fun S ha => by
        have z := L27_s ha.1.2.2.2.2 ha.1.2.2.2.1 hc14 rl (by rw [(tw S ha).2.1]; exact ⟨by omega, by omega⟩) c qF 0 (by omega) (by unfold qF; omega) (fun s h => by omega)
        rw [(tw S ha).2.1] at z
        exact z
      have mhead : ∀ S, mA B n F o N ln p S → Option.bind (M_nameTold (c : Int) S) R = Option.bind (some (cI (∃ s, s < c ∧ ln s = nmW (fun u => B (j + u)) m) (qup (qup S 70 11 3) 70 12 (j : Int)) S)) (fun t => Option.bind (qk (qRb (t 70 11)) (if (t 70 11) ≤ 0 then (qk (qIx (c : Int) 14) (Option.bind (M_goOn (qup t 73 (Int.toNat (c : Int)) (t 70 17))) (fun q2232 => some q2232))) else some t)) R) := fun S ha => by
        rw [M_nameTold, (tw S ha).1, qk_r (by omega) (by omega), if_pos rfl, key_s hpn ha.2 hg]
        simp only [ob_sn]
        rw [g2, qk_r (by omega) (by omega), if_pos rfl]
        simp only [ob_sn]
        rw [L27 S ha, ha.2.1, ← hj]
        rfl
      have chead : ∀ S, cV B n F o N S → S 4 4 = (p : Int) → ∃ S3, f4 S S3 ∧ S3 4 4 = ((j + m : Nat) : Int) ∧ True := fun S a b => by
        obtain ⟨S1, S2, u1, u2, u3, u4, u5⟩ := head S a b
        exact ⟨S2, u5, u4, trivial⟩
      have cl : ∀ S, cV B n F o N S → S 4 4 = (p : Int) → ∃ S3, cV B n F o (nR B N c j m) S3 ∧ S3 4 4 = ((j + m : Nat) : Int) ∧ fcl S S3 ∧ (S3 4 5 = S 4 5 ∧ S3 4 6 = S 4 6) ∧ Reader_readName S = Option.bind (some (cI (∃ s, s < c ∧ ln s = nmW (fun u => B (j + u)) m) 1 0, S3)) (fun q268 => qk (qRb q268.1) (if q268.1 = 0 then some (1, q268.2) else (Option.bind (Reader_refuse 3 (j : Int) q268.2) (fun q271 => qk (qRb q271.1) (if q271.1 = 0 then some (0, q271.2) else some (1, q271.2)))))) := fun S a b => by
        obtain ⟨S1, S2, u1, u2, u3, u4, u5⟩ := head S a b
        have a2 := cV_4 a u5
        have e3 : S2 3 12 = c := by rw [← hc]; exact a2.2.1.2.2.2.2.1
        obtain ⟨S3, v1, v2, v3⟩ := nameNext_s (N := N) hb hc14 g1.2 (show j + m ≤ n by omega) hl a2.1 e3 a2.2.2.2
        have lk := lineKind_s hb a2.1 (show j + m ≤ n by omega)
        rw [ek, g2] at lk
        have e33 : S3 3 12 = c := by rw [v3 3 (by omega)]; exact e3
        have nt := nextTold_s hc14 e33 (fun s h u hu => by
          rw [v2]
          by_cases w : s = c
          · rw [w, nR_on hu]
            by_cases w2 : u < m
            · have := hl u w2
              rw [if_pos w2]
              exact ⟨by omega, by omega⟩
            · rw [if_neg w2]
              exact ⟨by omega, by omega⟩
          · rw [nR_off (by omega)]
            obtain ⟨l, l1, l2, l3, l4⟩ := hs.2.2.2 s (by omega)
            by_cases w2 : u < l
            · have := l2 u w2
              exact ⟨by omega, by omega⟩
            · rw [l3 u (by omega) hu]
              exact ⟨by omega, by omega⟩)
        have ep : (∃ s, s < c ∧ ∀ u, u < 8 → S3 34 (8 * s + u) = S3 34 (8 * c + u)) = (∃ s, s < c ∧ ln s = nmW (fun u => B (j + u)) m) := by
          refine propext (Iff.trans ?_ (told_iff hs hc g1.1 g1.2 hl))
          simp only [v2]
        rw [ep] at nt
        refine ⟨S3, ?_, by rw [v3 4 (by omega)]; exact u4, fcl_tr (f4_l u5) (fun d hd => v3 d (by omega)), by rw [v3 4 (by omega)]; exact ⟨u5.2 5 (by omega), u5.2 6 (by omega)⟩, ?_⟩
        · obtain ⟨c1, c2, c3, c4⟩ := a2
          refine ⟨⟨by rw [v3 4 (by omega)]; exact c1.1, by rw [v3 1 (by omega)]; exact c1.2⟩, ?_, by rw [v3 3 (by omega)]; exact c3, v2⟩
          unfold rQ at c2 ⊢
          rw [v3 25 (by omega), v3 3 (by omega), v3 26 (by omega), v3 27 (by omega), v3 28 (by omega), v3 29 (by omega), v3 30 (by omega), v3 31 (by omega), v3 32 (by omega), v3 33 (by omega)]
          exact c2
        · rw [Reader_readName, u1]
          simp only [ob_sn]
          rw [u3]
          simp only [ob_sn]
          rw [qk_r (by omega) (by omega), if_neg (by omega), qk_r (by omega) (by omega), if_neg (by omega), u2, lk]
          simp only [ob_sn]
          rw [qk_r (by omega) (by omega), if_pos trivial, v1]
          simp only [ob_sn]
          rw [nt]
          rfl
      by_cases T : ∃ s, s < c ∧ ln s = nmW (fun u => B (j + u)) m
      · refine Or.inl ⟨3, (j : Int), by omega, by omega, fun S hc' => ?_, fun S ha => ?_⟩
        · obtain ⟨S3, v1, v2, v3, v4, v5⟩ := cl S hc'.1 hc'.2
          refine ⟨qup (qup S3 4 5 3) 4 6 (j : Int), ?_, cF_up, fcl_tr v3 (gC_l (gC_up gC_rfl))⟩
          simp only
          rw [v5, cI_t T]
          simp only [ob_sn]
          rw [qk_r (by omega) (by omega), if_neg (by omega), refuse_s]
          rfl
        · obtain ⟨S', w1, w2, w3⟩ := hR _ _ _ (mF_fail (S := S) (k := 3) (q := (j : Int)) (by omega))
          refine ⟨S', ?_, w2, fml_tr (gM_l (gM_fail (by omega))) w3⟩
          simp only
          rw [mhead S ha, cI_t T]
          simp only [ob_sn]
          rw [(mF_fail (S := S) (k := 3) (q := (j : Int)) (by omega)).2.1, qk_r (by omega) (by omega), if_neg (by omega)]
          exact w1
      · refine RES_step (fun S hc' => ?_) (fun S ha => ?_) (hgo j m g1.1 g1.2 (by omega) hl ⟨⟨by omega, by omega⟩, Or.inl ((isL_iff _).mpr (by have := hl (m - 1) (by omega); rw [show j + m - 1 = j + (m - 1) by omega]; exact this))⟩)
        · obtain ⟨S3, v1, v2, v3, v4, v5⟩ := cl S hc'.1 hc'.2
          refine ⟨S3, ⟨v1, v2, fun u hu => by omega⟩, ?_, v3, v4.1, v4.2⟩
          rw [v5, cI_f T]
          rfl
        · have h0 := ha.1.2.2.2.2
          obtain ⟨m1, m2, m3, m4, m5⟩ := id ha.1
          have o70 : (qup S 73 c (S 70 17)) 70 = S 70 := qup_off (by omega)
          obtain ⟨S', w1, w2, w3⟩ := goOn_s hb (show j + m ≤ n by omega) (S := qup S 73 c (S 70 17)) ⟨by rw [o70]; exact m1.1, by rw [qup_off (by omega)]; exact m1.2⟩ (by rw [o70]; exact (tw S ha).2.2)
          refine ⟨S', ⟨mV_7 (S := qup S 73 c (S 70 17)) ⟨⟨by rw [o70]; exact m1.1, by rw [qup_off (by omega)]; exact m1.2⟩, by rw [qup_off (by omega)]; exact m2, by rw [o70]; exact m3, fun s => ?_, by rw [o70]; exact m5⟩ w3, w2⟩, ?_, fml_tr fml_73 (f7_l w3)⟩
          · rw [qup_on, m4, (tw S ha).2.1]
            rfl
          · rw [mhead S ha, cI_f T]
            simp only [ob_sn]
            rw [h0, qk_r (by omega) (by omega), if_pos (by omega), qk_ix (by omega) (by omega), Int.toNat_natCast, w1]
            rfl
    · refine Or.inl ⟨1, (j : Int), by omega, by omega, fun S hc' => ?_, fun S ha => ?_⟩
      · obtain ⟨S1, S2, u1, u2, u3, u4, u5⟩ := head S hc'.1 hc'.2
        have a2 := cV_4 hc'.1 u5
        have lk := lineKind_s hb a2.1 (show j + m ≤ n by omega)
        rw [ek] at lk
        refine ⟨qup (qup S2 4 5 1) 4 6 (j : Int), ?_, cF_up, fcl_tr (f4_l u5) (gC_l (gC_up gC_rfl))⟩
        simp only
        rw [Reader_readName, u1]
        simp only [ob_sn]
        rw [u3]
        simp only [ob_sn]
        rw [qk_r (by omega) (by omega), if_neg (by omega), qk_r (by omega) (by omega), if_neg (by omega), u2, lk]
        simp only [ob_sn]
        rw [qk_r (by omega) (by omega), if_neg g2, refuse_s]
        rfl
      · have z := tok_word hpn ha.2 hg (by rw [← hj, ← hm]; exact g1.1) (by rw [← hj, ← hm]; exact g1.2)
        obtain ⟨S', w1, w2, w3⟩ := mfl 1 S (by omega) ha.1.2.2.2.2
        refine ⟨S', ?_, w2, w3⟩
        simp only
        rw [M_nameTold, z.1, qk_r (by omega) (by omega), if_pos rfl, key_s hpn ha.2 hg]
        simp only [ob_sn]
        rw [qk_r (by omega) (by omega), if_neg g2, fail_0 ha.1.2.2.2.2, ha.2.1, ← hj, oa]
        exact w1
  · refine Or.inl ⟨1, (j : Int), by omega, by omega, fun S hc' => ?_, fun S ha => ?_⟩
    · obtain ⟨S1, S2, u1, u2, u3, u4, u5⟩ := head S hc'.1 hc'.2
      refine ⟨qup (qup S2 4 5 1) 4 6 (j : Int), ?_, cF_up, fcl_tr (f4_l u5) (gC_l (gC_up gC_rfl))⟩
      simp only
      rw [Reader_readName, u1]
      simp only [ob_sn]
      rw [u3]
      simp only [ob_sn]
      rw [qk_r (by omega) (by omega)]
      by_cases w : (m : Int) < 1
      · rw [if_pos w, u2, refuse_s]
        rfl
      · rw [if_neg w, qk_r (by omega) (by omega), if_pos (by omega), u2, refuse_s]
        rfl
    · have t9 := tok_9 ha.2
      have z := tok_noword hpn ha.2 (by rw [← hj, ← hm]; exact g1)
      obtain ⟨S', w1, w2, w3⟩ := mfl 1 S (by omega) ha.1.2.2.2.2
      refine ⟨S', ?_, w2, w3⟩
      simp only
      rw [M_nameTold, qk_r (by omega) (by omega), if_neg z, fail_0 ha.1.2.2.2.2, ha.2.1, ← hj, oa]
      exact w1
end PNA
