/-! ships -/
section PSH
variable {B : Nat → Int} {n : Nat} {F : Nat → Int} {o : Int} {N : Nat → Int} {ln : Nat → Int}
def sLo (k : Nat) : Int := if k = 0 then 1 else if k < 7 then 0 else 1
def sHi (k : Nat) : Int := if k = 0 then 400 else if k = 1 then 300 else if k = 2 then 300 else if k = 3 then 9999 else if k = 4 then 335 else if k = 5 then 999 else if k = 6 then 3 else 8
theorem nine {k : Nat} (h : k < 9) : k = 0 ∨ k = 1 ∨ k = 2 ∨ k = 3 ∨ k = 4 ∨ k = 5 ∨ k = 6 ∨ k = 7 ∨ k = 8 := by omega
theorem ship_b {k : Nat} (h : k < 9) : (0 ≤ sLo k ∧ sLo k ≤ 1) ∧ (3 ≤ sHi k ∧ sHi k ≤ 9999) := by
  rcases nine h with rfl | rfl | rfl | rfl | rfl | rfl | rfl | rfl | rfl <;> decide
theorem ship_lh {S : qSto} {k : Nat} (h : k < 9) : M_shipLow (k : Int) S = some (sLo k, S) ∧ M_shipHigh (k : Int) S = some (sHi k, S) := by
  rcases nine h with rfl | rfl | rfl | rfl | rfl | rfl | rfl | rfl | rfl <;> exact ⟨rfl, rfl⟩
theorem ship_c {S : qSto} {k : Nat} (h : k < 9) : Reader_leastNumber ((10 : Nat) : Int) (k : Int) S = some (if k = 8 then S 35 7 else sLo k, S) ∧ Heard_isToldAlready_35 ((10 : Nat) : Int) (k : Int) S = some (0, S) := by
  rcases nine h with rfl | rfl | rfl | rfl | rfl | rfl | rfl | rfl | rfl <;> exact ⟨rfl, rfl⟩
theorem ship_q : ∀ k : Nat, k < 9 → (qsl 3).getD ((qsl 1).getD 10 0 + (k : Int)).toNat 0 = sHi k ∧ (k : Int) < (qsl 0).getD 10 0 := by decide +kernel
def gA (F : Nat → Int) (c i : Nat) (a : Nat → Int) : Nat → Int := fun x => if 124 + 9 * c ≤ x ∧ x < 124 + 9 * c + i then a (x - (124 + 9 * c)) else F x
theorem gA_up {c i : Nat} {a : Nat → Int} {v : Int} : fU (gA F c i a) (124 + 9 * c + i) v = gA F c (i + 1) (fU a i v) := by
  funext x
  unfold gA fU
  by_cases g : x = 124 + 9 * c + i
  · rw [if_pos g, if_pos (by omega), if_pos (by omega)]
  · rw [if_neg g]
    dsimp only
    by_cases w : 124 + 9 * c ≤ x ∧ x < 124 + 9 * c + i
    · rw [if_pos w, if_pos (by omega), if_neg (by omega)]
    · rw [if_neg w, if_neg (by omega)]
theorem gA_0 {c : Nat} {a : Nat → Int} : gA F c 0 a = F := by
  funext x
  unfold gA
  rw [if_neg (by omega)]
theorem gA_on {c i w : Nat} {a : Nat → Int} (h : w < i) : gA F c i a (124 + 9 * c + w) = a w := by
  unfold gA
  rw [if_pos (by omega), Nat.add_sub_cancel_left]
theorem gA_off {c i x : Nat} {a : Nat → Int} (h : ¬ (124 + 9 * c ≤ x ∧ x < 124 + 9 * c + i)) : gA F c i a x = F x := if_neg h
def sTail (c : Nat) (S : qSto) : Option qSto := Option.bind (qk (qRb (S 70 11)) (if (S 70 11) = 0 then (qk (qIx ((124 + (9 * (c : Int))) + 8) 250) (qk (qIx ((124 + (9 * (c : Int))) + 7) 250) (qk (qRb (S 71 (Int.toNat ((124 + (9 * (c : Int))) + 8)))) (qk (qRb (S 71 (Int.toNat ((124 + (9 * (c : Int))) + 7)))) (if (S 71 (Int.toNat ((124 + (9 * (c : Int))) + 7))) ≤ (S 71 (Int.toNat ((124 + (9 * (c : Int))) + 8))) then some S else (Option.bind (M_fail 2 (S 70 13) S) (fun q2270 => some q2270))))))) else some S) : Option qSto) (fun t => mTail (qup t 71 9 ((c : Int) + 1)))
def sGo (f c i : Nat) (S : qSto) : Option qSto := Option.bind (M_shipLine_L35 f (124 + 9 * (c : Int)) (i : Int) S) (sTail c)
theorem sGo_s {f c i : Nat} {S : qSto} (hc : c < 14) (hi : i < 9) : sGo (f + 1) c i S = Option.bind (M_number (sLo i) (sHi i) S) (fun q => sGo f c (i + 1) (qup q.2 71 (124 + 9 * c + i) q.1)) := by
  have ix : ((124 + 9 * (c : Int)) + (i : Int)).toNat = 124 + 9 * c + i := by omega
  unfold sGo
  rw [M_shipLine_L35, qk_r (by omega) (by omega), if_neg (by omega), (ship_lh hi).1]
  simp only [ob_sn]
  rw [(ship_lh hi).2]
  simp only [ob_sn]
  cases M_number (sLo i) (sHi i) S with
  | none => rfl
  | some q =>
    simp only [ob_sn]
    rw [qk_ix (by omega) (by omega), ix]
    rfl
theorem sGo_9 {f c : Nat} {S : qSto} : sGo (f + 1) c 9 S = sTail c S := rfl
theorem sTail_f {c : Nat} {S : qSto} {k q : Int} (h : mF k q S) : ∃ S', sTail c S = some S' ∧ mF k q S' ∧ fml S S' := by
  have := h.1
  refine ⟨qup S 71 9 ((c : Int) + 1), ?_, mF_71 h, fml_71⟩
  rw [sTail, h.2.1, qk_r (by omega) (by omega), if_neg (by omega)]
  simp only [ob_sn]
  exact mTail_f (mF_71 h)
theorem sGo_f {c : Nat} (hc : c < 14) {k q : Int} : ∀ (r f i : Nat) (S : qSto), i + r = 9 → r < f → mF k q S → ∃ S', sGo f c i S = some S' ∧ mF k q S' ∧ fml S S'
  | 0, f + 1, i, S, e, _, h => by
    have e9 : i = 9 := by omega
    rw [e9, sGo_9]
    exact sTail_f h
  | r + 1, f + 1, i, S, e, hf, h => by
    obtain ⟨S', t1, t2, t3⟩ := sGo_f hc r f (i + 1) (qup S 71 (124 + 9 * c + i) (sLo i)) (by omega) (by omega) (mF_71 h)
    refine ⟨S', ?_, t2, fml_tr fml_71 t3⟩
    rw [sGo_s hc (by omega), number_f h]
    exact t1
theorem ship_nums (hb : hBy B n) (hs : hS F o N ln) {i0 c : Nat} (hc : F 9 = c) (hc14 : c < 14) (hnm : ∃ l, (1 ≤ l ∧ l ≤ 8) ∧ (∀ i, i < l → 97 ≤ N (8 * c + i) ∧ N (8 * c + i) ≤ 122) ∧ (∀ i, l ≤ i → i < 8 → N (8 * c + i) = 0) ∧ ln c = nmW (fun i => N (8 * c + i)) l) : ∀ (r i p f fm : Nat) (a : Nat → Int), i + r = 9 → hp B n p → i0 ≤ p → r < f → r < fm → (∀ u, u < i → sLo u ≤ a u ∧ a u ≤ sHi u) → (8 < i → a 7 ≤ a 8) → RES B n (F 10) i0 (cA B n F o N p i a) (cGo f 10 i) (mA B n (gA F c i a) o N ln p) (sGo fm c i)
  | 0, i, p, f, fm + 1, a, e, hpp, hip, hf, _, ha, h78 => by
    have e9 : i = 9 := by omega
    rw [e9] at ha h78 ⊢
    have a78 := h78 (by omega)
    have q6 : 0 ≤ F 6 ∧ F 6 ≤ 8 := hs.1.2.2.2.2.2.2.1
    have q7 : 0 ≤ F 7 ∧ F 7 ≤ 8 := hs.1.2.2.2.2.2.2.2.1
    have q8 : 0 ≤ F 8 ∧ F 8 ≤ 30 := hs.1.2.2.2.2.2.2.2.2.1
    have ix7 : ((124 + 9 * (c : Int)) + 7).toNat = 124 + 9 * c + 7 := by omega
    have ix8 : ((124 + 9 * (c : Int)) + 8).toNat = 124 + 9 * c + 8 := by omega
    have b7 := ha 7 (by omega)
    have b8 := ha 8 (by omega)
    have z7 := ship_b (k := 7) (by omega)
    have z8 := ship_b (k := 8) (by omega)
    obtain ⟨G, hG⟩ : ∃ G, G = fU (gA F c 9 a) 9 ((c : Int) + 1) := ⟨_, rfl⟩
    have ev : ∀ j, ¬ (124 + 9 * c ≤ j ∧ j < 124 + 9 * c + 9) → j ≠ 9 → G j = F j := fun j h1 h2 => by rw [hG, fU_off h2, gA_off h1]
    have gn : G 9 = (c : Int) + 1 := by rw [hG, fU_on]
    have gx : ∀ w, w < 9 → G (124 + 9 * c + w) = a w := fun w hw => by rw [hG, fU_off (by omega), gA_on hw]
    have g10 : F 10 = G 10 := (ev 10 (by omega) (by omega)).symm
    rw [g10]
    refine RES_step (Ac' := cA B n F o N p 9 a) (Gc' := cGo f 10 9) (Am' := mA B n G o N ln p) (Gm' := mTail) (fun S hc' => ⟨S, hc', rfl, fun _ _ => rfl, rfl, rfl⟩) (fun S hm => ⟨qup S 71 9 ((c : Int) + 1), ?_, ?_, fml_71⟩) ?_
    · obtain ⟨⟨m1, m2, m3, m4, m5⟩, ht⟩ := hm
      refine ⟨⟨⟨by rw [qup_off (by omega)]; exact m1.1, by rw [qup_off (by omega)]; exact m1.2⟩, fun u => ?_, by rw [qup_off (by omega)]; exact m3, fun s => ?_, by rw [qup_off (by omega)]; exact m5⟩, ?_⟩
      · rw [qup_on, m2, hG]
        rfl
      · rw [qup_off (by omega)]
        exact m4 s
      · unfold tok
        rw [qup_off (by omega)]
        exact ht
    · have e7 : S 71 (124 + 9 * c + 7) = a 7 := by rw [hm.1.2.1, gA_on (by omega)]
      have e8 : S 71 (124 + 9 * c + 8) = a 8 := by rw [hm.1.2.1, gA_on (by omega)]
      rw [sGo_9, sTail, hm.1.2.2.2.2, qk_r (by omega) (by omega), if_pos rfl, qk_ix (by omega) (by omega), qk_ix (by omega) (by omega), ix7, ix8, e7, e8, qk_r (by omega) (by omega), qk_r (by omega) (by omega), if_pos a78]
      rfl
    · refine RES_end hb hpp.1.2 hip (by omega) (by omega) (by omega) (by decide) (fun _ => ?_) (fun S hcv hn => ?_)
      · have hT := hs.1
        refine ⟨?_, hs.2.1, by rw [← g10]; exact hs.2.2.1, fun s h => ?_⟩
        · obtain ⟨h0, h1, h2, h3, h4, h5, h6, h7, h8, h9, hS', hC', hT', hG', hH'⟩ := hT
          unfold bT
          rw [ev 0 (by omega) (by omega), ev 1 (by omega) (by omega), ev 2 (by omega) (by omega), ev 3 (by omega) (by omega), ev 4 (by omega) (by omega), ev 5 (by omega) (by omega), ev 6 (by omega) (by omega), ev 7 (by omega) (by omega), ev 8 (by omega) (by omega), gn]
          refine ⟨h0, h1, h2, h3, h4, h5, h6, h7, h8, by omega, fun u hu => ?_, fun u hu => ?_, fun u hu => ?_, fun u hu => ?_, fun s hs' => ?_⟩
          · rw [ev _ (by omega) (by omega), ev _ (by omega) (by omega)]
            refine ⟨(hS' u hu).1, (hS' u hu).2.1, fun j hj => ?_⟩
            rw [ev _ (by omega) (by omega)]
            exact (hS' u hu).2.2 j hj
          · rw [ev _ (by omega) (by omega), ev _ (by omega) (by omega)]
            exact hC' u hu
          · rw [ev _ (by omega) (by omega), ev _ (by omega) (by omega)]
            exact hT' u hu
          · rw [ev _ (by omega) (by omega)]
            exact hG' u hu
          · by_cases w : s = c
            · have x0 := ha 0 (by omega)
              have x1 := ha 1 (by omega)
              have x2 := ha 2 (by omega)
              have x3 := ha 3 (by omega)
              have x4 := ha 4 (by omega)
              have x5 := ha 5 (by omega)
              have x6 := ha 6 (by omega)
              have y : ∀ k : Nat, k < 9 → sLo k = (if k = 0 then 1 else if k < 7 then 0 else 1) := fun k _ => rfl
              rw [w, gx 1 (by omega), gx 2 (by omega), gx 3 (by omega), gx 4 (by omega), gx 5 (by omega), gx 6 (by omega), gx 7 (by omega), gx 8 (by omega)]
              have g0 : G (124 + 9 * c) = a 0 := gx 0 (by omega)
              rw [g0]
              exact ⟨x0, x1, x2, x3, x4, x5, x6, b7.1, a78, b8.2⟩
            · rw [ev _ (by omega) (by omega), ev _ (by omega) (by omega), ev _ (by omega) (by omega), ev _ (by omega) (by omega), ev _ (by omega) (by omega), ev _ (by omega) (by omega), ev _ (by omega) (by omega), ev _ (by omega) (by omega), ev _ (by omega) (by omega)]
              exact hH' s (by omega)
        · by_cases w : s = c
          · rw [w]
            exact hnm
          · exact hs.2.2.2 s (by omega)
      · obtain ⟨c1, c2, c3, c4⟩ := id hcv
        obtain ⟨a0, a1, a2, a3, a4, a5, a6, a7, a8, a9⟩ := c2
        have e3 : S 3 12 = c := by rw [← hc]; exact a4
        have iy : ((c : Int) * 9).toNat = 9 * c := by omega
        have y1 : (qua S 33 (qcpy S 35 33 0 (9 * c) 9)) 3 12 = c := by rw [qua_off 3 (by omega), e3]
        obtain ⟨S', hS'⟩ : ∃ S', S' = qup (qua S 33 (qcpy S 35 33 0 (9 * c) 9)) 3 12 ((c : Int) + 1) := ⟨_, rfl⟩
        have yo : ∀ d, d ≠ 3 → d ≠ 33 → S' d = S d := fun d h1 h2 => by rw [hS', qup_off h1, qua_off d h2]
        have z3 : ∀ u, u ≠ 12 → S' 3 u = S 3 u := fun u hu => by rw [hS', qup_on, if_neg hu, qua_off 3 (by omega)]
        have zc : S' 3 12 = (c : Int) + 1 := by rw [hS', qup_on, if_pos rfl]
        have zx : ∀ u, S' 33 u = if 9 * c ≤ u ∧ u < 9 * c + 9 then S 35 (0 + (u - 9 * c)) else S 33 u := fun u => by rw [hS', qup_off (by omega), qua_on]; rfl
        refine ⟨S', ?_, ⟨⟨by rw [yo 4 (by omega) (by omega)]; exact c1.1, by rw [yo 1 (by omega) (by omega)]; exact c1.2⟩, ⟨fun u hu => ?_, by rw [z3 2 (by omega), ev 6 (by omega) (by omega)]; exact a1, by rw [z3 5 (by omega), ev 7 (by omega) (by omega)]; exact a2, by rw [z3 8 (by omega), ev 8 (by omega) (by omega)]; exact a3, by rw [zc, gn], fun u hu => ?_, fun u hu => ?_, fun u hu => ?_, fun u hu => ?_, fun s hs' w hw => ?_⟩, by rw [z3 1 (by omega)]; exact c3, fun u => ?_⟩, yo 4 (by omega) (by omega), fun d hd => yo d (by omega) (by omega)⟩
        · show Heard_take_35 10 S = _
          rw [Heard_take_35, qk_r (by omega) (by omega), if_pos (by omega), qk_r (by omega) (by omega), if_neg (by omega), qk_r (by omega) (by omega), if_neg (by omega), qk_r (by omega) (by omega), if_neg (by omega), qk_r (by omega) (by omega), if_neg (by omega), e3, iy, y1, ← hS', qk_of (decide_eq_true (by omega)), qk_of (decide_eq_true (by omega))]
        · rw [yo 25 (by omega) (by omega), ev _ (by omega) (by omega)]
          exact a0 u hu
        · rw [ev 6 (by omega) (by omega)] at hu
          rw [yo 26 (by omega) (by omega), yo 27 (by omega) (by omega), ev _ (by omega) (by omega), ev _ (by omega) (by omega)]
          exact a5 u hu
        · rw [ev 7 (by omega) (by omega)] at hu
          rw [yo 28 (by omega) (by omega), yo 29 (by omega) (by omega), ev _ (by omega) (by omega), ev _ (by omega) (by omega)]
          exact a6 u hu
        · rw [ev 8 (by omega) (by omega)] at hu
          rw [yo 30 (by omega) (by omega), yo 31 (by omega) (by omega), ev _ (by omega) (by omega), ev _ (by omega) (by omega)]
          exact a7 u hu
        · rw [yo 32 (by omega) (by omega), ev _ (by omega) (by omega)]
          exact a8 u hu
        · rw [gn] at hs'
          rw [zx]
          by_cases z : s = c
          · rw [z, if_pos (by omega), gx w hw, show 0 + (9 * c + w - 9 * c) = w by omega]
            exact hn w hw
          · rw [if_neg (by omega), ev _ (by omega) (by omega)]
            exact a9 s (by omega) w hw
        · rw [yo 34 (by omega) (by omega)]
          exact c4 u
  | r + 1, i, p, f, fm + 1, a, e, hpp, hip, hf, hfm, ha, h78 => by
    have i9 : i < 9 := by omega
    have bb := ship_b i9
    have lo7 : i = 8 → 1 ≤ a 7 ∧ a 7 ≤ 8 := fun h => by
      have := ha 7 (by omega)
      exact this
    have l8 : sLo 8 = 1 := rfl
    obtain ⟨lo, hlo⟩ : ∃ lo : Int, lo = if i = 8 then a 7 else sLo i := ⟨_, rfl⟩
    have lb : sLo i ≤ lo ∧ lo ≤ 8 := by
      rw [hlo]
      by_cases g : i = 8
      · have := lo7 g
        rw [if_pos g, g]
        omega
      · rw [if_neg g]
        omega
    have eG : sGo (fm + 1) c i = fun S => Option.bind (M_number (sLo i) (sHi i) S) (fun q => (fun x S => sGo fm c (i + 1) (qup S 71 (124 + 9 * c + i) x)) q.1 q.2) := by
      funext S
      exact sGo_s hc14 i9
    rw [eG]
    refine RES_num (lo := lo) (hi := sHi i) (lo' := sLo i) (hi' := sHi i) (t := False) (H := fun x S => sGo fm c (i + 1) (qup S 71 (124 + 9 * c + i) x)) hb hpp (by omega) (by omega) i9 (ship_q i i9).2 (fun S' h => ?_) ⟨by omega, by omega⟩ (ship_q i i9).1 ⟨by omega, by omega⟩ ⟨by omega, by omega⟩ ⟨by omega, by omega⟩ (fun _ _ _ S3 _ _ => by rw [cI_f (fun z => z)]; exact (ship_c i9).2) (fun x S kk q hF => ?_) (fun _ a b => ⟨by omega, b⟩) (fun ok nin => ?_) (fun _ _ _ z => z.elim) (fun ok v1 v2 _ hpp2 hlt => ?_)
    · rw [(ship_c i9).1, hlo]
      by_cases g : i = 8
      · rw [if_pos g, if_pos g, h 7 (by omega)]
      · rw [if_neg g, if_neg g]
    · obtain ⟨S', t1, t2, t3⟩ := sGo_f hc14 r fm (i + 1) (qup S 71 (124 + 9 * c + i) x) (by omega) (by omega) (mF_71 hF)
      exact ⟨S', t1, t2, fml_tr fml_71 t3⟩
    · by_cases g : sLo i ≤ vN B n p ∧ vN B n p ≤ sHi i
      · right
        intro S hm h13
        have g8 : i = 8 := by
          by_cases w : i = 8
          · exact w
          · rw [if_neg w] at hlo
            omega
        rw [if_pos g8] at hlo
        have b7 := lo7 g8
        have ix7 : ((124 + 9 * (c : Int)) + 7).toNat = 124 + 9 * c + 7 := by omega
        have ix8 : ((124 + 9 * (c : Int)) + 8).toNat = 124 + 9 * c + 8 := by omega
        have hm1 := mA_up (j := 124 + 9 * c + 8) (v := vN B n p) hm (by omega)
        have e7 : (qup S 71 (124 + 9 * c + 8) (vN B n p)) 71 (124 + 9 * c + 7) = a 7 := by rw [qup_on, if_neg (by omega), hm.1.2.1, gA_on (by omega)]
        have e8 : (qup S 71 (124 + 9 * c + 8) (vN B n p)) 71 (124 + 9 * c + 8) = vN B n p := by rw [qup_on, if_pos rfl]
        have e13 : (qup S 71 (124 + 9 * c + 8) (vN B n p)) 70 13 = ((upto isB B n p : Nat) : Int) := by rw [qup_off (by omega)]; exact h13
        have e0 : (qup S 71 (124 + 9 * c + 8) (vN B n p)) 70 11 = 0 := hm1.1.2.2.2.2
        have vf : mF 2 ((upto isB B n p : Nat) : Int) (qup (qup (qup S 71 (124 + 9 * c + 8) (vN B n p)) 70 11 2) 70 12 ((upto isB B n p : Nat) : Int)) := mF_fail (by omega)
        refine ⟨_, ?_, mF_71 (j := 9) (v := (c : Int) + 1) vf, fml_tr fml_71 (fml_tr (gM_l (gM_fail (by omega))) fml_71)⟩
        have f1 : ∃ f', fm = f' + 1 := ⟨fm - 1, by omega⟩
        obtain ⟨f', hf'⟩ := f1
        rw [hf', g8, sGo_9, sTail, e0, qk_r (by omega) (by omega), if_pos rfl, qk_ix (by omega) (by omega), qk_ix (by omega) (by omega), ix7, ix8, e7, e8, qk_r (by omega) (by omega), qk_r (by omega) (by omega), if_neg (by rw [g8] at lb g nin; omega), fail_0 e0, e13]
        simp only [ob_sn]
        exact mTail_f (mF_71 vf)
      · exact Or.inl g
    · refine RES_step (Ac' := cA B n F o N (eD B n p) (i + 1) (fU a i (vN B n p))) (Gc' := cGo (f - 1) 10 (i + 1)) (Am' := mA B n (gA F c (i + 1) (fU a i (vN B n p))) o N ln (eD B n p)) (Gm' := sGo fm c (i + 1)) (fun S hc' => ⟨S, hc', rfl, fun _ _ => rfl, rfl, rfl⟩) (fun S hm => ⟨qup S 71 (124 + 9 * c + i) (vN B n p), by rw [← gA_up]; exact mA_up hm.1 (by omega), rfl, fml_71⟩) ?_
      refine ship_nums hb hs hc hc14 hnm r (i + 1) (eD B n p) (f - 1) fm (fU a i (vN B n p)) (by omega) hpp2 (by omega) (by omega) (by omega) (fun u hu => ?_) (fun h => ?_)
      · by_cases w : u = i
        · rw [w, fU_on]
          exact ⟨by omega, v2⟩
        · rw [fU_off w]
          exact ha u (by omega)
      · have g8 : i = 8 := by omega
        rw [if_pos g8] at hlo
        rw [g8, fU_off (by omega), fU_on, ← hlo]
        exact v1
theorem rl_10 (hb : hBy B n) {i : Nat} (hi : i ≤ n) (hk : kAt B n i = 10) {S : qSto} (h : cV B n F o N S) (h4 : S 4 4 = ((upto isB B n i : Nat) : Int)) {b : Int} (hbb : b = 0 ∨ b = 1) (hfull : ∀ S1, cV B n F o N S1 → Heard_isFull 10 S1 = some (b, S1)) : ∃ S1, S1 4 4 = ((upto isL B n (upto isB B n i) : Nat) : Int) ∧ f4 S S1 ∧ cV B n F o N S1 ∧ Reader_readLine S = (if b = 0 then (Option.bind (Reader_readName S1) (fun q277 => qk (qRb q277.1) (if q277.1 = 0 then some (0, q277.2) else cGo qF 10 0 q277.2))) else some (0, qup (qup S1 4 5 4) 4 6 ((upto isB B n i : Nat) : Int))) := by
  obtain ⟨S1, t1, t2, t3, t4, t5⟩ := rl_head hb hi h h4
  have st : Heard_isSetAlready 10 S1 = some (0, S1) := set_n (k := 10) (by omega) (by omega)
  refine ⟨S1, t3, t4, t5, ?_⟩
  rw [Reader_readLine, t1]
  simp only [ob_sn]
  rw [t2]
  simp only [ob_sn]
  rw [hk, qk_r (by omega) (by omega), if_neg (by omega), st]
  simp only [ob_sn]
  rw [qk_r (by omega) (by omega), if_pos trivial, hfull S1 t5]
  simp only [ob_sn]
  rw [qk_r (by omega) (by omega), qk_r (by omega) (by omega), if_pos trivial, h4]
  rfl
theorem line_ship (hb : hBy B n) (hs : hS F o N ln) {i : Nat} (hi : i ≤ n) (hg : ¬ gD B (upto isB B n i)) (hk : kAt B n i = 10) : lBad B n F o N ln i ∨ lOk B n F o N ln i := by
  apply RES_line
  have h12 := hb.1
  have hne : kAt B n i ≠ -1 := by omega
  obtain ⟨kw1, kw2, kw3, kw4⟩ := kAt_w hi hne
  have ub := upto_b (P := isB) (B := B) hi
  have b9 : 0 ≤ F 9 ∧ F 9 ≤ 14 := hs.1.2.2.2.2.2.2.2.2.2.1
  obtain ⟨c, hc⟩ : ∃ c : Nat, F 9 = c := ⟨(F 9).toNat, by omega⟩
  have hL : 0 < upto isL B n (upto isB B n i) ∧ isL (B (upto isL B n (upto isB B n i) - 1)) = true := ⟨by omega, upto_in (P := isL) ub.2 (by omega) (by omega)⟩
  have eM : ∀ S, tok B n i S → M_line S = Option.bind (M_shipLine S) mTail := fun S ht => by
    rw [M_line_e hi ht hg, hk]
    rw [if_neg (by omega), if_pos (by omega), if_neg (by omega), if_neg (by omega), if_neg (by omega), if_neg (by omega)]
    rw [b_some]
  have full : ∀ S1, cV B n F o N S1 → Heard_isFull 10 S1 = some (if c < 14 then 0 else 1, S1) := fun S1 h1 => by
    have e3 : S1 3 12 = c := by rw [← hc]; exact h1.2.1.2.2.2.2.1
    rw [Heard_isFull, qk_r (by omega) (by omega), if_neg (by omega), if_neg (by omega), if_neg (by omega), if_neg (by omega), if_pos rfl, e3, qk_r (by omega) (by omega)]
    by_cases w : c < 14
    · rw [if_pos (by omega), if_pos w]
    · rw [if_neg (by omega), if_neg w]
  by_cases w : c < 14
  · refine RES_step (Ac' := fun S => cV B n F o N S ∧ S 4 4 = ((upto isL B n (upto isB B n i) : Nat) : Int)) (Gc' := fun S => Option.bind (Reader_readName S) (fun q277 => qk (qRb q277.1) (if q277.1 = 0 then some (0, q277.2) else cGo qF 10 0 q277.2))) (Am' := mA B n F o N ln (upto isL B n (upto isB B n i))) (Gm' := fun S => Option.bind (M_nameTold (c : Int) S) (sGo qF c 0)) (fun S h => ?_) (fun S h => ?_) ?_
    · obtain ⟨S1, t1, t2, t3, t4⟩ := rl_10 hb hi hk h.1 h.2 (b := if c < 14 then 0 else 1) (by split <;> simp) full
      rw [if_pos w, if_pos rfl] at t4
      exact ⟨S1, ⟨t3, t1⟩, t4, f4_l t2, t2.2 5 (by omega), t2.2 6 (by omega)⟩
    · obtain ⟨S1, u1, u2, u3⟩ := begins_ok hb (c := 9) (mx := 14) hi hne (by omega) h.1 h.2 (by rw [hc]; omega) ⟨by omega, by omega⟩ ⟨by omega, by omega⟩
      have u1' : M_begins 9 14 S = some (1, S1) := u1
      refine ⟨S1, u2, ?_, u3⟩
      have e9 : S1 71 9 = c := by rw [u2.1.2.1, hc]
      rw [eM S h.2, M_shipLine, u1']
      simp only [ob_sn]
      rw [qk_r (by omega) (by omega), if_neg (by omega)]
      simp only [e9]
      cases M_nameTold (c : Int) S1 with
      | none => rfl
      | some t =>
        simp only [ob_sn]
        unfold sGo
        show Option.bind (Option.bind (M_shipLine_L35 qF (124 + 9 * (c : Int)) 0 t) _) mTail = Option.bind (M_shipLine_L35 qF (124 + 9 * (c : Int)) 0 t) (sTail c)
        cases M_shipLine_L35 qF (124 + 9 * (c : Int)) 0 t with
        | none => rfl
        | some q =>
          simp only [ob_sn]
          rw [sTail]
          cases (qk (qRb (q 70 11)) (if (q 70 11) = 0 then (qk (qIx ((124 + (9 * (c : Int))) + 8) 250) (qk (qIx ((124 + (9 * (c : Int))) + 7) 250) (qk (qRb (q 71 (Int.toNat ((124 + (9 * (c : Int))) + 8)))) (qk (qRb (q 71 (Int.toNat ((124 + (9 * (c : Int))) + 7)))) (if (q 71 (Int.toNat ((124 + (9 * (c : Int))) + 7))) ≤ (q 71 (Int.toNat ((124 + (9 * (c : Int))) + 8))) then some q else (Option.bind (M_fail 2 (q 70 13) q) (fun q2270 => some q2270))))))) else some q) : Option qSto) with
          | none => rfl
          | some t => rfl
    · refine RES_name hb hs kw3 hL hc w (fun S kk q hf => sGo_f w 9 qF 0 S (by omega) (by unfold qF; omega) hf) (fun j m h1 h8 hpj hl hpp => ?_)
      have hs' : hS F o (nR B N c j m) (fU ln c (nmW (fun u => B (j + u)) m)) := ⟨hs.1, hs.2.1, hs.2.2.1, fun s h => by
        obtain ⟨l, l1, l2, l3, l4⟩ := hs.2.2.2 s h
        refine ⟨l, l1, fun u hu => by rw [nR_off (by omega)]; exact l2 u hu, fun u hu h8 => by rw [nR_off (by omega)]; exact l3 u hu h8, ?_⟩
        rw [fU_off (by omega), l4]
        exact nmW_cong l (fun u hu => by
          show N (8 * s + u) = nR B N c j m (8 * s + u)
          rw [nR_off (by omega)])⟩
      have z := ship_nums (i0 := i) hb hs' hc w ⟨m, ⟨h1, h8⟩, fun u hu => by rw [nR_on (by omega), if_pos hu]; exact hl u hu, fun u hu h => by rw [nR_on h, if_neg (by omega)], by
        rw [fU_on]
        exact nmW_cong m (fun u hu => by
          show B (j + u) = nR B N c j m (8 * c + u)
          rw [nR_on (by omega), if_pos hu])⟩ 9 0 (j + m) qF qF (fun _ => 0) (by omega) hpp (by omega) (by unfold qF; omega) (by unfold qF; omega) (fun u hu => by omega) (fun h => by omega)
      rw [gA_0] at z
      exact z
  · refine Or.inl ⟨4, ((upto isB B n i : Nat) : Int), by omega, by omega, fun S h => ?_, fun S h => ?_⟩
    · obtain ⟨S1, t1, t2, t3, t4⟩ := rl_10 hb hi hk h.1 h.2 (b := if c < 14 then 0 else 1) (by split <;> simp) full
      rw [if_neg w, if_neg (by omega)] at t4
      exact ⟨_, t4, cF_up, fcl_tr (f4_l t2) (gC_l (gC_up gC_rfl))⟩
    · obtain ⟨S', u1, u2, u3⟩ := begins_full (c := 9) (mx := 14) (by omega) h.1 h.2 (by rw [hc]; omega) ⟨by omega, by omega⟩
      have u1' : M_begins 9 14 S = some (0, S') := u1
      refine ⟨S', ?_, u2, u3⟩
      rw [eM S h.2, M_shipLine, u1']
      simp only [ob_sn]
      rw [qk_r (by omega) (by omega), if_pos trivial]
      exact mTail_f u2
end PSH
