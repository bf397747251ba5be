/-! best, four -/
section PBE
variable {T lev : Nat → Int} {Y : qY}
theorem findsFour_L (hB : bY T lev Y) : ∀ (j n i : Nat) (S : qSto), (i : Int) + j = T 9 → j < n → iT S T lev → mY S T lev Y → S 70 37 = (sFst Y i).length → (∀ k, k < (sFst Y i).length → S 89 k = ((sFst Y i).getD k 0 : Nat)) → ∃ S', M_findsFour_L7 n (i : Int) S = some S' ∧ S' 70 37 = (sFour T Y).length ∧ (∀ k, k < (sFour T Y).length → S' 89 k = ((sFour T Y).getD k 0 : Nat)) ∧ (∀ c, c ≠ 70 → c ≠ 89 → S' c = S c) ∧ ∀ u, u ≠ 37 → S' 70 u = S 70 u
  | 0, n + 1, i, S, e, _, hI, hm, h1, h2 => by
    have b9 := bT_n hI.1
    have e1 := hI.2.2.1 9
    rw [M_findsFour_L7]
    simp (disch := omega) only [qk_r, e1, if_pos (show T 9 ≤ (i : Int) by omega)]
    unfold sFour sN
    rw [show (T 9).toNat = i by omega]
    exact ⟨S, rfl, h1, h2, fun c _ _ => rfl, fun _ _ => rfl⟩
  | j + 1, n + 1, i, S, e, hn, hI, hm, h1, h2 => by
    have b9 := bT_n hI.1
    have e1 := hI.2.2.1 9
    obtain ⟨l4, l5, l6⟩ := sFst_ok (Y := Y) i
    rw [M_findsFour_L7]
    simp (disch := omega) only [qk_r, e1, if_neg (show ¬ T 9 ≤ (i : Int) by omega), h1]
    by_cases g : 4 ≤ ((sFst Y i).length : Int)
    · rw [if_pos g]
      have ef : sFour T Y = sFst Y i := by
        unfold sFour sN
        rw [show (T 9).toNat = i + (j + 1) by omega]
        exact sFst_full (by omega) (j + 1)
      rw [ef]
      exact ⟨S, rfl, h1, h2, fun c _ _ => rfl, fun _ _ => rfl⟩
    · rw [if_neg g, M_stays_s hB hm hI.1 (s := i) (by omega)]
      simp only [ob_some, ite01_r, ite01_e]
      by_cases gk : 0 < Y.2.2 i
      · rw [if_pos gk]
        simp only [ob_some]
        have es : sFst Y (i + 1) = sFst Y i := by
          rw [sFst, if_neg (by omega)]
        exact findsFour_L hB j n (i + 1) S (by omega) (by omega) hI hm (by rw [es]; exact h1) (by rw [es]; exact h2)
      · have es : sFst Y (i + 1) = sFst Y i ++ [i] := by
          rw [sFst, if_pos ⟨by omega, by omega⟩]
        have e37 : (qup S 89 (sFst Y i).length (i : Int)) 70 37 = (sFst Y i).length := by rw [qup_off (by omega), h1]
        rw [if_neg gk, h1, qk_ix (by omega) (by omega), Int.toNat_natCast, e37]
        simp only [ob_some]
        have o1 : ∀ c, c ≠ 70 → c ≠ 89 → (qup (qup S 89 (sFst Y i).length (i : Int)) 70 37 (((sFst Y i).length : Int) + 1)) c = S c := fun c h1 h2 => by rw [qup_off h1, qup_off h2]
        have o7 : ∀ u, (qup (qup S 89 (sFst Y i).length (i : Int)) 70 37 (((sFst Y i).length : Int) + 1)) 70 u = if u = 37 then ((sFst Y i).length : Int) + 1 else S 70 u := fun u => by rw [qup_on, qup_off (show (70 : Nat) ≠ 89 by omega)]
        have o9 : ∀ k, (qup (qup S 89 (sFst Y i).length (i : Int)) 70 37 (((sFst Y i).length : Int) + 1)) 89 k = if k = (sFst Y i).length then (i : Int) else S 89 k := fun k => by rw [qup_off (by omega), qup_on]
        generalize (qup (qup S 89 (sFst Y i).length (i : Int)) 70 37 (((sFst Y i).length : Int) + 1)) = S3 at o1 o7 o9
        obtain ⟨S', t1, t2, t3, t4, t5⟩ := findsFour_L hB j n (i + 1) S3 (by omega) (by omega) (iT_off hI (fun c hc => o1 c (by omega) (by omega))) (mY_off hm (fun c hc => o1 c (by omega) (by omega))) (by rw [o7, if_pos rfl, es]; simp) (by
          intro k hk
          rw [es] at hk ⊢
          have hk' : k < (sFst Y i).length + 1 := by simpa using hk
          rw [o9]
          by_cases w : k = (sFst Y i).length
          · have eg : (sFst Y i ++ [i]).getD k 0 = i := by
              rw [w, List.getD_eq_getElem?_getD, List.getElem?_append_right (by omega)]
              simp
            rw [if_pos w, eg]
          · have eg : (sFst Y i ++ [i]).getD k 0 = (sFst Y i).getD k 0 := by
              rw [List.getD_eq_getElem?_getD, List.getElem?_append_left (by omega), ← List.getD_eq_getElem?_getD]
            rw [if_neg w, eg]
            exact h2 k (by omega))
        exact ⟨S', t1, t2, t3, fun c h1 h2 => (t4 c h1 h2).trans (o1 c h1 h2), fun u hu => by rw [t5 u hu, o7, if_neg hu]⟩
theorem findsFour_s {S : qSto} (hI : iT S T lev) (hB : bY T lev Y) (hm : mY S T lev Y) : ∃ S', M_findsFour S = some S' ∧ S' 70 37 = (sFour T Y).length ∧ (∀ k, k < (sFour T Y).length → S' 89 k = ((sFour T Y).getD k 0 : Nat)) ∧ (∀ c, c ≠ 70 → c ≠ 89 → S' c = S c) ∧ ∀ u, u ≠ 37 → S' 70 u = S 70 u := by
  have b9 := bT_n hI.1
  obtain ⟨S', t1, t2, t3, t4, t5⟩ := findsFour_L hB (sN T) qF 0 (qup S 70 37 0) (by unfold sN; omega) (by unfold qF sN; omega) (iT_off hI (fun c hc => qup_off (by omega))) (mY_off hm (fun c hc => qup_off (by omega))) (by rw [qup_on, if_pos rfl]; rfl) (fun k hk => absurd hk (by simp [sFst]))
  have t1' : M_findsFour_L7 qF 0 (qup S 70 37 0) = some S' := t1
  exact ⟨S', by rw [M_findsFour, t1']; rfl, t2, t3, fun c h1 h2 => by rw [t4 c h1 h2, qup_off h1], fun u hu => by rw [t5 u hu, qup_on, if_neg hu]⟩
theorem turn_L : ∀ (j n i : Nat) (S : qSto), i + j = 4 → j < n → (∀ k, k < i → S 90 k = k) → ∃ S', M_laysFour_L16 n (i : Int) S = some S' ∧ fO 90 S S' ∧ ∀ k, k < 4 → S' 90 k = k
  | 0, n + 1, i, S, e, _, h => by
    rw [M_laysFour_L16]
    simp (disch := omega) only [qk_r, if_pos (show (4 : Int) ≤ (i : Int) by omega)]
    exact ⟨S, rfl, fun c _ => rfl, fun k hk => h k (by omega)⟩
  | j + 1, n + 1, i, S, e, hn, h => by
    rw [M_laysFour_L16]
    simp (disch := omega) only [qk_r, qk_ix, if_neg (show ¬ (4 : Int) ≤ (i : Int) by omega), Int.toNat_natCast]
    obtain ⟨S', t1, t2, t3⟩ := turn_L j n (i + 1) (qup S 90 i (i : Int)) (by omega) (by omega) (fun k hk => by
      rw [qup_on]
      split
      · next q => rw [q]
      · exact h k (by omega))
    exact ⟨S', t1, fun c hc => (t2 c hc).trans (qup_off hc), t3⟩
/-- the reference's cells while orders are tried -/
def uS (S : qSto) (l : List Nat) : Prop := S 70 37 = l.length ∧ ∀ k, k < l.length → S 89 k = (l.getD k 0 : Nat)
theorem tries_L {l : List Nat} {Y0 : qY} (hT : bT T) (hl : lOK T Y0 l) {p : List Nat} (hp : p.length = l.length) (hn0 : p.Nodup) (hlt : ∀ i ∈ p, i < l.length) : ∀ (rest pre : List Nat) (n : Nat) (a : qY × Int × Int) (S : qSto), p = pre ++ rest → rest.length < n → sE T lev Y0 l pre a → iT S T lev → mY S T lev a.1 → uS S l → rU S p → ∃ S', M_tries_L6 n a.2.1 a.2.2 (pre.length : Int) S = some ((fEv T lev l a rest).2.1, (fEv T lev l a rest).2.2, S') ∧ mY S' T lev (fEv T lev l a rest).1 ∧ fM S S' ∧ sE T lev Y0 l p (fEv T lev l a rest)
  | [], pre, n + 1, a, S, e, _, he, hI, hm, hu, hr => by
    have hl4 := hl.1
    have e' : p = pre := by rw [e, List.append_nil]
    have e4 : pre.length ≤ 4 := by rw [← e']; omega
    rw [M_tries_L6]
    simp (disch := omega) only [qk_r, hu.1, if_pos (show (l.length : Int) ≤ (pre.length : Int) by rw [← e']; omega)]
    rw [e']
    exact ⟨S, rfl, hm, fM_rfl, he⟩
  | i :: rest, pre, n + 1, a, S, e, hn, he, hI, hm, hu, hr => by
    have hl4 := hl.1
    have hlen : p.length = pre.length + (rest.length + 1) := by rw [e]; simp
    have hi : i < l.length := hlt i (by rw [e]; simp)
    have hni : i ∉ pre := fun q => by
      rw [e, List.nodup_append] at hn0
      exact hn0.2.2 i q i List.mem_cons_self rfl
    have hs := hl.2.2.1 _ (getD_mem hi)
    have h0 := he.2.2.2.1 i hi hni
    have b9 := bT_n hT
    have e90 : S 90 pre.length = (i : Int) := by
      have := hr pre.length (by omega)
      rw [this, e, List.getD_eq_getElem?_getD, List.getElem?_append_right (by omega)]
      simp
    have e89 := hu.2 i hi
    have d := fd_orM hI he.1 hm he.2.1.1 hs h0
    have hst := sE_step hT hl he hi hni d
    obtain ⟨S1, v1, v2, v3⟩ := layM_s hI he.1 hm he.2.1.1 hs h0
    obtain ⟨z1, z2, z3, z4, z5, z6⟩ := yB_okD hT he.1 he.2.1 hs h0 d
    have hI1 := fM_iT hI v2
    have ef : fEv T lev l a (i :: rest) = fEv T lev l (fStep T lev l a i) rest := rfl
    have hu1 : uS S1 l := by
      unfold uS
      rw [v2.1 89 (by omega), v2.2 37 (by omega) (by omega)]
      exact hu
    have hr1 : rU S1 p := by
      unfold rU
      rw [v2.1 90 (by omega)]
      exact hr
    have e5 := he.2.2.2.2.1
    have e6 := he.2.2.2.2.2
    have hpl : ((pre ++ [i]).length : Int) = (pre.length : Int) + 1 := by simp
    have step : ∃ S2, Option.bind (if sB T lev a.1 (l.getD i 0) = 0 then some (a.2.1 + 1, a.2.2, S1) else (Option.bind (M_costOf ((l.getD i 0 : Nat) : Int) S1) (fun q3541 => some (a.2.1, a.2.2 + q3541.1, q3541.2))) : Option (Int × Int × qSto)) (fun t3543 => M_tries_L6 n t3543.1 t3543.2.1 ((pre.length : Int) + 1) t3543.2.2) = some ((fEv T lev l (fStep T lev l a i) rest).2.1, (fEv T lev l (fStep T lev l a i) rest).2.2, S2) ∧ mY S2 T lev (fEv T lev l (fStep T lev l a i) rest).1 ∧ fM S1 S2 ∧ sE T lev Y0 l p (fEv T lev l (fStep T lev l a i) rest) := by
      have hm1 : mY S1 T lev (fStep T lev l a i).1 := by
        unfold fStep
        rcases z6 with q | q
        · rw [if_neg (by omega)]
          rcases d with w | ⟨k, t, x, w⟩
          · rw [yB_N w] at v3
            exact v3
          · rw [sB_S w] at q
            omega
        · rw [if_pos q]
          exact v3
      obtain ⟨S2, t1, t2, t3, t4⟩ := tries_L hT hl hp hn0 hlt rest (pre ++ [i]) n (fStep T lev l a i) S1 (by rw [e]; simp) (by simpa using hn) hst hI1 hm1 hu1 hr1
      rw [hpl] at t1
      refine ⟨S2, ?_, t2, t3, t4⟩
      rcases z6 with q | q
      · have fs : fStep T lev l a i = (a.1, a.2.1 + 1, a.2.2) := by
          unfold fStep
          rw [if_neg (by omega)]
        rw [q, if_pos rfl]
        simp only [ob_some]
        rw [fs] at t1 ⊢
        exact t1
      · have fs : fStep T lev l a i = (yB T lev a.1 (l.getD i 0), a.2.1, a.2.2 + sCost T lev (yB T lev a.1 (l.getD i 0)) (l.getD i 0)) := by
          unfold fStep
          rw [if_pos q]
        rw [q, if_neg (by omega), M_costOf_s hI1 z1 v3 hs (z5.mpr q)]
        simp only [ob_some]
        rw [fs] at t1 ⊢
        exact t1
    obtain ⟨S2, t1, t2, t3, t4⟩ := step
    refine ⟨S2, ?_, by rw [ef]; exact t2, fM_tr v2 t3, by rw [ef]; exact t4⟩
    rw [M_tries_L6]
    simp (disch := omega) only [qk_r, qk_ix, hu.1, if_neg (show ¬ (l.length : Int) ≤ (pre.length : Int) by omega), Int.toNat_natCast, e90, e89, v1, ob_some]
    exact t1
theorem bestRow_L {l p : List Nat} (hl4 : l.length ≤ 4) (hp : p.length = l.length) (hlt : ∀ i ∈ p, i < l.length) : ∀ (j n i : Nat) (S : qSto), i + j = l.length → j < n → uS S l → rU S p → (∀ k, k < i → S 91 k = (l.getD (p.getD k 0) 0 : Nat)) → ∃ S', M_tries_L109 n (i : Int) S = some S' ∧ fO 91 S S' ∧ ∀ k, k < l.length → S' 91 k = (l.getD (p.getD k 0) 0 : Nat)
  | 0, n + 1, i, S, e, _, hu, hr, h => by
    rw [M_tries_L109]
    simp (disch := omega) only [qk_r, hu.1, if_pos (show (l.length : Int) ≤ (i : Int) by omega)]
    exact ⟨S, rfl, fun c _ => rfl, fun k hk => h k (by omega)⟩
  | j + 1, n + 1, i, S, e, hn, hu, hr, h => by
    have e90 := hr i (by omega)
    have hpi : p.getD i 0 < l.length := hlt _ (getD_mem (by omega))
    have e89 := hu.2 _ hpi
    rw [M_tries_L109]
    simp (disch := omega) only [qk_r, qk_ix, hu.1, if_neg (show ¬ (l.length : Int) ≤ (i : Int) by omega), Int.toNat_natCast, e90, e89]
    obtain ⟨S', t1, t2, t3⟩ := bestRow_L hl4 hp hlt j n (i + 1) (qup S 91 i ((l.getD (p.getD i 0) 0 : Nat) : Int)) (by omega) (by omega) (by
      unfold uS
      rw [qup_off (show (70 : Nat) ≠ 91 by omega), qup_off (show (89 : Nat) ≠ 91 by omega)]
      exact hu) (by
      unfold rU
      rw [qup_off (show (90 : Nat) ≠ 91 by omega)]
      exact hr) (fun k hk => by
      rw [qup_on]
      split
      · next q => rw [q]
      · exact h k (by omega))
    exact ⟨S', t1, fun c hc => (t2 c hc).trans (qup_off hc), t3⟩
/-- the best one so far, as the reference has it -/
def bM (S : qSto) (l : List Nat) (b : Int × Int × List Nat) : Prop := (b = (5, 0, []) ∧ S 70 38 = -1 ∧ S 70 39 = 0) ∨ ((S 70 38 = b.1 ∧ S 70 39 = b.2.1) ∧ ((0 ≤ b.1 ∧ b.1 ≤ 4) ∧ (0 ≤ b.2.1 ∧ b.2.1 ≤ 20000)) ∧ b.2.2.length = l.length ∧ ∀ k, k < l.length → S 91 k = (l.getD (b.2.2.getD k 0) 0 : Nat))
def fV (S S1 : qSto) : Prop := (∀ c, ¬ (c = 70 ∨ (78 ≤ c ∧ c ≤ 84) ∨ c = 90 ∨ c = 91) → S1 c = S c) ∧ ∀ i, ¬ (i = 27 ∨ i = 28 ∨ i = 38 ∨ i = 39) → S1 70 i = S 70 i
theorem fV_tr {S S1 S2 : qSto} (h1 : fV S S1) (h2 : fV S1 S2) : fV S S2 := ⟨fun c h => (h2.1 c h).trans (h1.1 c h), fun i h => (h2.2 i h).trans (h1.2 i h)⟩
theorem fM_V {S S1 : qSto} (h : fM S S1) : fV S S1 := ⟨fun c hc => h.1 c (by omega), fun i hi => h.2 i (by omega) (by omega)⟩
theorem fV_uS {S S1 : qSto} {l : List Nat} (h : uS S l) (f : fV S S1) : uS S1 l := by
  unfold uS
  rw [f.2 37 (by omega), f.1 89 (by omega)]
  exact h
theorem fV_iT {S S1 : qSto} (h : iT S T lev) (f : fV S S1) : iT S1 T lev := iT_off h (fun c hc => f.1 c (by omega))
theorem fV_T {S S1 : qSto} (f : fV S S1) : fT S S1 := ⟨fun c hc => f.1 c (by omega), fun i hi => f.2 i (by omega), fun q _ u _ => by show S1 85 _ = S 85 _; rw [f.1 85 (by omega)]⟩
theorem fV_17 {S S1 : qSto} (f : fV S S1) (g : gR (mR S 17) Y) : gR (mR S1 17) Y := gR_cong g (fun i _ => by show S1 85 _ = S 85 _; rw [f.1 85 (by omega)])
theorem tries_s (hT : bT T) (hB : bY T lev Y) (hw : wY T lev Y) {l : List Nat} (hl : lOK T Y l) {p : List Nat} (hp : p.length = l.length) (hn0 : p.Nodup) (hlt : ∀ i ∈ p, i < l.length) {b : Int × Int × List Nat} {S : qSto} (hI : iT S T lev) (hm : mY S T lev Y) (hu : uS S l) (hr : rU S p) (hg : gR (mR S 17) Y) (hb : bM S l b) : ∃ S', M_tries S = some S' ∧ mY S' T lev Y ∧ fV S S' ∧ rU S' p ∧ bM S' l (fUp T lev l (Y, 0, 0) [] b p) := by
  have hl4 := hl.1
  have hE : sE T lev Y l [] (Y, 0, 0) := ⟨hB, hw, yLe_rfl, fun i hi _ => hl.2.2.2 _ (getD_mem hi), ⟨by show (0 : Int) ≤ 0; omega, by show (0 : Int) ≤ _; simp⟩, by show (0 : Int) ≤ 0; omega, by show (0 : Int) ≤ _; simp⟩
  obtain ⟨S1, t1, t2, t3, t4⟩ := tries_L hT hl hp hn0 hlt p [] qF (Y, 0, 0) S rfl (by unfold qF; omega) hE hI hm hu hr
  have t1' : M_tries_L6 qF 0 0 0 S = some ((fEv T lev l (Y, 0, 0) p).2.1, (fEv T lev l (Y, 0, 0) p).2.2, S1) := t1
  obtain ⟨ev, hev⟩ : ∃ ev, ev = fEv T lev l (Y, 0, 0) p := ⟨_, rfl⟩
  rw [← hev] at t1' t2 t4
  have fV1 := fM_V t3
  obtain ⟨S2, u1, u2, u3⟩ := takes_s (fV_iT hI fV1) t4.1 hB (r := 17) (by omega) t2 (fV_17 fV1 hg)
  have u1' : M_takes 17 S1 = some S2 := u1
  have fV2 : fV S S2 := fV_tr fV1 (fM_V (fZ_M u3))
  have e5 := t4.2.2.2.2.1
  have e6 := t4.2.2.2.2.2
  have r2 : rU S2 p := by
    unfold rU
    rw [u3 90 (by omega), t3.1 90 (by omega)]
    exact hr
  have e38 : S2 70 38 = S 70 38 := by rw [u3 70 (by omega), t3.2 38 (by omega) (by omega)]
  have e39 : S2 70 39 = S 70 39 := by rw [u3 70 (by omega), t3.2 39 (by omega) (by omega)]
  have e91 : S2 91 = S 91 := by rw [u3 91 (by omega), t3.1 91 (by omega)]
  -- taken
  have take : fBet ev.2 (b.1, b.2.1) → ∃ S', Option.bind (M_tries_L109 qF 0 (qup (qup S2 70 38 ev.2.1) 70 39 ev.2.2)) (fun q3554 => some q3554) = some S' ∧ mY S' T lev Y ∧ fV S S' ∧ rU S' p ∧ bM S' l (fUp T lev l (Y, 0, 0) [] b p) := fun hbt => by
    have o1 : ∀ c, c ≠ 70 → (qup (qup S2 70 38 ev.2.1) 70 39 ev.2.2) c = S2 c := fun c hc => by rw [qup_off hc, qup_off hc]
    have o7 : ∀ i, (qup (qup S2 70 38 ev.2.1) 70 39 ev.2.2) 70 i = if i = 39 then ev.2.2 else if i = 38 then ev.2.1 else S2 70 i := fun i => by rw [qup_on, qup_on]
    have fV3 : fV S (qup (qup S2 70 38 ev.2.1) 70 39 ev.2.2) := ⟨fun c hc => by rw [o1 c (by omega), fV2.1 c hc], fun i hi => by rw [o7, if_neg (by omega), if_neg (by omega), fV2.2 i hi]⟩
    have r3 : rU (qup (qup S2 70 38 ev.2.1) 70 39 ev.2.2) p := by
      unfold rU
      rw [o1 90 (by omega)]
      exact r2
    have m3 : mY (qup (qup S2 70 38 ev.2.1) 70 39 ev.2.2) T lev Y := mY_off u2 (fun c hc => o1 c (by omega))
    generalize (qup (qup S2 70 38 ev.2.1) 70 39 ev.2.2) = S3 at o1 o7 fV3 r3 m3
    obtain ⟨S4, v1, v2, v3⟩ := bestRow_L hl4 hp hlt l.length qF 0 S3 (by omega) (by unfold qF; omega) (fV_uS hu fV3) r3 (fun k hk => absurd hk (by omega))
    have v1' : M_tries_L109 qF 0 S3 = some S4 := v1
    have eU : fUp T lev l (Y, 0, 0) [] b p = (ev.2.1, ev.2.2, p) := by
      unfold fUp
      rw [← hev, if_pos hbt]
      rfl
    refine ⟨S4, by rw [v1']; rfl, mY_off m3 (fun c hc => v2 c (by omega)), fV_tr fV3 ⟨fun c hc => v2 c (by omega), fun i _ => by rw [v2 70 (by omega)]⟩, ?_, ?_⟩
    · unfold rU
      rw [v2 90 (by omega)]
      exact r3
    · rw [eU]
      refine Or.inr ⟨⟨?_, ?_⟩, ⟨⟨by show 0 ≤ ev.2.1; omega, by show ev.2.1 ≤ 4; omega⟩, by show 0 ≤ ev.2.2; omega, by show ev.2.2 ≤ 20000; omega⟩, hp, v3⟩
      · rw [v2 70 (by omega), o7, if_neg (by omega), if_pos rfl]
      · rw [v2 70 (by omega), o7, if_pos rfl]
  -- not taken
  have leave : ¬ fBet ev.2 (b.1, b.2.1) → bM S2 l (fUp T lev l (Y, 0, 0) [] b p) := fun hbt => by
    have eU : fUp T lev l (Y, 0, 0) [] b p = b := by
      unfold fUp
      rw [← hev, if_neg hbt]
    rw [eU]
    unfold bM
    rw [e38, e39, e91]
    exact hb
  rw [M_tries, t1']
  simp only [ob_sn]
  rw [u1']
  simp only [ob_sn]
  rw [e38]
  rcases hb with ⟨b0, b1, b2⟩ | ⟨⟨b1, b2⟩, ⟨⟨b3, b4⟩, b5, b6⟩, b7, b8⟩
  · rw [b1, qk_r (by omega) (by omega), if_pos rfl]
    refine take (Or.inl ?_)
    rw [b0]
    show ev.2.1 < 5
    omega
  · rw [e39, b1, b2, qk_r (by omega) (by omega), if_neg (by omega), qk_r (by omega) (by omega), qk_r (by omega) (by omega)]
    by_cases g : b.1 < ev.2.1
    · rw [if_pos g]
      exact ⟨S2, rfl, u2, fV2, r2, leave (by show ¬ (ev.2.1 < b.1 ∨ (ev.2.1 = b.1 ∧ ev.2.2 < b.2.1)); omega)⟩
    · rw [if_neg g, qk_r (by omega) (by omega), qk_r (by omega) (by omega)]
      by_cases g2 : ev.2.1 = b.1
      · rw [if_pos g2, qk_r (by omega) (by omega), qk_r (by omega) (by omega)]
        by_cases g3 : ev.2.2 < b.2.1
        · rw [if_pos g3]
          exact take (Or.inr ⟨g2, g3⟩)
        · rw [if_neg g3]
          exact ⟨S2, rfl, u2, fV2, r2, leave (by show ¬ (ev.2.1 < b.1 ∨ (ev.2.1 = b.1 ∧ ev.2.2 < b.2.1)); omega)⟩
      · rw [if_neg g2]
        exact take (Or.inl (by show ev.2.1 < b.1; omega))
theorem orders_L (hT : bT T) (hB : bY T lev Y) (hw : wY T lev Y) {l : List Nat} (hl : lOK T Y l) : ∀ (ps : List (List Nat)) (p : List Nat) (n : Nat) (b : Int × Int × List Nat) (S : qSto), (∀ q ∈ p :: ps, q.Nodup ∧ q.length = l.length ∧ ∀ i ∈ q, i < l.length) → gNx l.length (p :: ps) → ps.length + 1 < n → iT S T lev → mY S T lev Y → uS S l → rU S p → gR (mR S 17) Y → bM S l b → ∃ S', M_laysFour_L53 n 1 S = some S' ∧ mY S' T lev Y ∧ fV S S' ∧ bM S' l ((p :: ps).foldl (fUp T lev l (Y, 0, 0) []) b)
  | [], p, n + 2, b, S, hq, hx, hn, hI, hm, hu, hr, hg, hb => by
    obtain ⟨h1, h2, h3⟩ := hq p List.mem_cons_self
    obtain ⟨S1, t1, t2, t3, t4, t5⟩ := tries_s hT hB hw hl h2 h1 h3 hI hm hu hr hg hb
    obtain ⟨S2, u1, u2⟩ := hx S1 (fV_uS hu t3).1 t4
    have f2 : fV S1 S2 := ⟨fun c hc => u2 c (by omega), fun i _ => by rw [u2 70 (by omega)]⟩
    refine ⟨S2, ?_, mY_off t2 (fun c hc => u2 c (by omega)), fV_tr t3 f2, ?_⟩
    · rw [M_laysFour_L53, qk_r (by omega) (by omega), if_neg (by omega), t1]
      simp only [ob_sn]
      rw [u1]
      simp only [ob_sn]
      rw [M_laysFour_L53, qk_r (by omega) (by omega), if_pos rfl]
    · show bM S2 l (fUp T lev l (Y, 0, 0) [] b p)
      unfold bM
      rw [u2 70 (by omega), u2 91 (by omega)]
      exact t5
  | q :: ps, p, n + 1, b, S, hq, hx, hn, hI, hm, hu, hr, hg, hb => by
    obtain ⟨h1, h2, h3⟩ := hq p List.mem_cons_self
    obtain ⟨S1, t1, t2, t3, t4, t5⟩ := tries_s hT hB hw hl h2 h1 h3 hI hm hu hr hg hb
    obtain ⟨S2, u1, u2, u3⟩ := hx.1 S1 (fV_uS hu t3).1 t4
    have f2 : fV S1 S2 := ⟨fun c hc => u2 c (by omega), fun i _ => by rw [u2 70 (by omega)]⟩
    have b2 : bM S2 l (fUp T lev l (Y, 0, 0) [] b p) := by
      unfold bM
      rw [u2 70 (by omega), u2 91 (by omega)]
      exact t5
    obtain ⟨S', v1, v2, v3, v4⟩ := orders_L hT hB hw hl ps q n _ S2 (fun r hr => hq r (List.mem_cons_of_mem _ hr)) hx.2 (by simp at hn; omega) (fV_iT hI (fV_tr t3 f2)) (mY_off t2 (fun c hc => u2 c (by omega))) (fV_uS hu (fV_tr t3 f2)) u3 (fV_17 (fV_tr t3 f2) hg) b2
    refine ⟨S', ?_, v2, fV_tr (fV_tr t3 f2) v3, v4⟩
    rw [M_laysFour_L53, qk_r (by omega) (by omega), if_neg (by omega), t1]
    simp only [ob_sn]
    rw [u1]
    simp only [ob_sn]
    exact v1
theorem perms_len : ∀ n : Fin 5, (pmT n.val n.val 0).length ≤ 24 := by decide +kernel
/-- the reference has the best order -/
theorem laysFour_s {S : qSto} (hI : iT S T lev) (hB : bY T lev Y) (hw : wY T lev Y) (hm : mY S T lev Y) : ∃ S', M_laysFour S = some S' ∧ mY S' T lev Y ∧ fT S S' ∧ S' 70 37 = (sFour T Y).length ∧ (0 < (sFour T Y).length → (S' 70 38 = (fBest T lev Y).1 ∧ S' 70 39 = (fBest T lev Y).2.1) ∧ (0 ≤ (fBest T lev Y).1 ∧ (fBest T lev Y).1 ≤ 4) ∧ (0 ≤ (fBest T lev Y).2.1 ∧ (fBest T lev Y).2.1 ≤ 20000) ∧ ∀ k, k < (sFour T Y).length → S' 91 k = ((sFour T Y).getD ((fBest T lev Y).2.2.getD k 0) 0 : Nat)) := by
  have hl := sFour_ok (T := T) hB
  have hl4 := hl.1
  obtain ⟨S1, t1, t2, t3, t4, t5⟩ := findsFour_s hI hB hm
  have o1 : ∀ c, c ≠ 70 → (qup (qup S1 70 38 (-1)) 70 39 0) c = S1 c := fun c hc => by rw [qup_off hc, qup_off hc]
  have o7 : ∀ i, (qup (qup S1 70 38 (-1)) 70 39 0) 70 i = if i = 39 then 0 else if i = 38 then -1 else S1 70 i := fun i => by rw [qup_on, qup_on]
  generalize hS2 : (qup (qup S1 70 38 (-1)) 70 39 0) = S2 at o1 o7
  obtain ⟨S3, u1, u2, u3⟩ := turn_L 4 qF 0 S2 (by omega) (by unfold qF; omega) (fun k hk => absurd hk (by omega))
  have u1' : M_laysFour_L16 qF 0 S2 = some S3 := u1
  have f3 : fT S S3 := ⟨fun c hc => by rw [u2 c (by omega), o1 c (by omega), t4 c (by omega) (by omega)], fun i hi => by rw [u2 70 (by omega), o7, if_neg (by omega), if_neg (by omega), t5 i (by omega)], fun q _ u _ => by show S3 85 _ = S 85 _; rw [u2 85 (by omega), o1 85 (by omega), t4 85 (by omega) (by omega)]⟩
  have m3 : mY S3 T lev Y := mY_off hm (fun c hc => by rw [u2 c (by omega), o1 c (by omega), t4 c (by omega) (by omega)])
  obtain ⟨S4, v1, v2, v3, v4⟩ := puts_s (S := S3) (r := 17) (by omega) hB hI.1 m3
  have v1' : M_puts 17 S3 = some S4 := v1
  have f4 : fT S S4 := fT_tr f3 (puts_T (by omega) v2 v4)
  have m4 : mY S4 T lev Y := mY_off m3 (fun c hc => v2 c (by omega))
  have e37 : S4 70 37 = (sFour T Y).length := by rw [v2 70 (by omega), u2 70 (by omega), o7, if_neg (by omega), if_neg (by omega), t2]
  have u4 : uS S4 (sFour T Y) := ⟨e37, fun k hk => by rw [v2 89 (by omega), u2 89 (by omega), o1 89 (by omega)]; exact t3 k hk⟩
  have b4 : bM S4 (sFour T Y) (5, 0, []) := Or.inl ⟨rfl, by rw [v2 70 (by omega), u2 70 (by omega), o7, if_neg (by omega), if_pos rfl], by rw [v2 70 (by omega), u2 70 (by omega), o7, if_pos rfl]⟩
  have head : M_laysFour S = Option.bind (qk (qRb (S4 70 37)) (if (S4 70 37) ≤ 0 then some 0 else some 1) : Option Int) (fun t3532 => Option.bind (M_laysFour_L53 qF t3532 S4) (fun q3596 => some q3596)) := by
    rw [M_laysFour, t1]
    simp only [ob_sn]
    rw [hS2, u1']
    simp only [ob_sn]
    rw [v1']
    rfl
  rw [head, e37, qk_r (by omega) (by omega)]
  by_cases g : ((sFour T Y).length : Int) ≤ 0
  · rw [if_pos g]
    simp only [ob_sn]
    have e0 : M_laysFour_L53 qF 0 S4 = some S4 := by
      show M_laysFour_L53 (4999 + 1) 0 S4 = some S4
      rw [M_laysFour_L53, qk_r (by omega) (by omega), if_pos rfl]
    rw [e0]
    exact ⟨S4, rfl, m4, f4, e37, fun h => by omega⟩
  · rw [if_neg g]
    simp only [ob_sn]
    obtain ⟨q1, q2⟩ := perms4 ⟨(sFour T Y).length, by omega⟩
    have q3 := perms_len ⟨(sFour T Y).length, by omega⟩
    obtain ⟨r, hr⟩ := pm_hd (n := (sFour T Y).length) (by omega) (by omega)
    have hx := nx_all (n := (sFour T Y).length) (by omega) (by omega)
    rw [hr] at hx
    have q1' : ∀ q ∈ List.range (sFour T Y).length :: r, q.Nodup ∧ q.length = (sFour T Y).length ∧ ∀ i ∈ q, i < (sFour T Y).length := fun q hq => q1 q (by
      show q ∈ pmT (sFour T Y).length (sFour T Y).length 0
      rw [hr]
      exact hq)
    have q3' : r.length + 1 ≤ 24 := by
      have : (pmT (sFour T Y).length (sFour T Y).length 0).length ≤ 24 := q3
      rw [hr] at this
      simpa using this
    have rr : rU S4 (List.range (sFour T Y).length) := fun i hi => by
      have hi' : i < (sFour T Y).length := by simpa using hi
      rw [v2 90 (by omega), u3 i (by omega), List.getD_eq_getElem?_getD, List.getElem?_range hi', Option.getD_some]
    obtain ⟨S5, w1, w2, w3, w4⟩ := orders_L hI.1 hB hw hl r (List.range (sFour T Y).length) qF (5, 0, []) S4 q1' hx (by unfold qF; omega) (fT_iT hI f4) m4 u4 rr v3 b4
    rw [← hr] at w4
    have w4' : bM S5 (sFour T Y) (fBest T lev Y) := w4
    rw [w1]
    refine ⟨S5, rfl, w2, fT_tr f4 (fV_T w3), (fV_uS u4 w3).1, fun _ => ?_⟩
    rcases w4' with ⟨z, -⟩ | ⟨z1, ⟨z2, z3⟩, z4, z5⟩
    · have hb := (best_ok (T := T) (lev := lev) hB).2.1
      rw [z] at hb
      have hb' : (0 : Nat) = (sFour T Y).length := hb
      omega
    · exact ⟨z1, z2, z3, z5⟩
theorem sm_full {f : Nat → Int} : ∀ {n : Nat}, (∀ k, k < n → f k ≤ 1) → (sm f n = n ↔ ∀ k, k < n → f k = 1)
  | 0, _ => ⟨fun _ k hk => absurd hk (by omega), fun _ => rfl⟩
  | n + 1, h => by
    have ih := sm_full (n := n) (fun k hk => h k (by omega))
    have b : sm f n ≤ n := by
      have := sm_mono (f := f) (g := fun _ => 1) (n := n) (fun k hk => h k (by omega))
      have e : ∀ m : Nat, sm (fun _ => (1 : Int)) m = m := fun m => by
        induction m with
        | zero => rfl
        | succ m ihm =>
          rw [sm, ihm]
          omega
      rw [e] at this
      exact this
    have hn := h n (by omega)
    rw [sm]
    constructor
    · intro q k hk
      by_cases w : k = n
      · rw [w]
        omega
      · exact ih.mp (by omega) k (by omega)
    · intro q
      have := ih.mpr (fun k hk => q k (by omega))
      have := q n (by omega)
      omega
theorem sFst_nil : ∀ i : Nat, (sFst Y i).length = 0 ↔ ∀ s, s < i → 0 < Y.2.2 s
  | 0 => ⟨fun _ s hs => absurd hs (by omega), fun _ => rfl⟩
  | i + 1 => by
    have ih := sFst_nil i
    rw [sFst]
    by_cases g : Y.2.2 i ≤ 0 ∧ (sFst Y i).length < 4
    · rw [if_pos g]
      constructor
      · intro q
        simp at q
      · intro q
        have := q i (by omega)
        omega
    · rw [if_neg g]
      constructor
      · intro q s hs
        by_cases w : s = i
        · rw [w]
          omega
        · exact ih.mp q s (by omega)
      · intro q
        exact ih.mpr (fun s hs => q s (by omega))
theorem many_full (hT : bT T) : sMany T Y = T 9 ↔ (sFour T Y).length = 0 := by
  have b9 := bT_n hT
  have e : ((sN T : Nat) : Int) = T 9 := by unfold sN; omega
  have q := sm_full (f := fun s => if 0 < Y.2.2 s then 1 else 0) (n := sN T) (fun k _ => by
    skip
    split <;> omega)
  unfold sMany sFour
  rw [sFst_nil, ← e, q]
  constructor
  · intro h s hs
    have := h s hs
    by_cases w : 0 < Y.2.2 s
    · exact w
    · rw [if_neg w] at this
      omega
  · intro h s hs
    rw [if_pos (h s hs)]
/-- nothing but looking, and the best order -/
theorem read2_iG {S S1 S2 : qSto} (h : iA S T lev Y) (hw : wY T lev Y) (hH : ∃ o m, hA S T lev o m) (hK : hM S T lev) (hR : iR S T) (f1 : fG S S1) (c1 : cY S1 T lev Y) (hF : iF S1 T lev Y) (f2 : fT S1 S2) (m2 : mY S2 T lev Y) : iG S2 := by
  obtain ⟨o, m, ha⟩ := hH
  have e : ∀ c, ¬ (c = 6 ∨ c = 8 ∨ c = 9 ∨ c = 11 ∨ (37 ≤ c ∧ c ≤ 50)) → ¬ (c = 70 ∨ (78 ≤ c ∧ c ≤ 85) ∨ (87 ≤ c ∧ c ≤ 91)) → S2 c = S c := fun c h1 h2 => (f2.1 c h2).trans (f1 c h1)
  have e7 : ∀ i, ¬ (i = 27 ∨ i = 28 ∨ (37 ≤ i ∧ i ≤ 39)) → S2 70 i = S 70 i := fun i hi => by rw [f2.2.1 i hi, f1 70 (by omega)]
  have e8 : ∀ q, q < 16 → ∀ u, u < 42 → mR S2 q u = mR S q u := fun q hq u hu => by
    rw [f2.2.2 q hq u hu]
    show S1 85 _ = S 85 _
    rw [f1 85 (by omega)]
  refine ⟨T, lev, Y, ⟨fT_iT (fG_iT h.1 f1) f2, h.2.1, fT_cY c1 f2, m2⟩, hw, ⟨o, m, hA_off ha (e 12 (by omega) (by omega)) (e7 31 (by omega)) (fun c _ _ => e c (by omega) (by omega)) (fun q hq => e8 q (by omega))⟩, hM_off hK (by rw [e 12 (by omega) (by omega)]) (e 86 (by omega) (by omega)) (fun c _ _ => e c (by omega) (by omega)) (fun q _ hq => e8 q hq), iR_off hR (fun c hc => e c (by omega) (by omega)) (fun i hi => e7 i (by omega)), iF_off hF (f2.1 11 (by omega)) (f2.1 47 (by omega))⟩
theorem g_best {a : Int} (ha : qR a) : gOK (C_best a) (M_best a) := fun S h => by
  obtain ⟨T, lev, Y, hA', hw, hH, hK, hR, hF⟩ := id h
  obtain ⟨hI, hB, hc, hm⟩ := id hA'
  obtain ⟨a1, a2⟩ := id ha
  have b9 := bT_n hI.1
  have mb := sMany_b (Y := Y) hI.1
  have e1 := hI.2.1.2.2.2.2.1
  have hl4 := (sFour_ok (T := T) hB).1
  by_cases g : 0 ≤ a ∧ a ≤ 5
  · have cl : C_best a S = (if sMany T Y = T 9 then some ((-1), S) else (Option.bind (FirstFour_reckon S) (fun q1599 => qk (qRb a) (if a = 0 then some (q1599 11 5, q1599) else (if a = 1 then some (q1599 11 6, q1599) else (qk (qRb (a - 2)) (qk (qRb (q1599 11 4)) (if (q1599 11 4) ≤ (a - 2) then some ((-2), q1599) else (qk (qIx (a - 2) 4) (some (q1599 47 (Int.toNat (a - 2)), q1599))))))))))) := by
      rw [C_best, qk_r a1 a2, if_neg (by omega), qk_r a1 a2, if_neg (by omega), Stays_howMany_s hI hB hc]
      simp only [ob_sn]
      rw [qk_r (by omega) (by omega), e1, qk_r (by omega) (by omega)]
    have mdl : ∀ S1, iT S1 T lev → mY S1 T lev Y → ∃ S2, mY S2 T lev Y ∧ fT S1 S2 ∧ (0 < (sFour T Y).length → (S2 70 38 = (fBest T lev Y).1 ∧ S2 70 39 = (fBest T lev Y).2.1) ∧ (0 ≤ (fBest T lev Y).1 ∧ (fBest T lev Y).1 ≤ 4) ∧ (0 ≤ (fBest T lev Y).2.1 ∧ (fBest T lev Y).2.1 ≤ 20000) ∧ ∀ k, k < (sFour T Y).length → S2 91 k = ((sFour T Y).getD ((fBest T lev Y).2.2.getD k 0) 0 : Nat)) ∧ M_best a S1 = (if ((sFour T Y).length : Int) = 0 then some ((-1), S2) else (if 2 ≤ a then (if ((sFour T Y).length : Int) ≤ (a - 2) then some ((-2), S2) else (qk (qIx (a - 2) 4) (some (S2 91 (Int.toNat (a - 2)), S2)))) else (if a = 0 then some (S2 70 38, S2) else some (S2 70 39, S2)))) := fun S1 hI1 hm1 => by
      obtain ⟨S2, t1, t2, t3, t4, t5⟩ := laysFour_s hI1 hB hw hm1
      refine ⟨S2, t2, t3, t5, ?_⟩
      rw [M_best, qk_r a1 a2, M_in_s ⟨by omega, by omega⟩ ⟨by omega, by omega⟩ ⟨by omega, by omega⟩, if_pos g]
      simp only [ob_sn]
      rw [qk_r (by omega) (by omega), if_neg (by omega), t1]
      simp only [ob_sn]
      rw [t4, qk_r (by omega) (by omega), qk_r a1 a2, qk_r (by omega) (by omega), qk_r (by omega) (by omega), qk_r a1 a2]
    by_cases gm : sMany T Y = T 9
    · obtain ⟨S2, m2, f2, -, md⟩ := mdl S hI hm
      have := (many_full (Y := Y) hI.1).mp gm
      refine ⟨-1, S, S2, by rw [cl, if_pos gm], by rw [md, if_pos (by omega)], read_iG hA' hw hH hK hR hF fS_rfl hc f2 m2⟩
    · have hpos : 0 < (sFour T Y).length := by
        rcases Nat.eq_zero_or_pos (sFour T Y).length with q | q
        · exact absurd ((many_full (Y := Y) hI.1).mpr q) gm
        · exact q
      obtain ⟨S1, r1, r2, r3, r4, r5⟩ := reckon_s hI hB hw hc hF
      obtain ⟨-, r6⟩ := id r4
      obtain ⟨k1, k2, k3, k4⟩ := r6 r3
      obtain ⟨S2, m2, f2, z, md⟩ := mdl S1 (fG_iT hI r5) (fG_mY hm r5)
      obtain ⟨⟨z1, z2⟩, z3, z4, z5⟩ := z hpos
      have hG := read2_iG hA' hw hH hK hR r5 r2 r4 f2 m2
      rw [if_neg gm, r1] at cl
      simp only [ob_sn] at cl
      rw [qk_r a1 a2, k1] at cl
      rw [if_neg (by omega)] at md
      by_cases g0 : a = 0
      · rw [if_pos g0] at cl
        rw [if_neg (by omega), if_pos g0] at md
        exact ⟨(fBest T lev Y).1, S1, S2, by rw [cl, k2], by rw [md, z1], hG⟩
      · rw [if_neg g0] at cl
        by_cases g1 : a = 1
        · rw [if_pos g1] at cl
          rw [if_neg (by omega), if_neg g0] at md
          exact ⟨(fBest T lev Y).2.1, S1, S2, by rw [cl, k3], by rw [md, z2], hG⟩
        · rw [if_neg g1, qk_r (by omega) (by omega), qk_r (by omega) (by omega)] at cl
          rw [if_pos (by omega)] at md
          by_cases g2 : ((sFour T Y).length : Int) ≤ a - 2
          · rw [if_pos g2] at cl md
            exact ⟨-2, S1, S2, cl, md, hG⟩
          · rw [if_neg g2, qk_ix (by omega) (by omega)] at cl md
            have ek := k4 (a - 2).toNat (by omega)
            have ez := z5 (a - 2).toNat (by omega)
            exact ⟨((sFour T Y).getD ((fBest T lev Y).2.2.getD (a - 2).toNat 0) 0 : Nat), S1, S2, by rw [cl, ek], by rw [md, ez], hG⟩
  · refine ⟨-1, S, S, ?_, ?_, h⟩
    · rw [C_best, qk_r a1 a2]
      by_cases q : a < 0
      · rw [if_pos q]
      · rw [if_neg q, qk_r a1 a2, if_pos (by omega)]
    · rw [M_best, qk_r a1 a2, M_in_s ⟨by omega, by omega⟩ ⟨by omega, by omega⟩ ⟨by omega, by omega⟩, if_neg g]
      rfl
/-! the best order is laid -/
theorem four_L (hT : bT T) {l : List Nat} {Y0 : qY} (hl : lOK T Y0 l) {p : List Nat} (hp : p.length = l.length) (hn0 : p.Nodup) (hlt : ∀ i ∈ p, i < l.length) : ∀ (rest pre : List Nat) (n n2 : Nat) (c : Int) (a : qY × Int × Int) (S : qSto), p = pre ++ rest → rest.length < n → rest.length < n2 → sE T lev Y0 l pre a → iT S T lev → cY S T lev a.1 → S 11 4 = l.length → (∀ k, k < l.length → S 47 k = (l.getD (p.getD k 0) 0 : Nat)) → ∃ R Y' S', C_four_L41 n c (pre.length : Int) S = some (R, S') ∧ bY T lev Y' ∧ wY T lev Y' ∧ cY S' T lev Y' ∧ fI S S' ∧ ∀ Sm, iT Sm T lev → mY Sm T lev a.1 → Sm 70 37 = l.length → (∀ k, k < l.length → Sm 91 k = (l.getD (p.getD k 0) 0 : Nat)) → ∃ Sm', M_fourAll_L38 n2 c (pre.length : Int) Sm = some (R, Sm') ∧ mY Sm' T lev Y' ∧ fM Sm Sm'
  | [], pre, n + 1, n2 + 1, c, a, S, e, _, _, he, hI, hc, h4, h47 => by
    have hl4 := hl.1
    have e' : p = pre := by rw [e, List.append_nil]
    have hle : (l.length : Int) ≤ (pre.length : Int) := by rw [← e']; omega
    refine ⟨c, a.1, S, ?_, he.1, he.2.1, hc, fI_rfl, fun Sm hIm hm h37 h91 => ⟨Sm, ?_, hm, fM_rfl⟩⟩
    · rw [C_four_L41, h4, qk_r (by omega) (by rw [← e']; omega), qk_r (by omega) (by omega), if_pos hle]
    · rw [M_fourAll_L38, h37, qk_r (by omega) (by rw [← e']; omega), qk_r (by omega) (by omega), if_pos hle]
  | i :: rest, pre, n + 1, n2 + 1, c, a, S, e, hn, hn2, he, hI, hc, h4, h47 => by
    have hl4 := hl.1
    have hlen : p.length = pre.length + (rest.length + 1) := by rw [e]; simp
    have hi : i < l.length := hlt i (by rw [e]; simp)
    have hni : i ∉ pre := fun q => by
      rw [e, List.nodup_append] at hn0
      exact hn0.2.2 i q i List.mem_cons_self rfl
    have hs := hl.2.2.1 _ (getD_mem hi)
    have h0 := he.2.2.2.1 i hi hni
    have ep : p.getD pre.length 0 = i := by
      rw [e, List.getD_eq_getElem?_getD, List.getElem?_append_right (by omega)]
      simp
    have e47 := h47 pre.length (by omega)
    rw [ep] at e47
    have d := fd_or hI he.1 hc hs h0
    have hst := sE_step hT hl he hi hni d
    obtain ⟨S1, v1, v2, v3⟩ := layC_s hI he.1 hc hs h0
    obtain ⟨z1, z2, z3, z4, z5, z6⟩ := yB_okD hT he.1 he.2.1 hs h0 d
    have fs1 : (fStep T lev l a i).1 = yB T lev a.1 (l.getD i 0) := by
      unfold fStep
      rcases z6 with q | q
      · rw [if_neg (by omega)]
        rcases d with w | ⟨k, t, x, w⟩
        · rw [yB_N w]
        · rw [sB_S w] at q
          omega
      · rw [if_pos q]
    have hpl : ((pre ++ [i]).length : Int) = (pre.length : Int) + 1 := by simp
    obtain ⟨R, Y', S', t1, t2, t3, t4, t5, t6⟩ := four_L hT hl hp hn0 hlt rest (pre ++ [i]) n n2 (c + sB T lev a.1 (l.getD i 0)) (fStep T lev l a i) S1 (by rw [e]; simp) (by simpa using hn) (by simpa using hn2) hst (fC_iT hI (fI_C v2)) (by rw [fs1]; exact v3) (by rw [v2.1 11 (by omega)]; exact h4) (by rw [v2.1 47 (by omega)]; exact h47)
    rw [hpl] at t1 t6
    refine ⟨R, Y', S', ?_, t2, t3, t4, fI_tr v2 t5, fun Sm hIm hm h37 h91 => ?_⟩
    · rw [C_four_L41, h4, qk_r (by omega) (by omega), qk_r (by omega) (by omega), if_neg (by omega), qk_ix (by omega) (by omega), Int.toNat_natCast, e47, v1]
      simp only [ob_sn]
      rcases z6 with q | q
      · rw [q, Int.add_zero] at t1
        rw [q, qk_r (by omega) (by omega), if_pos rfl]
        exact t1
      · rw [q] at t1
        rw [q, qk_r (by omega) (by omega), if_neg (by omega)]
        exact t1
    · have e91 := h91 pre.length (by omega)
      rw [ep] at e91
      obtain ⟨Sn, w1, w2, w3⟩ := layM_s hIm he.1 hm he.2.1.1 hs h0
      obtain ⟨Sm', u1, u2, u3⟩ := t6 Sn (fM_iT hIm w2) (by rw [fs1]; exact w3) (by rw [w2.2 37 (by omega) (by omega)]; exact h37) (by rw [w2.1 91 (by omega)]; exact h91)
      refine ⟨Sm', ?_, u2, fM_tr w2 u3⟩
      rw [M_fourAll_L38, h37, qk_r (by omega) (by omega), qk_r (by omega) (by omega), if_neg (by omega), qk_ix (by omega) (by omega), Int.toNat_natCast, e91, w1]
      simp only [ob_sn]
      rcases z6 with q | q
      · rw [q, Int.add_zero] at u1
        rw [q, qk_r (by omega) (by omega), if_pos rfl]
        exact u1
      · rw [q] at u1
        rw [q, qk_r (by omega) (by omega), if_neg (by omega)]
        exact u1
theorem keptG {S S1 : qSto} {o m : Nat} {Y' : qY} (ha : hA S T lev o m) (f : ∀ c, ¬ (c = 6 ∨ c = 8 ∨ c = 9 ∨ c = 11 ∨ c = 14 ∨ (37 ≤ c ∧ c ≤ 50)) → S1 c = S c) (g : gR (S1 14) Y) (c : cY S1 T lev Y') : ∃ S2, C_keepAct S1 = some S2 ∧ fA S S2 ∧ kC o m S S2 Y ∧ cY S2 T lev Y' := by
  obtain ⟨S2, t1, t2, t3, t4⟩ := keptC ha f g
  exact ⟨S2, t1, t2, t3, cY_off c (fun c hc => t4 c (by omega))⟩
theorem g_four : gOK C_four M_fourAll := fun S h => by
  obtain ⟨T, lev, Y, hA', hw, ⟨o, m, hH⟩, hK, hR, hF⟩ := id h
  obtain ⟨hI, hB, hc, hm⟩ := id hA'
  have hl := sFour_ok (T := T) hB
  have hl4 := hl.1
  obtain ⟨p1, p2, p3, p4⟩ := best_ok (T := T) (lev := lev) hB
  obtain ⟨S1, r1, r2, r3, r4, r5⟩ := reckon_s hI hB hw hc hF
  obtain ⟨-, r6⟩ := id r4
  obtain ⟨k1, k2, k3, k4⟩ := r6 r3
  have hI1 := fG_iT hI r5
  have mdl : ∀ Sm, iT Sm T lev → mY Sm T lev Y → ∃ S2, mY S2 T lev Y ∧ fT Sm S2 ∧ S2 70 37 = (sFour T Y).length ∧ (0 < (sFour T Y).length → (0 ≤ (fBest T lev Y).1 ∧ (fBest T lev Y).1 ≤ 4) ∧ S2 70 38 = (fBest T lev Y).1 ∧ ∀ k, k < (sFour T Y).length → S2 91 k = ((sFour T Y).getD ((fBest T lev Y).2.2.getD k 0) 0 : Nat)) ∧ M_fourAll Sm = (if ((sFour T Y).length : Int) = 0 then some ((-1), S2) else (qk (qRb (S2 70 38)) (if (S2 70 38) = ((sFour T Y).length : Int) then some ((-1), S2) else (Option.bind (M_puts 16 S2) (fun q4295 => Option.bind (M_keeps q4295) (fun q4297 => Option.bind (M_fourAll_L38 qF 0 0 q4297) (fun q4306 => some (q4306.1, q4306.2)))))))) := fun Sm hIm hmm => by
    obtain ⟨S2, t1, t2, t3, t4, t5⟩ := laysFour_s hIm hB hw hmm
    refine ⟨S2, t2, t3, t4, fun z => ⟨(t5 z).2.1, (t5 z).1.1, (t5 z).2.2.2⟩, ?_⟩
    rw [M_fourAll, t1]
    simp only [ob_sn]
    rw [t4, qk_r (a := ((sFour T Y).length : Int)) (by omega) (by omega), qk_r (a := ((sFour T Y).length : Int)) (by omega) (by omega)]
  have bb : (fBest T lev Y).1 ≤ (sFour T Y).length := by
    have e := fEv_out (T := T) (lev := lev) (l := sFour T Y)
    have key : ∀ (ps : List (List Nat)) (b : Int × Int × List Nat), (∀ q ∈ ps, q.length = (sFour T Y).length) → b.1 ≤ (sFour T Y).length → (ps.foldl (fUp T lev (sFour T Y) (Y, 0, 0) []) b).1 ≤ (sFour T Y).length := fun ps => by
      induction ps with
      | nil => exact fun b _ hb => hb
      | cons q ps ih =>
        intro b hq hb
        refine ih _ (fun r hr => hq r (List.mem_cons_of_mem _ hr)) ?_
        unfold fUp
        split
        · have := e q (Y, 0, 0)
          rw [hq q List.mem_cons_self] at this
          have z : ((Y, (0 : Int), (0 : Int)) : qY × Int × Int).2.1 = 0 := rfl
          show (fEv T lev (sFour T Y) (Y, 0, 0) q).2.1 ≤ _
          omega
        · exact hb
    obtain ⟨q1, q2⟩ := perms4 ⟨(sFour T Y).length, by omega⟩
    unfold fBest
    cases hp : pmT (sFour T Y).length (sFour T Y).length 0 with
    | nil => exact absurd hp q2
    | cons p ps =>
      have hall : ∀ q ∈ p :: ps, q.length = (sFour T Y).length := fun q hq => (q1 q (by rw [hp]; exact hq)).2.1
      rw [List.foldl_cons]
      refine key ps _ (fun r hr => hall r (List.mem_cons_of_mem _ hr)) ?_
      have := e p (Y, 0, 0)
      rw [hall p List.mem_cons_self] at this
      have z : ((Y, (0 : Int), (0 : Int)) : qY × Int × Int).2.1 = 0 := rfl
      unfold fUp
      rw [if_pos (Or.inl (by show _ < (5 : Int); omega))]
      show (fEv T lev (sFour T Y) (Y, 0, 0) p).2.1 ≤ _
      omega
  have b0 : 0 ≤ (fBest T lev Y).1 := by
    by_cases z : 0 < (sFour T Y).length
    · obtain ⟨S2, -, -, -, t5, -⟩ := mdl S hI hm
      exact (t5 z).1.1
    · have e0 : (sFour T Y).length = 0 := by omega
      unfold fBest
      rw [e0]
      show 0 ≤ (fUp T lev (sFour T Y) (Y, 0, 0) [] (5, 0, []) []).1
      unfold fUp
      rw [if_pos (Or.inl (by show (0 : Int) < 5; omega))]
      show (0 : Int) ≤ 0
      omega
  have cl : C_four S = (if (fBest T lev Y).1 < ((sFour T Y).length : Int) then (Option.bind (Stays_save_14 S1) (fun q1609 => Option.bind (C_four_L41 qF 0 0 q1609) (fun q1618 => Option.bind (C_keepAct q1618.2) (fun q1620 => some (q1618.1, q1620))))) else some ((-1), S1)) := by
    rw [C_four, r1]
    simp only [ob_sn]
    rw [k1, k2, qk_r (by omega) (by omega), qk_r (by omega) (by omega)]
  by_cases g : (fBest T lev Y).1 < ((sFour T Y).length : Int)
  · have hpos : 0 < (sFour T Y).length := by omega
    obtain ⟨Sa, v1, v2, v3⟩ := save_14_s (S := S1) hB hI.1 r2
    have hE : sE T lev Y (sFour T Y) [] (Y, 0, 0) := ⟨hB, hw, yLe_rfl, fun i hi _ => hl.2.2.2 _ (getD_mem hi), ⟨by show (0 : Int) ≤ 0; omega, by show (0 : Int) ≤ _; simp⟩, by show (0 : Int) ≤ 0; omega, by show (0 : Int) ≤ _; simp⟩
    obtain ⟨R, Y', Sb, t1, t2, t3, t4, t5, t6⟩ := four_L hI.1 hl p2 p3 p4 (fBest T lev Y).2.2 [] qF qF 0 (Y, 0, 0) Sa rfl (by unfold qF; omega) (by unfold qF; omega) hE (iT_off hI1 (fun c hc => v2 c (by omega))) (cY_off r2 (fun c hc => v2 c (by omega))) (by rw [v2 11 (by omega)]; exact k1) (by rw [v2 47 (by omega)]; exact k4)
    have t1' : C_four_L41 qF 0 0 Sa = some (R, Sb) := t1
    obtain ⟨S2, y1, y2, y3, y4⟩ := keptG hH (S1 := Sb) (fun c hc => by rw [fI_C t5 c (by omega), v2 c (by omega), r5 c (by omega)]) (by rw [fI_C t5 14 (by omega)]; exact v3) t4
    have hI2 := fA_iT hI y2
    obtain ⟨S3, m3, f3, e37, z, md⟩ := mdl S2 hI2 (fA_mY hm y2)
    obtain ⟨z1, z2, z3⟩ := z hpos
    obtain ⟨S4, q1, q2, q3, q4, q5⟩ := putsM hB hI.1 m3
    obtain ⟨S5, s1, s2, s3, s4, s5⟩ := actM hH.2.1 ((fA_31 y2).trans hH.2.2.2.2.1) (fT_tr f3 q2) q3 q4
    have n37 : S5 70 37 = (sFour T Y).length := by
      obtain ⟨S5', w1, -, -, -, w5, -⟩ := keptM hH.2.1 ((fA_31 y2).trans hH.2.2.2.2.1) (fT_tr f3 q2) q3
      rw [s1] at w1
      have : S5 = S5' := by simpa using w1
      rw [this, w5 37 (by omega), q5 70 (by omega), e37]
    obtain ⟨S6, u1, u2, u3⟩ := t6 S5 (fB_iT hI2 s2) s4 n37 (by rw [s5 91 (by omega) (by omega), q5 91 (by omega)]; exact z3)
    have u1' : M_fourAll_L38 qF 0 0 S5 = some (R, S6) := u1
    refine ⟨R, S2, S6, ?_, ?_, act_iG hA' hw hH hK hR y2 y3 y4 (fB_tr s2 (fT_B (fM_T u3))) (kM_T s3 (fM_T u3)) u2 t2 t3⟩
    · rw [cl, if_pos g, v1]
      simp only [ob_sn]
      rw [t1']
      simp only [ob_sn]
      rw [y1]
      rfl
    · rw [md, if_neg (by omega), z2, qk_r (by omega) (by omega), if_neg (by omega), q1]
      simp only [ob_sn]
      rw [s1]
      simp only [ob_sn]
      rw [u1']
      rfl
  · obtain ⟨S3, m3, f3, e37, z, md⟩ := mdl S1 hI1 (fG_mY hm r5)
    refine ⟨-1, S1, S3, by rw [cl, if_neg g], ?_, read2_iG hA' hw ⟨o, m, hH⟩ hK hR r5 r2 r4 f3 m3⟩
    by_cases q : ((sFour T Y).length : Int) = 0
    · rw [md, if_pos q]
    · obtain ⟨z1, z2, z3⟩ := z (by omega)
      rw [md, if_neg q, z2, qk_r (by omega) (by omega), if_pos (by omega)]
end PBE
