/-! the class reckons the best order -/
section PRK
variable {T lev : Nat → Int} {Y : qY}
theorem sFst_ok : ∀ i : Nat, (sFst Y i).length ≤ 4 ∧ (sFst Y i).Nodup ∧ ∀ s ∈ sFst Y i, s < i ∧ Y.2.2 s ≤ 0
  | 0 => ⟨by simp [sFst], List.nodup_nil, fun s h => absurd h List.not_mem_nil⟩
  | i + 1 => by
    obtain ⟨h1, h2, h3⟩ := sFst_ok i
    rw [sFst]
    by_cases g : Y.2.2 i ≤ 0 ∧ (sFst Y i).length < 4
    · rw [if_pos g]
      refine ⟨by simp; omega, ?_, fun s hs => ?_⟩
      · rw [List.nodup_append]
        refine ⟨h2, List.nodup_cons.mpr ⟨List.not_mem_nil, List.nodup_nil⟩, fun a ha b hb e => ?_⟩
        have := (h3 a ha).1
        have := List.mem_singleton.mp hb
        omega
      · rcases List.mem_append.mp hs with w | w
        · have := h3 s w
          exact ⟨by omega, this.2⟩
        · have := List.mem_singleton.mp w
          rw [this]
          exact ⟨by omega, g.1⟩
    · rw [if_neg g]
      exact ⟨h1, h2, fun s hs => ⟨by have := (h3 s hs).1; omega, (h3 s hs).2⟩⟩
theorem sFst_full {i : Nat} (h : 4 ≤ (sFst Y i).length) : ∀ j : Nat, sFst Y (i + j) = sFst Y i
  | 0 => rfl
  | j + 1 => by
    have e : i + (j + 1) = (i + j) + 1 := by omega
    rw [e, sFst, sFst_full h j, if_neg (by omega)]
theorem sFour_ok (hB : bY T lev Y) : lOK T Y (sFour T Y) := by
  obtain ⟨h1, h2, h3⟩ := sFst_ok (Y := Y) (sN T)
  refine ⟨h1, h2, fun s hs => ?_, fun s hs => ?_⟩
  · have := (h3 s hs).1
    unfold sN at this
    omega
  · have := (h3 s hs).2
    have := (hB.1 s).1
    omega
/-- the ships that are tried, and whether there is hope for them -/
def rH (S : qSto) (T lev : Nat → Int) (Y : qY) (l : List Nat) : Prop := ∀ k, k < l.length → S 48 k = (l.getD k 0 : Nat) ∧ (S 50 k = 0 ∨ S 50 k = 1) ∧ (S 50 k = 0 → fdN1 T lev Y (l.getD k 0))
def fG (S S' : qSto) : Prop := (∀ c, ¬ (c = 6 ∨ c = 8 ∨ c = 9 ∨ c = 11 ∨ (37 ≤ c ∧ c ≤ 50)) → S' c = S c)
theorem fG_tr {S S1 S2 : qSto} (h1 : fG S S1) (h2 : fG S1 S2) : fG S S2 := fun c h => (h2 c h).trans (h1 c h)
theorem fC_G {S S1 : qSto} (h : fC S S1) : fG S S1 := fun c hc => h c (by omega)
theorem fQ_G {d : Nat} {S S1 : qSto} (h : fQ d S S1) : fG S S1 := fun c hc => h.1 c (by omega)
theorem fG_iT {S S1 : qSto} (h : iT S T lev) (f : fG S S1) : iT S1 T lev := iT_off h (fun c hc => f c (by omega))
theorem fG_mY {S S1 : qSto} (h : mY S T lev Y) (f : fG S S1) : mY S1 T lev Y := mY_off h (fun c hc => f c (by omega))
theorem reckon_L (hB : bY T lev Y) : ∀ (j n i : Nat) (S : qSto), (i : Int) + j = T 9 → j < n → iT S T lev → cY S T lev Y → S 11 4 = (sFst Y i).length → rH S T lev Y (sFst Y i) → ∃ S', FirstFour_reckon_L15 n (i : Int) S = some S' ∧ cY S' T lev Y ∧ S' 11 4 = (sFour T Y).length ∧ rH S' T lev Y (sFour T Y) ∧ fG S S'
  | 0, n + 1, i, S, e, _, hI, hc, h1, h2 => by
    have b9 := bT_n hI.1
    have e1 := hI.2.1.2.2.2.2.1
    rw [FirstFour_reckon_L15]
    simp (disch := omega) only [qk_r, e1, if_pos (show T 9 ≤ (i : Int) by omega)]
    unfold sFour sN
    rw [show (T 9).toNat = i by omega]
    exact ⟨S, rfl, hc, h1, h2, fun c _ => rfl⟩
  | j + 1, n + 1, i, S, e, hn, hI, hc, h1, h2 => by
    have b9 := bT_n hI.1
    have e1 := hI.2.1.2.2.2.2.1
    obtain ⟨l4, l5, l6⟩ := sFst_ok (Y := Y) i
    have hs : (i : Int) < T 9 := by omega
    rw [FirstFour_reckon_L15]
    simp (disch := omega) only [qk_r, e1, if_neg (show ¬ T 9 ≤ (i : Int) by omega), h1]
    by_cases g : 4 ≤ ((sFst Y i).length : Int)
    · rw [if_pos g]
      have ef : sFour T Y = sFst Y i := by
        unfold sFour sN
        rw [show (T 9).toNat = i + (j + 1) by omega]
        exact sFst_full (by omega) (j + 1)
      rw [ef]
      exact ⟨S, rfl, hc, h1, h2, fun c _ => rfl⟩
    · rw [if_neg g, Stays_has_s hB hc hI.1 (s := i) (by omega)]
      simp only [ob_some, ite01_r, ite01_e]
      by_cases gk : 0 < Y.2.2 i
      · rw [if_pos gk]
        simp only [ob_some]
        have es : sFst Y (i + 1) = sFst Y i := by
          rw [sFst, if_neg (by omega)]
        exact reckon_L hB j n (i + 1) S (by omega) (by omega) hI hc (by rw [es]; exact h1) (by rw [es]; exact h2)
      · have h0 : Y.2.2 i = 0 := by
          have := (hB.1 i).1
          omega
        have es : sFst Y (i + 1) = sFst Y i ++ [i] := by
          rw [sFst, if_pos ⟨by omega, by omega⟩]
        rw [if_neg gk, h1, qk_ix (by omega) (by omega), Int.toNat_natCast]
        have o1 : ∀ c, c ≠ 48 → (qup S 48 (sFst Y i).length (i : Int)) c = S c := fun c hc => qup_off hc
        have hI1 : iT (qup S 48 (sFst Y i).length (i : Int)) T lev := iT_off hI (fun c hc => o1 c (by omega))
        have hc1 : cY (qup S 48 (sFst Y i).length (i : Int)) T lev Y := cY_off hc (fun c hc => o1 c (by omega))
        have o48 : ∀ k, (qup S 48 (sFst Y i).length (i : Int)) 48 k = if k = (sFst Y i).length then (i : Int) else S 48 k := fun k => by rw [qup_on]
        have o114 : (qup S 48 (sFst Y i).length (i : Int)) 11 4 = (sFst Y i).length := by rw [o1 11 (by omega), h1]
        generalize qup S 48 (sFst Y i).length (i : Int) = S1 at o1 hI1 hc1 o48 o114
        have cn := bT_con hI.1 hs
        have c8 : Told_contractOf (i : Int) 8 S1 = some (sCon T i 8, S1) := Told_contractOf_s hI1 hs (w := 8) (by omega)
        have c7 : Told_contractOf (i : Int) 7 S1 = some (sCon T i 7, S1) := Told_contractOf_s hI1 hs (w := 7) (by omega)
        obtain ⟨r, S2, v1, v2, v3, v4⟩ := find_s hI1 hB hc1 hs h0 (most := sCon T i 8) (least := sCon T i 7) (by omega) (by omega) (by omega)
        have hr : (r = 0 ∨ r = 1) ∧ (r = 0 → fdN1 T lev Y i) := by
          rcases v4 with ⟨q1, q2⟩ | ⟨q1, -⟩
          · exact ⟨Or.inl q1, fun _ => q2⟩
          · exact ⟨Or.inr q1, fun q => by omega⟩
        have p1 : ∀ c, c ≠ 50 → c ≠ 11 → (qup (qup S2 50 (sFst Y i).length r) 11 4 (((sFst Y i).length : Int) + 1)) c = S2 c := fun c h1 h2 => by rw [qup_off h2, qup_off h1]
        have p50 : ∀ k, (qup (qup S2 50 (sFst Y i).length r) 11 4 (((sFst Y i).length : Int) + 1)) 50 k = if k = (sFst Y i).length then r else S2 50 k := fun k => by rw [qup_off (by omega), qup_on]
        have p11 : (qup (qup S2 50 (sFst Y i).length r) 11 4 (((sFst Y i).length : Int) + 1)) 11 4 = ((sFst Y i).length : Int) + 1 := by rw [qup_on, if_pos rfl]
        have e11 : (qup S2 50 (sFst Y i).length r) 11 4 = (sFst Y i).length := by rw [qup_off (by omega), v3.1 11 (by omega), o114]
        rw [c8]
        simp only [ob_sn]
        rw [c7]
        simp only [ob_sn]
        rw [v1]
        simp only [ob_sn]
        rw [o114, qk_ix (by omega) (by omega), qk_z hr.1, Int.toNat_natCast, e11]
        simp only [ob_sn]
        have gg : fG S (qup (qup S2 50 (sFst Y i).length r) 11 4 (((sFst Y i).length : Int) + 1)) := fun c hc => by rw [p1 c (by omega) (by omega), v3.1 c (by omega), o1 c (by omega)]
        have cc : cY (qup (qup S2 50 (sFst Y i).length r) 11 4 (((sFst Y i).length : Int) + 1)) T lev Y := cY_off v2 (fun c hc => p1 c (by omega) (by omega))
        generalize (qup (qup S2 50 (sFst Y i).length r) 11 4 (((sFst Y i).length : Int) + 1)) = S3 at p1 p50 p11 gg cc
        obtain ⟨S', t1, t2, t3, t4, t5⟩ := reckon_L hB j n (i + 1) S3 (by omega) (by omega) (fG_iT hI gg) cc (by rw [p11, es]; simp) (by
          intro k hk
          rw [es] at hk ⊢
          have hk' : k < (sFst Y i).length + 1 := by simpa using hk
          rw [p1 48 (by omega) (by omega), v3.1 48 (by omega), o48, p50, v3.1 50 (by omega), o1 50 (by omega)]
          by_cases w : k = (sFst Y i).length
          · have eg : (sFst Y i ++ [i]).getD k 0 = i := by
              rw [w, List.getD_eq_getElem?_getD, List.getElem?_append_right (by omega)]
              simp
            rw [if_pos w, if_pos w, eg]
            exact ⟨rfl, hr.1, hr.2⟩
          · have eg : (sFst Y i ++ [i]).getD k 0 = (sFst Y i).getD k 0 := by
              rw [List.getD_eq_getElem?_getD, List.getElem?_append_left (by omega), ← List.getD_eq_getElem?_getD]
            rw [if_neg w, if_neg w, eg]
            exact h2 k (by omega))
        exact ⟨S', t1, t2, t3, t4, fG_tr gg t5⟩
/-! the best order is a whole one -/
theorem pm_ne {n : Nat} : ∀ (p : List Nat) (ps : List (List Nat)) (l : List Nat) (a : qY × Int × Int) (b : Int × Int × List Nat), (∀ q ∈ p :: ps, q.length = n) → (fUp T lev l a [] b p).2.2 = p ∨ b.2.2.length = n → ((p :: ps).foldl (fUp T lev l a []) b).2.2.length = n
  | p, [], l, a, b, h, h2 => by
    show (fUp T lev l a [] b p).2.2.length = n
    rcases h2 with q | q
    · rw [q]
      exact h p List.mem_cons_self
    · unfold fUp
      split
      · exact h p List.mem_cons_self
      · exact q
  | p, q :: ps, l, a, b, h, h2 => by
    show ((q :: ps).foldl (fUp T lev l a []) (fUp T lev l a [] b p)).2.2.length = n
    refine pm_ne q ps l a _ (fun r hr => h r (List.mem_cons_of_mem _ hr)) (Or.inr ?_)
    rcases h2 with z | z
    · rw [z]
      exact h p List.mem_cons_self
    · unfold fUp
      split
      · exact h p List.mem_cons_self
      · exact z
theorem fold_in : ∀ (ps : List (List Nat)) (l : List Nat) (a : qY × Int × Int) (b : Int × Int × List Nat), (ps.foldl (fUp T lev l a []) b).2.2 = b.2.2 ∨ (ps.foldl (fUp T lev l a []) b).2.2 ∈ ps
  | [], l, a, b => Or.inl rfl
  | p :: ps, l, a, b => by
    have hb : (fUp T lev l a [] b p).2.2 = b.2.2 ∨ (fUp T lev l a [] b p).2.2 = p := by
      unfold fUp
      split
      · exact Or.inr rfl
      · exact Or.inl rfl
    rw [List.foldl_cons]
    rcases fold_in ps l a (fUp T lev l a [] b p) with q | q
    · rw [q]
      rcases hb with z | z
      · exact Or.inl z
      · right
        rw [z]
        exact List.mem_cons_self
    · right
      exact List.mem_cons_of_mem _ q
theorem perms4 : ∀ n : Fin 5, (∀ p ∈ pmT n.val n.val 0, p.Nodup ∧ p.length = n.val ∧ ∀ i ∈ p, i < n.val) ∧ pmT n.val n.val 0 ≠ [] := by decide +kernel
theorem fEv_out {l : List Nat} : ∀ (p : List Nat) (a : qY × Int × Int), (fEv T lev l a p).2.1 ≤ a.2.1 + p.length
  | [], a => by
    show a.2.1 ≤ _
    simp
  | i :: p, a => by
    have e : fEv T lev l a (i :: p) = fEv T lev l (fStep T lev l a i) p := rfl
    have ih := fEv_out (l := l) p (fStep T lev l a i)
    have st : (fStep T lev l a i).2.1 ≤ a.2.1 + 1 := by
      unfold fStep
      split
      · show a.2.1 ≤ a.2.1 + 1
        omega
      · show a.2.1 + 1 ≤ a.2.1 + 1
        omega
    rw [e, List.length_cons]
    omega
theorem best_ok (hB : bY T lev Y) : (fBest T lev Y).2.2 ∈ pmT (sFour T Y).length (sFour T Y).length 0 ∧ (fBest T lev Y).2.2.length = (sFour T Y).length ∧ (fBest T lev Y).2.2.Nodup ∧ ∀ i ∈ (fBest T lev Y).2.2, i < (sFour T Y).length := by
  have l4 := (sFour_ok (T := T) hB).1
  obtain ⟨q1, q2⟩ := perms4 ⟨(sFour T Y).length, by omega⟩
  have hlen : (fBest T lev Y).2.2.length = (sFour T Y).length := by
    unfold fBest
    cases hp : pmT (sFour T Y).length (sFour T Y).length 0 with
    | nil => exact absurd hp q2
    | cons p ps =>
      have hall : ∀ q ∈ p :: ps, q.length = (sFour T Y).length := fun q hq => (q1 q (by rw [hp]; exact hq)).2.1
      refine pm_ne p ps _ _ _ hall (Or.inl ?_)
      have ho := fEv_out (T := T) (lev := lev) (l := sFour T Y) p (Y, 0, 0)
      have hp1 := hall p List.mem_cons_self
      unfold fUp
      rw [if_pos (Or.inl (by show _ < (5 : Int); have : ((Y, (0 : Int), (0 : Int)) : qY × Int × Int).2.1 = 0 := rfl; omega))]
      rfl
  have hin : (fBest T lev Y).2.2 ∈ pmT (sFour T Y).length (sFour T Y).length 0 := by
    rcases fold_in (T := T) (lev := lev) (pmT (sFour T Y).length (sFour T Y).length 0) (sFour T Y) (Y, 0, 0) (5, 0, []) with q | q
    · have e : (fBest T lev Y).2.2 = [] := q
      rw [e] at hlen ⊢
      have h0 : (sFour T Y).length = 0 := hlen.symm
      rw [h0]
      exact List.mem_singleton.mpr rfl
    · exact q
  exact ⟨hin, hlen, (q1 _ hin).1, (q1 _ hin).2.2⟩
theorem reckon_s {S : qSto} (hI : iT S T lev) (hB : bY T lev Y) (hw : wY T lev Y) (hc : cY S T lev Y) (hF : iF S T lev Y) : ∃ S', FirstFour_reckon S = some S' ∧ cY S' T lev Y ∧ S' 11 3 = 1 ∧ iF S' T lev Y ∧ fG S S' := by
  rcases hF.1 with g | g
  · have b9 := bT_n hI.1
    have hl := sFour_ok (T := T) hB
    have o1 : ∀ c, c ≠ 11 → (qup S 11 4 0) c = S c := fun c hc => qup_off hc
    obtain ⟨S1, t1, t2, t3, t4, t5⟩ := reckon_L hB (sN T) qF 0 (qup S 11 4 0) (by unfold sN; omega) (by unfold qF sN; omega) (iT_off hI (fun c hc => o1 c (by omega))) (cY_off hc (fun c hc => o1 c (by omega))) (by rw [qup_on, if_pos rfl]; rfl) (fun k hk => absurd hk (by simp [sFst]))
    have t1' : FirstFour_reckon_L15 qF 0 (qup S 11 4 0) = some S1 := t1
    have o2 : ∀ c, c ≠ 11 → (qup (qup S1 11 5 5) 11 6 0) c = S1 c := fun c hc => by rw [qup_off hc, qup_off hc]
    have o11 : ∀ i, (qup (qup S1 11 5 5) 11 6 0) 11 i = if i = 6 then 0 else if i = 5 then 5 else S1 11 i := fun i => by rw [qup_on, qup_on]
    have f2 : fG S (qup (qup S1 11 5 5) 11 6 0) := fun c hc => by rw [o2 c (by omega), t5 c hc, o1 c (by omega)]
    have c2 : cY (qup (qup S1 11 5 5) 11 6 0) T lev Y := cY_off t2 (fun c hc => o2 c (by omega))
    have hS2 : tS T lev Y (sFour T Y) [] (Y, 0, 0) (5, 0, []) (qup (qup S1 11 5 5) 11 6 0) := by
      refine ⟨fG_iT hI f2, c2, ?_, ⟨?_, ?_⟩, ⟨⟨by show (0 : Int) ≤ 5; omega, by show (5 : Int) ≤ 5; omega⟩, by show (0 : Int) ≤ 0; omega, by show (0 : Int) ≤ 20000; omega⟩, fun i hi => absurd hi (by simp), fun i hi => ?_, fun i hi => absurd hi (by simp)⟩
      · rw [o11, if_neg (by omega), if_neg (by omega), t3]
      · rw [o11, if_neg (by omega), if_pos rfl]
      · rw [o11, if_pos rfl]
      · rw [o2 48 (by omega), o2 50 (by omega)]
        exact t4 i hi
    generalize hS2e : (qup (qup S1 11 5 5) 11 6 0) = S2 at f2 c2 hS2
    have hE : sE T lev Y (sFour T Y) [] (Y, 0, 0) := ⟨hB, hw, yLe_rfl, fun i hi _ => hl.2.2.2 _ (getD_mem hi), ⟨by show (0 : Int) ≤ 0; omega, by show (0 : Int) ≤ _; simp⟩, by show (0 : Int) ≤ 0; omega, by show (0 : Int) ≤ _; simp⟩
    obtain ⟨S3, u1, u2, u3⟩ := try_n0 hI.1 hl (try_n1 hI.1 hl (try_n2 hI.1 hl (try_n3 hI.1 hl (try_n4 hI.1 hl)))) 0 [] (Y, 0, 0) (5, 0, []) S2 rfl (by omega) tB_0 hE hS2
    have u1' : FirstFour_tryFrom_n0 0 0 0 S2 = some S3 := u1
    obtain ⟨z1, z2, z3, z4, z5, z6, z7, z8⟩ := u3
    have o3 : ∀ c, c ≠ 11 → (qup S3 11 3 1) c = S3 c := fun c hc => qup_off hc
    have p11 : ∀ i, (qup S3 11 3 1) 11 i = if i = 3 then 1 else S3 11 i := fun i => by rw [qup_on]
    refine ⟨qup S3 11 3 1, ?_, cY_off z2 (fun c hc => o3 c (by omega)), by rw [p11, if_pos rfl], ⟨Or.inr (by rw [p11, if_pos rfl]), fun _ => ⟨?_, ?_, ?_, fun i hi => ?_⟩⟩, fun c hc => by rw [o3 c (by omega), fQ_G u2 c hc, f2 c hc]⟩
    · rw [FirstFour_reckon, g, qk_r (by omega) (by omega), if_pos rfl, t1']
      simp only [ob_sn]
      rw [hS2e, u1']
      rfl
    · rw [p11, if_neg (by omega), z3]
    · rw [p11, if_neg (by omega), z4.1]
      rfl
    · rw [p11, if_neg (by omega), z4.2]
      rfl
    · rw [o3 47 (by omega)]
      exact z6 i (by
        have := (best_ok (T := T) (lev := lev) hB).2.1
        show i < (fBest T lev Y).2.2.length
        omega)
  · refine ⟨S, ?_, hc, g, hF, fun c _ => rfl⟩
    rw [FirstFour_reckon, g, qk_r (by omega) (by omega), if_neg (by omega)]
end PRK
