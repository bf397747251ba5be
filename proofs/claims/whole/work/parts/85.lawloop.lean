/-! THE LAW: its loop, its start, the claim -/
section AZ
variable {X : qX} {b L : Nat} {xs : Nat → Int32} {S : qSto}
theorem a_pick {lv lv' : qLv} {pc : Nat} {st : List qV} (ks : List Nat) (hl : ks.filterMap (fun k => lv[k]?) = lv') (h : aW X b L xs pc lv' st S) : aW X b L xs pc lv st S := by
  intro p e s m below meth c H locs ls C hWd hS hv
  refine h p e s m below meth c H locs ls C hWd hS ⟨hv.1, hv.2.1, fun q hq => ?_⟩
  obtain ⟨q0, h0, rfl⟩ := List.mem_map.mp hq
  rw [← hl] at h0
  obtain ⟨k, -, hk⟩ := List.mem_filterMap.mp h0
  exact hv.2.2 _ (List.mem_map.mpr ⟨q0, List.mem_of_getElem? hk, rfl⟩)
theorem n_lt52 {w : Int} (h1 : 0 ≤ w) (h2 : w ≤ 51) : w = 0 ∨ w = 1 ∨ w = 2 ∨ w = 3 ∨ w = 4 ∨ w = 5 ∨ w = 6 ∨ w = 7 ∨ w = 8 ∨ w = 9 ∨ w = 10 ∨ w = 11 ∨ w = 12 ∨ w = 13 ∨ w = 14 ∨ w = 15 ∨ w = 16 ∨ w = 17 ∨ w = 18 ∨ w = 19 ∨ w = 20 ∨ w = 21 ∨ w = 22 ∨ w = 23 ∨ w = 24 ∨ w = 25 ∨ w = 26 ∨ w = 27 ∨ w = 28 ∨ w = 29 ∨ w = 30 ∨ w = 31 ∨ w = 32 ∨ w = 33 ∨ w = 34 ∨ w = 35 ∨ w = 36 ∨ w = 37 ∨ w = 38 ∨ w = 39 ∨ w = 40 ∨ w = 41 ∨ w = 42 ∨ w = 43 ∨ w = 44 ∨ w = 45 ∨ w = 46 ∨ w = 47 ∨ w = 48 ∨ w = 49 ∨ w = 50 ∨ w = 51 := by omega
set_option maxRecDepth 20000 in
theorem law_step {i : Int} (hL : ∀ c, c < 93 → c ∈ qLs X) (hb : L ≤ 3072) (h0 : 0 ≤ i) (h1 : i ≤ (L : Int)) (hG : iG S) (ih : i + 6 ≤ (L : Int) → ∀ S', iG S' → aW X b L xs 18 [(0, qo (.ref b)), (1, qr 0), (2, qr 70), (3, qi (i + 6))] [] S') : aW X b L xs 18 [(0, qo (.ref b)), (1, qr 0), (2, qr 70), (3, qi i)] [] S := by
  refine a_iload_n dL_law_18 rfl rfl ?_
  refine a_aloadO dL_law_19 rfl rfl ?_
  refine a_slen dL_law_20 rfl ?_
  refine a_bipush dL_law_21 (by decide) rfl ?_
  refine a_isub dL_law_23 rfl ?_
  refine a_icmp_gt (tgt := 1828) dL_law_24 (by decide) rfl ⟨by omega, by omega⟩ ⟨by omega, by omega⟩ (fun _ => a_end dL_law_1828 dL_law_1829) (fun hc => ?_)
  have h6 : i + 6 ≤ (L : Int) := by omega
  have inc : ∀ S', iG S' → aW X b L xs 1822 [(0, qo (.ref b)), (1, qr 0), (2, qr 70), (3, qi i)] [] S' := fun S' hS' => by
    refine a_iinc (lv' := [(3, qi (i + 6)), (0, qo (.ref b)), (1, qr 0), (2, qr 70)]) dL_law_1822 (by decide) rfl rfl rfl ?_
    refine a_goto (pc' := 18) dL_law_1825 (by decide) ?_
    exact a_pick [1, 2, 3, 0] rfl (ih h6 S' hS')
  refine a_aloadO dL_law_27 rfl rfl ?_
  refine a_iload_n dL_law_28 rfl rfl ?_
  refine a_sld hb dL_law_29 h0 (by omega) rfl ?_
  refine a_bipush dL_law_30 (by decide) rfl ?_
  refine a_iand dL_law_32 rfl (fun w hw => ?_)
  refine a_tsw (tgt := 1822) dL_law_33 hw (by decide) (fun _ => inc S hG) (fun g1 g2 => ?_)
  rcases n_lt52 g1 g2 with rfl | rfl | rfl | rfl | rfl | rfl | rfl | rfl | rfl | rfl | rfl | rfl | rfl | rfl | rfl | rfl | rfl | rfl | rfl | rfl | rfl | rfl | rfl | rfl | rfl | rfl | rfl | rfl | rfl | rfl | rfl | rfl | rfl | rfl | rfl | rfl | rfl | rfl | rfl | rfl | rfl | rfl | rfl | rfl | rfl | rfl | rfl | rfl | rfl | rfl | rfl | rfl
  · exact ⟨223, 256, rfl, by decide, law_feed hL hb h0 h6 hG inc⟩
  · exact ⟨286, 319, rfl, by decide, law_text hL hb h0 h6 hG inc⟩
  · exact ⟨309, 342, rfl, by decide, law_fault hL hb h0 h6 hG inc⟩
  · exact ⟨332, 365, rfl, by decide, law_count hL hb h0 h6 hG inc⟩
  · exact ⟨355, 388, rfl, by decide, law_depth hL hb h0 h6 hG inc⟩
  · exact ⟨378, 411, rfl, by decide, law_shallow hL hb h0 h6 hG inc⟩
  · exact ⟨411, 444, rfl, by decide, law_level hL hb h0 h6 hG inc⟩
  · exact ⟨434, 467, rfl, by decide, law_gangs hL hb h0 h6 hG inc⟩
  · exact ⟨467, 500, rfl, by decide, law_crane hL hb h0 h6 hG inc⟩
  · exact ⟨500, 533, rfl, by decide, law_ship hL hb h0 h6 hG inc⟩
  · exact ⟨533, 566, rfl, by decide, law_letter hL hb h0 h6 hG inc⟩
  · exact ⟨566, 599, rfl, by decide, law_moves hL hb h0 h6 hG inc⟩
  · exact ⟨589, 622, rfl, by decide, law_open hL hb h0 h6 hG inc⟩
  · exact ⟨622, 655, rfl, by decide, law_next hL hb h0 h6 hG inc⟩
  · exact ⟨655, 688, rfl, by decide, law_shut hL hb h0 h6 hG inc⟩
  · exact ⟨688, 721, rfl, by decide, law_tide hL hb h0 h6 hG inc⟩
  · exact ⟨731, 764, rfl, by decide, law_breaks hL hb h0 h6 hG inc⟩
  · exact ⟨784, 817, rfl, by decide, law_inWay hL hb h0 h6 hG inc⟩
  · exact ⟨837, 870, rfl, by decide, law_earliest hL hb h0 h6 hG inc⟩
  · exact ⟨880, 913, rfl, by decide, law_put hL hb h0 h6 hG inc⟩
  · exact ⟨933, 966, rfl, by decide, law_itself hL hb h0 h6 hG inc⟩
  · exact ⟨956, 989, rfl, by decide, law_away hL hb h0 h6 hG inc⟩
  · exact ⟨979, 1012, rfl, by decide, law_move hL hb h0 h6 hG inc⟩
  · exact ⟨1022, 1055, rfl, by decide, law_swap hL hb h0 h6 hG inc⟩
  · exact ⟨1055, 1088, rfl, by decide, law_squeeze hL hb h0 h6 hG inc⟩
  · exact ⟨1068, 1101, rfl, by decide, law_places hL hb h0 h6 hG inc⟩
  · exact ⟨1121, 1154, rfl, by decide, law_hopeless hL hb h0 h6 hG inc⟩
  · exact ⟨1134, 1167, rfl, by decide, law_slack hL hb h0 h6 hG inc⟩
  · exact ⟨1157, 1190, rfl, by decide, law_along hL hb h0 h6 hG inc⟩
  · exact ⟨1190, 1223, rfl, by decide, law_order hL hb h0 h6 hG inc⟩
  · exact ⟨1223, 1256, rfl, by decide, law_all hL hb h0 h6 hG inc⟩
  · exact ⟨1246, 1279, rfl, by decide, law_best hL hb h0 h6 hG inc⟩
  · exact ⟨1269, 1302, rfl, by decide, law_four hL hb h0 h6 hG inc⟩
  · exact ⟨1282, 1315, rfl, by decide, law_at hL hb h0 h6 hG inc⟩
  · exact ⟨1315, 1348, rfl, by decide, law_lies hL hb h0 h6 hG inc⟩
  · exact ⟨1348, 1381, rfl, by decide, law_free hL hb h0 h6 hG inc⟩
  · exact ⟨1381, 1414, rfl, by decide, law_works hL hb h0 h6 hG inc⟩
  · exact ⟨1414, 1447, rfl, by decide, law_hours hL hb h0 h6 hG inc⟩
  · exact ⟨1437, 1470, rfl, by decide, law_left hL hb h0 h6 hG inc⟩
  · exact ⟨1470, 1503, rfl, by decide, law_shift hL hb h0 h6 hG inc⟩
  · exact ⟨1513, 1546, rfl, by decide, law_busiest hL hb h0 h6 hG inc⟩
  · exact ⟨1536, 1569, rfl, by decide, law_without hL hb h0 h6 hG inc⟩
  · exact ⟨1559, 1592, rfl, by decide, law_used hL hb h0 h6 hG inc⟩
  · exact ⟨1582, 1615, rfl, by decide, law_rank hL hb h0 h6 hG inc⟩
  · exact ⟨1615, 1648, rfl, by decide, law_leaver hL hb h0 h6 hG inc⟩
  · exact ⟨1638, 1671, rfl, by decide, law_meet hL hb h0 h6 hG inc⟩
  · exact ⟨1671, 1704, rfl, by decide, law_write hL hb h0 h6 hG inc⟩
  · exact ⟨1684, 1717, rfl, by decide, law_octet hL hb h0 h6 hG inc⟩
  · exact ⟨1707, 1740, rfl, by decide, law_differs hL hb h0 h6 hG inc⟩
  · exact ⟨1730, 1763, rfl, by decide, law_undo hL hb h0 h6 hG inc⟩
  · exact ⟨1743, 1776, rfl, by decide, law_mark hL hb h0 h6 hG inc⟩
  · exact ⟨1766, 1799, rfl, by decide, law_back hL hb h0 h6 hG inc⟩
theorem law_loop (hL : ∀ c, c < 93 → c ∈ qLs X) (hb : L ≤ 3072) : ∀ (n : Nat) (i : Int) (S : qSto), 0 ≤ i → i ≤ (L : Int) → (L : Int) - i < n → iG S → aW X b L xs 18 [(0, qo (.ref b)), (1, qr 0), (2, qr 70), (3, qi i)] [] S
  | 0, i, S, h0, h1, hn, hG => by omega
  | n + 1, i, S, h0, h1, hn, hG => law_step hL hb h0 h1 hG (fun h6 S' hS' => law_loop hL hb n (i + 6) S' (by omega) h6 (by omega) hS')
end AZ
