/-! the store behind the class' constructor -/
theorem n_iZ {F : qSto} (h : rQ F tN0) : iZ (nSb F) := by
  obtain ⟨r1, r2, r3, r4, r5, -, -, -, r9, -⟩ := h
  have z : ∀ c, (∀ j, nSb F c j = 0) → gB (nSb F) c := fun c hc s _ => by rw [hc s]; decide
  exact ⟨fun i hi => r1 i hi, ⟨r2, r3, r4, r5⟩, fun k hk => (r9 k hk).trans (tN0_g hk), fun _ _ => rfl, ⟨fun _ _ => rfl, fun _ _ => rfl, z 37 (fun _ => rfl), z 38 (fun _ => rfl), z 39 (fun _ => rfl), z 41 (fun _ => rfl), z 42 (fun _ => rfl)⟩, ⟨z 78 (fun _ => rfl), z 79 (fun _ => rfl), z 81 (fun _ => rfl), z 82 (fun _ => rfl)⟩, ⟨rfl, rfl, rfl, rfl⟩, ⟨rfl, rfl, rfl, rfl⟩, ⟨rfl, rfl, rfl, rfl⟩⟩
/-- both constructors, as far as the stores go -/
theorem n_first : ∃ F S1 S2, Heard_forget (fun _ _ => 0) = some F ∧ M_blank (nSb F) = some S1 ∧ M_stands S1 = some S2 ∧ iG S2 := by
  obtain ⟨F, f1, f2, -⟩ := forget_s (S := fun _ _ => 0)
  obtain ⟨S1, S2, g1, g2, g3⟩ := first_iG (n_iZ f2)
  exact ⟨F, S1, S2, f1, g1, g2, g3⟩
