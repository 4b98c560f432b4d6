/-! how it begins -/
set_option maxRecDepth 20000 in
theorem hS_a : gI hS (1, 0) 1 = 0 ∧ gI hS (20, 0) 9 = 0 ∧ gI hS (0, 0) 8 = 0 ∧ gI hS (20, 0) 12 = 0 ∧ gI hS (0, 0) 9 = 0 ∧ gI hS (20, 0) 13 = 0 ∧ gI hS (0, 0) 12 = 0 ∧ gI hS (20, 0) 18 = 0 ∧ gI hS (0, 0) 15 = gI hS (20, 0) 27 ∧ gI hS (20, 0) 25 = 0 ∧ gI hS (20, 0) 14 = 0 ∧ gI hS (7, 0) 2 = 0 ∧ gI hS (20, 0) 5 = 0 ∧ gI hS (20, 0) 16 = -1 ∧ gI hS (14, 1) 0 = 0 ∧ gI hS (20, 0) 21 = 0 ∧ gI hS (20, 0) 20 = -1 ∧ gI hS (12, 0) 1 = 0 ∧ gI hS (20, 0) 28 = 0 ∧ gI hS (12, 0) 2 = 0 ∧ gI hS (12, 0) 3 = 0 := by decide +kernel
set_option maxRecDepth 20000 in
theorem hS_b : gR hS (0, 0) 13 = some 0 ∧ gR hS (7, 0) 1 = some 0 ∧ gR hS (0, 0) 10 = none ∧ gR hS (14, 1) 2 = none ∧ gL hS (14, 1) 1 = gL hS (20, 0) 19 := by decide +kernel
set_option maxRecDepth 20000 in
theorem hS_c : ∀ i, i < 24 → gI hS (21, 0) i = 0 ∧ gI hS (5, i) 2 = 0 ∧ gI hS (5, i) 1 = 0 := by decide +kernel
theorem Rel_hS : Rel hS hS := by
  obtain ⟨a1, a2, a3, a4, a5, a6, a7, a8, a9, a10, a11, a12, a13, a14, a15, a16, a17, a18, a19, a20, a21⟩ := hS_a
  obtain ⟨b1, b2, b3, b4, b5⟩ := hS_b
  refine ⟨⟨0, by decide, a1, a2, fun j hj => by omega⟩, ⟨⟨by rw [a3, a4], Or.inl a4⟩, by rw [a5, a6], ⟨by rw [a7, a8], Or.inl a8⟩, a9⟩, ⟨0, by decide, b1, a10, fun q => by cases q⟩, Or.inr ⟨by rw [a6]; decide, by rw [a6]; decide, a11⟩, fun i hi => Or.inl (hS_c i hi), ⟨fun _ => 0, fun i hi hu => absurd (hS_c i hi).1 hu⟩, ⟨0, by decide, a12, a13, hS_n, b2, fun k hk => by omega⟩, Or.inl ⟨b3, a14⟩, ⟨b5, ⟨0, by decide, a15, a16⟩, Or.inl ⟨b4, a17⟩⟩, by rw [a18, a19], Or.inl ⟨a19, a20, a21⟩⟩
