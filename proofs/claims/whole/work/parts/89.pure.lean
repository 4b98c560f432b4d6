theorem pure_law (xs : Nat → Int32) (L : Nat) (hL : L ≤ 320) : law_f xs L hS = some (1 : Int32) := by
  have key : ∃ x, iter (law_l18 xs L) FU ((0 : Int32), hS) = some x ∧ ∃ u, x = .inr u := by
    refine iterN (P := fun k st => ∃ i h, st = (nI i, h) ∧ i + k = 330 ∧ i ≤ 324 ∧ Rel h h) ?_ FU 330 _ ⟨0, hS, rfl, rfl, by decide, Rel_hS⟩ (by decide)
    rintro k st ⟨i, h, rfl, h1, h2, h3⟩
    by_cases g : L < i + 5
    · left
      have el : ((Int32.ofNat L) - (5 : Int32)) < nI i := by
        have := lim (L := L) (i := i) hL (by omega)
        show (nI L - (5 : Int32)) < nI i
        rw [this]
        exact g
      rw [law_l18, if_pos el]
      exact ⟨_, rfl, _, rfl⟩
    · right
      obtain ⟨h', e1, e2⟩ := law_step (xs := xs) (i := i) hL (show i + 5 ≤ L by omega) h3
      rw [e1]
      exact ⟨_, k - 5, by omega, rfl, i + 5, h', rfl, by omega, by omega, e2⟩
  obtain ⟨x, e, u, rfl⟩ := key
  rw [law_f, e]
  rfl
