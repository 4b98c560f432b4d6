theorem pure_law (xs : Nat → Int32) (L : Nat) (hL : L ≤ 320) : law_f xs L hS = some (1 : Int32) := by
  sorry
