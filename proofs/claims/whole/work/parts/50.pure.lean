theorem dtPure {L : Nat} (hL : L ≤ 384) (xs : Nat → Int32) : ∃ F, f_L_law (dtMu0 L xs) = some (1, F) ∧ dtN F ≤ 600000 ∧ dtZ F ≤ 7302250 := by
  sorry
