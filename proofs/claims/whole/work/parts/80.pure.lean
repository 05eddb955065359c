/-! what is left to show of numbers alone: the law's own answer is 1 -/
theorem law_pure (L : Nat) (hL : L ≤ 3072) (xs : Nat → Int32) : ∃ n, f_L_law_28 n L xs n j0 j0 j0 j0 0 0 j0 j0 0 j0 0 j0 j0 j0 0 j0 0 j0 j0 0 0 0 0 0 0 0 (fun _ => 0) (fun _ => 0) 0 = some 1 := by
  sorry
