theorem whole_pure (L : Nat) (xs : Nat → Int32) (hL : L ≤ 3074) : wp_whole L xs := by
  sorry
