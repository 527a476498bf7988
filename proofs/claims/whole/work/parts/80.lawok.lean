theorem law_ok (xs : Nat → Int32) (LL : Nat) (hL : LL ≤ 3072) : ∃ s, f_law xs LL = some (.inl s) := by
  sorry
