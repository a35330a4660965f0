theorem main_pure (xs : Nat → Int32) (n : Nat) (hn : n ≤ 512) : ∃ τ, frun xs n 0 kInit = some τ := sorry
