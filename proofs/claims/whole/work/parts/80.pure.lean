/-! What is left: over plain functions, the law answers 1. -/
theorem pure_law (xs : Nat → Int) (LS : Nat) (hL : LS ≤ 3072) (hx : ∀ j, ok32 (xs j)) : ∃ σ' : St, fL_law_16 xs LS 0 49 sgI = some (1, σ') := by
  sorry
