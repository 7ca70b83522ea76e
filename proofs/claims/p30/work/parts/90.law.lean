/-! ===== the law, in numbers ===== -/
theorem pu_law (Ls : Nat) (hLs : Ls ≤ 260) (xs : Nat → Int32) : ∃ s', fL_law_c23 Ls xs (k_s0T, k_s0R) = some (1, s') := by
  sorry
