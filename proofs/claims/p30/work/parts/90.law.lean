/-! ===== the law, in numbers ===== -/
def k_s0T : k_S := (fun _ => 0, k_up (fun _ _ => 0) 3 (k_fl (fun _ => 0) 0 4 (-9)))
def k_s0R : k_S := (fun _ => 0, fun _ _ => 0)
theorem pu_law (Ls : Nat) (hLs : Ls ≤ 260) (xs : Nat → Int32) : ∃ s', fL_law_c23 Ls xs (k_s0T, k_s0R) = some (1, s') := by
  sorry
