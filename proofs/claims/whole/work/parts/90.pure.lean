/-! ===== the pure part's end ===== -/
def k_s0T : k_S := (fun _ => 0, k_up (fun _ _ => 0) 3 (k_fl (fun _ => 0) 0 4 (-9)))
def k_s0M : k_S := (fun _ => 0, k_up (fun _ _ => 0) 0 (upd (upd (upd (upd (fun _ => 0) 0 (-9)) 1 (-9)) 2 (-9)) 3 (-9)))
theorem pu_law (Ls : Nat) (hLs : Ls ≤ 3584) (xs : Nat → Int32) : ∃ s', fL Ls xs (Ls + 1) (k_s0T, k_s0M) 0 = some (1, s') := by
  sorry
