/-! ===== the pure part's end ===== -/
def k_s0T : k_S := (fun _ => 0, k_up (fun _ _ => 0) 3 (k_fl (fun _ => 0) 0 4 (-9)))
def k_s0M : k_S := (fun _ => 0, k_up (fun _ _ => 0) 0 (upd (upd (upd (upd (fun _ => 0) 0 (-9)) 1 (-9)) 2 (-9)) 3 (-9)))
theorem pu_start : RR k_s0T k_s0M := by
  refine ⟨⟨0, 0, 0, 0, ⟨rfl, rfl⟩, ⟨rfl, rfl⟩, ⟨rfl, rfl⟩, ⟨rfl, rfl⟩, ⟨by decide, by decide, by decide, by decide, fun _ => ⟨rfl, rfl⟩⟩, ⟨rfl, rfl, rfl, rfl, rfl, rfl⟩, fun x h => absurd h (Nat.not_lt_zero x), fun g h => absurd h (Nat.not_lt_zero g), fun n h => absurd h (Nat.not_lt_zero n), fun n h => absurd h (Nat.not_lt_zero n), fun j _ => ⟨rfl, rfl⟩, fun h => absurd rfl h⟩, fun k hk => .inl ?_, rfl, rfl⟩
  rcases (show k = 0 ∨ k = 1 ∨ k = 2 ∨ k = 3 by omega) with rfl | rfl | rfl | rfl
  all_goals exact ⟨rfl, rfl⟩
theorem q_cmp (x : Int64) : lg_cmp x x = 0 := by
  unfold lg_cmp
  simp
theorem pl_0 {Ls a : Nat} (hLs : Ls ≤ 3584) (ha : a + 7 ≤ Ls) (xs : Nat → Int32) {kh : k_S × k_S → Int32 → Option (Int32 × (k_S × k_S))} {s : k_S × k_S} (h : RR s.1 s.2) (hk : ∀ s', RR s'.1 s'.2 → ∃ s'', kh s' (nI (a + 7)) = some (1, s'')) : ∃ s'', fL_0 Ls xs kh s (nI a) = some (1, s'') := by
  obtain ⟨r, σ', τ', e1, e2, e3⟩ := pu_inn h (xs (a + 1)) (xs (a + 2)) (xs (a + 3)) (xs (a + 4))
  unfold fL_0 fL_next
  simp (disch := omega) only [q_add, q_gd, q_cl, q_ob, q_bn, e1, e2, if_true]
  exact hk _ e3
theorem pl_1 {Ls a : Nat} (hLs : Ls ≤ 3584) (ha : a + 7 ≤ Ls) (xs : Nat → Int32) {kh : k_S × k_S → Int32 → Option (Int32 × (k_S × k_S))} {s : k_S × k_S} (h : RR s.1 s.2) (hk : ∀ s', RR s'.1 s'.2 → ∃ s'', kh s' (nI (a + 7)) = some (1, s'')) : ∃ s'', fL_1 Ls xs kh s (nI a) = some (1, s'') := by
  obtain ⟨r, σ', τ', e1, e2, e3⟩ := pu_ofTale h (xs (a + 1)) (xs (a + 2))
  unfold fL_1 fL_next
  simp (disch := omega) only [q_add, q_gd, q_cl, q_ob, q_bn, e1, e2, if_true]
  exact hk _ e3
theorem pl_2 {Ls a : Nat} (hLs : Ls ≤ 3584) (ha : a + 7 ≤ Ls) (xs : Nat → Int32) {kh : k_S × k_S → Int32 → Option (Int32 × (k_S × k_S))} {s : k_S × k_S} (h : RR s.1 s.2) (hk : ∀ s', RR s'.1 s'.2 → ∃ s'', kh s' (nI (a + 7)) = some (1, s'')) : ∃ s'', fL_2 Ls xs kh s (nI a) = some (1, s'') := by
  obtain ⟨r, σ', τ', e1, e2, e3⟩ := pu_memory h (xs (a + 1))
  unfold fL_2 fL_next
  simp (disch := omega) only [q_add, q_gd, q_cl, q_ob, q_bn, e1, e2, if_true]
  exact hk _ e3
theorem pl_3 {Ls a : Nat} (hLs : Ls ≤ 3584) (ha : a + 7 ≤ Ls) (xs : Nat → Int32) {kh : k_S × k_S → Int32 → Option (Int32 × (k_S × k_S))} {s : k_S × k_S} (h : RR s.1 s.2) (hk : ∀ s', RR s'.1 s'.2 → ∃ s'', kh s' (nI (a + 7)) = some (1, s'')) : ∃ s'', fL_3 Ls xs kh s (nI a) = some (1, s'') := by
  obtain ⟨r, σ', τ', e1, e2, e3⟩ := pu_choose h (xs (a + 1)) (xs (a + 2))
  unfold fL_3 fL_next
  simp (disch := omega) only [q_add, q_gd, q_cl, q_ob, q_bn, e1, e2, if_true]
  exact hk _ e3
theorem pl_4 {Ls a : Nat} (hLs : Ls ≤ 3584) (ha : a + 7 ≤ Ls) (xs : Nat → Int32) {kh : k_S × k_S → Int32 → Option (Int32 × (k_S × k_S))} {s : k_S × k_S} (h : RR s.1 s.2) (hk : ∀ s', RR s'.1 s'.2 → ∃ s'', kh s' (nI (a + 7)) = some (1, s'')) : ∃ s'', fL_4 Ls xs kh s (nI a) = some (1, s'') := by
  obtain ⟨r, σ', τ', e1, e2, e3⟩ := pu_night h
  unfold fL_4 fL_next
  simp (disch := omega) only [q_add, q_gd, q_cl, q_ob, q_bn, e1, e2, if_true]
  exact hk _ e3
theorem pl_5 {Ls a : Nat} (hLs : Ls ≤ 3584) (ha : a + 7 ≤ Ls) (xs : Nat → Int32) {kh : k_S × k_S → Int32 → Option (Int32 × (k_S × k_S))} {s : k_S × k_S} (h : RR s.1 s.2) (hk : ∀ s', RR s'.1 s'.2 → ∃ s'', kh s' (nI (a + 7)) = some (1, s'')) : ∃ s'', fL_5 Ls xs kh s (nI a) = some (1, s'') := by
  obtain ⟨r, σ', τ', e1, e2, e3⟩ := pu_ofNight h (xs (a + 1)) (xs (a + 2)) (xs (a + 3))
  unfold fL_5 fL_next
  simp (disch := omega) only [q_add, q_gd, q_cl, q_ob, q_bn, e1, e2, if_true]
  exact hk _ e3
theorem pl_6 {Ls a : Nat} (hLs : Ls ≤ 3584) (ha : a + 7 ≤ Ls) (xs : Nat → Int32) {kh : k_S × k_S → Int32 → Option (Int32 × (k_S × k_S))} {s : k_S × k_S} (h : RR s.1 s.2) (hk : ∀ s', RR s'.1 s'.2 → ∃ s'', kh s' (nI (a + 7)) = some (1, s'')) : ∃ s'', fL_6 Ls xs kh s (nI a) = some (1, s'') := by
  obtain ⟨r, σ', τ', e1, e2, e3⟩ := pu_undo h (xs (a + 1))
  unfold fL_6 fL_next
  simp (disch := omega) only [q_add, q_gd, q_cl, q_ob, q_bn, e1, e2, if_true]
  exact hk _ e3
theorem pl_7 {Ls a : Nat} (hLs : Ls ≤ 3584) (ha : a + 7 ≤ Ls) (xs : Nat → Int32) {kh : k_S × k_S → Int32 → Option (Int32 × (k_S × k_S))} {s : k_S × k_S} (h : RR s.1 s.2) (hk : ∀ s', RR s'.1 s'.2 → ∃ s'', kh s' (nI (a + 7)) = some (1, s'')) : ∃ s'', fL_7 Ls xs kh s (nI a) = some (1, s'') := by
  obtain ⟨r, σ', τ', e1, e2, e3⟩ := pu_lay h (xs (a + 1)) (xs (a + 2))
  unfold fL_7 fL_next
  simp (disch := omega) only [q_add, q_gd, q_cl, q_ob, q_bn, e1, e2, if_true]
  exact hk _ e3
theorem pl_8 {Ls a : Nat} (hLs : Ls ≤ 3584) (ha : a + 7 ≤ Ls) (xs : Nat → Int32) {kh : k_S × k_S → Int32 → Option (Int32 × (k_S × k_S))} {s : k_S × k_S} (h : RR s.1 s.2) (hk : ∀ s', RR s'.1 s'.2 → ∃ s'', kh s' (nI (a + 7)) = some (1, s'')) : ∃ s'', fL_8 Ls xs kh s (nI a) = some (1, s'') := by
  obtain ⟨r, σ', τ', e1, e2, e3⟩ := pu_tonight h (xs (a + 1)) (xs (a + 2))
  unfold fL_8 fL_next
  simp (disch := omega) only [q_add, q_gd, q_cl, q_ob, q_bn, e1, e2, if_true]
  exact hk _ e3
theorem pl_9 {Ls a : Nat} (hLs : Ls ≤ 3584) (ha : a + 7 ≤ Ls) (xs : Nat → Int32) {kh : k_S × k_S → Int32 → Option (Int32 × (k_S × k_S))} {s : k_S × k_S} (h : RR s.1 s.2) (hk : ∀ s', RR s'.1 s'.2 → ∃ s'', kh s' (nI (a + 7)) = some (1, s'')) : ∃ s'', fL_9 Ls xs kh s (nI a) = some (1, s'') := by
  obtain ⟨r, σ', τ', e1, e2, e3⟩ := pu_answer h (xs (a + 1)) (xs (a + 2))
  unfold fL_9 fL_next
  simp (disch := omega) only [q_add, q_gd, q_cl, q_ob, q_bn, e1, e2, if_true]
  exact hk _ e3
theorem pl_10 {Ls a : Nat} (hLs : Ls ≤ 3584) (ha : a + 7 ≤ Ls) (xs : Nat → Int32) {kh : k_S × k_S → Int32 → Option (Int32 × (k_S × k_S))} {s : k_S × k_S} (h : RR s.1 s.2) (hk : ∀ s', RR s'.1 s'.2 → ∃ s'', kh s' (nI (a + 7)) = some (1, s'')) : ∃ s'', fL_10 Ls xs kh s (nI a) = some (1, s'') := by
  obtain ⟨r, σ', τ', e1, e2, e3⟩ := pu_borrowed h (xs (a + 1)) (xs (a + 2))
  unfold fL_10 fL_next
  simp (disch := omega) only [q_add, q_gd, q_cl, q_ob, q_bn, e1, e2, if_true]
  exact hk _ e3
theorem pl_11 {Ls a : Nat} (hLs : Ls ≤ 3584) (ha : a + 7 ≤ Ls) (xs : Nat → Int32) {kh : k_S × k_S → Int32 → Option (Int32 × (k_S × k_S))} {s : k_S × k_S} (h : RR s.1 s.2) (hk : ∀ s', RR s'.1 s'.2 → ∃ s'', kh s' (nI (a + 7)) = some (1, s'')) : ∃ s'', fL_11 Ls xs kh s (nI a) = some (1, s'') := by
  obtain ⟨r, σ', τ', e1, e2, e3⟩ := pu_bishop h (xs (a + 1))
  unfold fL_11 fL_next
  simp (disch := omega) only [q_add, q_gd, q_cl, q_ob, q_bn, e1, e2, if_true]
  exact hk _ e3
theorem pl_12 {Ls a : Nat} (hLs : Ls ≤ 3584) (ha : a + 7 ≤ Ls) (xs : Nat → Int32) {kh : k_S × k_S → Int32 → Option (Int32 × (k_S × k_S))} {s : k_S × k_S} (h : RR s.1 s.2) (hk : ∀ s', RR s'.1 s'.2 → ∃ s'', kh s' (nI (a + 7)) = some (1, s'')) : ∃ s'', fL_12 Ls xs kh s (nI a) = some (1, s'') := by
  obtain ⟨r, σ', τ', e1, e2, e3⟩ := pu_rests h (xs (a + 1))
  unfold fL_12 fL_next
  simp (disch := omega) only [q_add, q_gd, q_cl, q_ob, q_bn, e1, e2, if_true]
  exact hk _ e3
theorem pl_13 {Ls a : Nat} (hLs : Ls ≤ 3584) (ha : a + 7 ≤ Ls) (xs : Nat → Int32) {kh : k_S × k_S → Int32 → Option (Int32 × (k_S × k_S))} {s : k_S × k_S} (h : RR s.1 s.2) (hk : ∀ s', RR s'.1 s'.2 → ∃ s'', kh s' (nI (a + 7)) = some (1, s'')) : ∃ s'', fL_13 Ls xs kh s (nI a) = some (1, s'') := by
  obtain ⟨r, σ', τ', e1, e2, e3⟩ := pu_winter h (xs (a + 1)) (xs (a + 2)) (xs (a + 3)) (xs (a + 4)) (xs (a + 5)) (xs (a + 6))
  unfold fL_13 fL_next
  simp (disch := omega) only [q_add, q_gd, q_cl, q_ob, q_bn, e1, e2, if_true]
  exact hk _ e3
theorem pl_14 {Ls a : Nat} (hLs : Ls ≤ 3584) (ha : a + 7 ≤ Ls) (xs : Nat → Int32) {kh : k_S × k_S → Int32 → Option (Int32 × (k_S × k_S))} {s : k_S × k_S} (h : RR s.1 s.2) (hk : ∀ s', RR s'.1 s'.2 → ∃ s'', kh s' (nI (a + 7)) = some (1, s'')) : ∃ s'', fL_14 Ls xs kh s (nI a) = some (1, s'') := by
  obtain ⟨r, σ', τ', e1, e2, e3⟩ := pu_trade h (xs (a + 1)) (xs (a + 2))
  unfold fL_14 fL_next
  simp (disch := omega) only [q_add, q_gd, q_cl, q_ob, q_bn, e1, e2, if_true]
  exact hk _ e3
theorem pl_15 {Ls a : Nat} (hLs : Ls ≤ 3584) (ha : a + 7 ≤ Ls) (xs : Nat → Int32) {kh : k_S × k_S → Int32 → Option (Int32 × (k_S × k_S))} {s : k_S × k_S} (h : RR s.1 s.2) (hk : ∀ s', RR s'.1 s'.2 → ∃ s'', kh s' (nI (a + 7)) = some (1, s'')) : ∃ s'', fL_15 Ls xs kh s (nI a) = some (1, s'') := by
  obtain ⟨r, σ', τ', e1, e2, e3⟩ := pu_toldBy h (xs (a + 1)) (xs (a + 2)) (xs (a + 3)) (xs (a + 4)) (xs (a + 5))
  unfold fL_15 fL_next
  simp (disch := omega) only [q_add, q_gd, q_cl, q_ob, q_bn, e1, e2, if_true]
  exact hk _ e3
theorem pl_16 {Ls a : Nat} (hLs : Ls ≤ 3584) (ha : a + 7 ≤ Ls) (xs : Nat → Int32) {kh : k_S × k_S → Int32 → Option (Int32 × (k_S × k_S))} {s : k_S × k_S} (h : RR s.1 s.2) (hk : ∀ s', RR s'.1 s'.2 → ∃ s'', kh s' (nI (a + 7)) = some (1, s'')) : ∃ s'', fL_16 Ls xs kh s (nI a) = some (1, s'') := by
  obtain ⟨r, σ', τ', e1, e2, e3⟩ := pu_sheet h (xs (a + 1)) (xs (a + 2)) (xs (a + 3))
  unfold fL_16 fL_next
  simp (disch := omega) only [q_add, q_gd, q_cl, q_ob, q_bn, e1, e2, if_true]
  exact hk _ e3
theorem pl_17 {Ls a : Nat} (hLs : Ls ≤ 3584) (ha : a + 7 ≤ Ls) (xs : Nat → Int32) {kh : k_S × k_S → Int32 → Option (Int32 × (k_S × k_S))} {s : k_S × k_S} (h : RR s.1 s.2) (hk : ∀ s', RR s'.1 s'.2 → ∃ s'', kh s' (nI (a + 7)) = some (1, s'')) : ∃ s'', fL_17 Ls xs kh s (nI a) = some (1, s'') := by
  obtain ⟨r, σ', τ', e1, e2, e3⟩ := pu_lose h (xs (a + 1))
  unfold fL_17 fL_next
  simp (disch := omega) only [q_add, q_gd, q_cl, q_ob, q_bn, e1, e2, if_true]
  exact hk _ e3
theorem pl_18 {Ls a : Nat} (hLs : Ls ≤ 3584) (ha : a + 7 ≤ Ls) (xs : Nat → Int32) {kh : k_S × k_S → Int32 → Option (Int32 × (k_S × k_S))} {s : k_S × k_S} (h : RR s.1 s.2) (hk : ∀ s', RR s'.1 s'.2 → ∃ s'', kh s' (nI (a + 7)) = some (1, s'')) : ∃ s'', fL_18 Ls xs kh s (nI a) = some (1, s'') := by
  obtain ⟨r, σ', τ', e1, e2, e3⟩ := pu_put h (xs (a + 1)) (xs (a + 2)) (xs (a + 3))
  unfold fL_18 fL_next
  simp (disch := omega) only [q_add, q_gd, q_cl, q_ob, q_bn, e1, e2, if_true]
  exact hk _ e3
theorem pl_19 {Ls a : Nat} (hLs : Ls ≤ 3584) (ha : a + 7 ≤ Ls) (xs : Nat → Int32) {kh : k_S × k_S → Int32 → Option (Int32 × (k_S × k_S))} {s : k_S × k_S} (h : RR s.1 s.2) (hk : ∀ s', RR s'.1 s'.2 → ∃ s'', kh s' (nI (a + 7)) = some (1, s'')) : ∃ s'', fL_19 Ls xs kh s (nI a) = some (1, s'') := by
  obtain ⟨r, σ', τ', e1, e2, e3⟩ := pu_cell h (xs (a + 1)) (xs (a + 2)) (xs (a + 3))
  unfold fL_19 fL_next
  simp (disch := omega) only [q_add, q_gd, q_cl, q_ob, q_bn, e1, e2]
  rw [q_cmp, if_pos rfl]
  exact hk _ e3
theorem pl_20 {Ls a : Nat} (hLs : Ls ≤ 3584) (ha : a + 7 ≤ Ls) (xs : Nat → Int32) {kh : k_S × k_S → Int32 → Option (Int32 × (k_S × k_S))} {s : k_S × k_S} (h : RR s.1 s.2) (hk : ∀ s', RR s'.1 s'.2 → ∃ s'', kh s' (nI (a + 7)) = some (1, s'')) : ∃ s'', fL_20 Ls xs kh s (nI a) = some (1, s'') := by
  obtain ⟨r, σ', τ', e1, e2, e3⟩ := pu_copy h (xs (a + 1)) (xs (a + 2)) (xs (a + 3)) (xs (a + 4)) (xs (a + 5))
  unfold fL_20 fL_next
  simp (disch := omega) only [q_add, q_gd, q_cl, q_ob, q_bn, e1, e2, if_true]
  exact hk _ e3
theorem pl_21 {Ls a : Nat} (hLs : Ls ≤ 3584) (ha : a + 7 ≤ Ls) (xs : Nat → Int32) {kh : k_S × k_S → Int32 → Option (Int32 × (k_S × k_S))} {s : k_S × k_S} (h : RR s.1 s.2) (hk : ∀ s', RR s'.1 s'.2 → ∃ s'', kh s' (nI (a + 7)) = some (1, s'')) : ∃ s'', fL_21 Ls xs kh s (nI a) = some (1, s'') := by
  obtain ⟨r, σ', τ', e1, e2, e3⟩ := pu_tell h (xs (a + 1))
  unfold fL_21 fL_next
  simp (disch := omega) only [q_add, q_gd, q_cl, q_ob, q_bn, e1, e2, if_true]
  exact hk _ e3
theorem pl_22 {Ls a : Nat} (hLs : Ls ≤ 3584) (ha : a + 7 ≤ Ls) (xs : Nat → Int32) {kh : k_S × k_S → Int32 → Option (Int32 × (k_S × k_S))} {s : k_S × k_S} (h : RR s.1 s.2) (hk : ∀ s', RR s'.1 s'.2 → ∃ s'', kh s' (nI (a + 7)) = some (1, s'')) : ∃ s'', fL_22 Ls xs kh s (nI a) = some (1, s'') := by
  obtain ⟨r, σ', τ', e1, e2, e3⟩ := pu_swear h (xs (a + 1))
  unfold fL_22 fL_next
  simp (disch := omega) only [q_add, q_gd, q_cl, q_ob, q_bn, e1, e2, if_true]
  exact hk _ e3
theorem pl_23 {Ls a : Nat} (hLs : Ls ≤ 3584) (ha : a + 7 ≤ Ls) (xs : Nat → Int32) {kh : k_S × k_S → Int32 → Option (Int32 × (k_S × k_S))} {s : k_S × k_S} (h : RR s.1 s.2) (hk : ∀ s', RR s'.1 s'.2 → ∃ s'', kh s' (nI (a + 7)) = some (1, s'')) : ∃ s'', fL_23 Ls xs kh s (nI a) = some (1, s'') := by
  obtain ⟨r, σ', τ', e1, e2, e3⟩ := pu_as h (xs (a + 1)) (xs (a + 2))
  unfold fL_23 fL_next
  simp (disch := omega) only [q_add, q_gd, q_cl, q_ob, q_bn, e1, e2, if_true]
  exact hk _ e3
theorem pl_24 {Ls a : Nat} (hLs : Ls ≤ 3584) (ha : a + 7 ≤ Ls) (xs : Nat → Int32) {kh : k_S × k_S → Int32 → Option (Int32 × (k_S × k_S))} {s : k_S × k_S} (h : RR s.1 s.2) (hk : ∀ s', RR s'.1 s'.2 → ∃ s'', kh s' (nI (a + 7)) = some (1, s'')) : ∃ s'', fL_24 Ls xs kh s (nI a) = some (1, s'') := by
  obtain ⟨r, σ', τ', e1, e2, e3⟩ := pu_trace h
  unfold fL_24 fL_next
  simp (disch := omega) only [q_add, q_gd, q_cl, q_ob, q_bn, e1, e2, if_true]
  exact hk _ e3
theorem pl_25 {Ls a : Nat} (hLs : Ls ≤ 3584) (ha : a + 7 ≤ Ls) (xs : Nat → Int32) {kh : k_S × k_S → Int32 → Option (Int32 × (k_S × k_S))} {s : k_S × k_S} (h : RR s.1 s.2) (hk : ∀ s', RR s'.1 s'.2 → ∃ s'', kh s' (nI (a + 7)) = some (1, s'')) : ∃ s'', fL_25 Ls xs kh s (nI a) = some (1, s'') := by
  obtain ⟨r, σ', τ', e1, e2, e3⟩ := pu_fault h
  unfold fL_25 fL_next
  simp (disch := omega) only [q_add, q_gd, q_cl, q_ob, q_bn, e1, e2, if_true]
  exact hk _ e3
theorem pl_26 {Ls a : Nat} (hLs : Ls ≤ 3584) (ha : a + 7 ≤ Ls) (xs : Nat → Int32) {kh : k_S × k_S → Int32 → Option (Int32 × (k_S × k_S))} {s : k_S × k_S} (h : RR s.1 s.2) (hk : ∀ s', RR s'.1 s'.2 → ∃ s'', kh s' (nI (a + 7)) = some (1, s'')) : ∃ s'', fL_26 Ls xs kh s (nI a) = some (1, s'') := by
  obtain ⟨r, σ', τ', e1, e2, e3⟩ := pu_many h (xs (a + 1))
  unfold fL_26 fL_next
  simp (disch := omega) only [q_add, q_gd, q_cl, q_ob, q_bn, e1, e2, if_true]
  exact hk _ e3
theorem pu_law (Ls : Nat) (hLs : Ls ≤ 3584) (xs : Nat → Int32) : ∃ s', fL Ls xs (Ls + 1) (k_s0T, k_s0M) 0 = some (1, s') := by
  have key : ∀ (f a : Nat) (s : k_S × k_S), a ≤ Ls → Ls < f + a → RR s.1 s.2 → ∃ s', fL Ls xs f s (nI a) = some (1, s') := by
    intro f
    induction f with
    | zero => intro a s h1 h2; omega
    | succ f ih =>
      intro a s h1 h2 h
      have hlt : (nI Ls - nI 7 < nI a) = (Ls < a + 7) := by
        rw [Int32.lt_iff_toInt_lt, pk_sub_toInt (by omega) (by decide), nI_toInt (by omega)]
        exact propext (by omega)
      rw [fL_s]
      by_cases he : Ls < a + 7
      · rw [if_pos (by rw [hlt]; exact he)]
        exact ⟨s, rfl⟩
      have hk : ∀ s' : k_S × k_S, RR s'.1 s'.2 → ∃ s'', fL Ls xs f s' (nI (a + 7)) = some (1, s'') := fun s' h' => ih (a + 7) s' (by omega) (by omega) h'
      rw [if_neg (by rw [hlt]; exact he), q_gd (by omega) (by omega), q_cl (by omega)]
      generalize xs a &&& nI 31 = v
      by_cases c0 : v = nI 0
      · rw [if_pos c0]
        exact pl_0 hLs (by omega) xs h hk
      rw [if_neg c0]
      by_cases c1 : v = nI 1
      · rw [if_pos c1]
        exact pl_1 hLs (by omega) xs h hk
      rw [if_neg c1]
      by_cases c2 : v = nI 2
      · rw [if_pos c2]
        exact pl_2 hLs (by omega) xs h hk
      rw [if_neg c2]
      by_cases c3 : v = nI 3
      · rw [if_pos c3]
        exact pl_3 hLs (by omega) xs h hk
      rw [if_neg c3]
      by_cases c4 : v = nI 4
      · rw [if_pos c4]
        exact pl_4 hLs (by omega) xs h hk
      rw [if_neg c4]
      by_cases c5 : v = nI 5
      · rw [if_pos c5]
        exact pl_5 hLs (by omega) xs h hk
      rw [if_neg c5]
      by_cases c6 : v = nI 6
      · rw [if_pos c6]
        exact pl_6 hLs (by omega) xs h hk
      rw [if_neg c6]
      by_cases c7 : v = nI 7
      · rw [if_pos c7]
        exact pl_7 hLs (by omega) xs h hk
      rw [if_neg c7]
      by_cases c8 : v = nI 8
      · rw [if_pos c8]
        exact pl_8 hLs (by omega) xs h hk
      rw [if_neg c8]
      by_cases c9 : v = nI 9
      · rw [if_pos c9]
        exact pl_9 hLs (by omega) xs h hk
      rw [if_neg c9]
      by_cases c10 : v = nI 10
      · rw [if_pos c10]
        exact pl_10 hLs (by omega) xs h hk
      rw [if_neg c10]
      by_cases c11 : v = nI 11
      · rw [if_pos c11]
        exact pl_11 hLs (by omega) xs h hk
      rw [if_neg c11]
      by_cases c12 : v = nI 12
      · rw [if_pos c12]
        exact pl_12 hLs (by omega) xs h hk
      rw [if_neg c12]
      by_cases c13 : v = nI 13
      · rw [if_pos c13]
        exact pl_13 hLs (by omega) xs h hk
      rw [if_neg c13]
      by_cases c14 : v = nI 14
      · rw [if_pos c14]
        exact pl_14 hLs (by omega) xs h hk
      rw [if_neg c14]
      by_cases c15 : v = nI 15
      · rw [if_pos c15]
        exact pl_15 hLs (by omega) xs h hk
      rw [if_neg c15]
      by_cases c16 : v = nI 16
      · rw [if_pos c16]
        exact pl_16 hLs (by omega) xs h hk
      rw [if_neg c16]
      by_cases c17 : v = nI 17
      · rw [if_pos c17]
        exact pl_17 hLs (by omega) xs h hk
      rw [if_neg c17]
      by_cases c18 : v = nI 18
      · rw [if_pos c18]
        exact pl_18 hLs (by omega) xs h hk
      rw [if_neg c18]
      by_cases c19 : v = nI 19
      · rw [if_pos c19]
        exact pl_19 hLs (by omega) xs h hk
      rw [if_neg c19]
      by_cases c20 : v = nI 20
      · rw [if_pos c20]
        exact pl_20 hLs (by omega) xs h hk
      rw [if_neg c20]
      by_cases c21 : v = nI 21
      · rw [if_pos c21]
        exact pl_21 hLs (by omega) xs h hk
      rw [if_neg c21]
      by_cases c22 : v = nI 22
      · rw [if_pos c22]
        exact pl_22 hLs (by omega) xs h hk
      rw [if_neg c22]
      by_cases c23 : v = nI 23
      · rw [if_pos c23]
        exact pl_23 hLs (by omega) xs h hk
      rw [if_neg c23]
      by_cases c24 : v = nI 24
      · rw [if_pos c24]
        exact pl_24 hLs (by omega) xs h hk
      rw [if_neg c24]
      by_cases c25 : v = nI 25
      · rw [if_pos c25]
        exact pl_25 hLs (by omega) xs h hk
      rw [if_neg c25]
      by_cases c26 : v = nI 26
      · rw [if_pos c26]
        exact pl_26 hLs (by omega) xs h hk
      rw [if_neg c26]
      unfold fL_next
      rw [q_bn, q_add]
      exact hk s h
  exact key (Ls + 1) 0 (k_s0T, k_s0M) (Nat.zero_le _) (by omega) pu_start
