/-! ===== a winter: the other search ===== -/
/-- what is read alike -/
def mB (σ T : k_S) (K N : Nat) : Prop := (T.2 3 = σ.2 5 ∧ T.2 4 = σ.2 6 ∧ T.2 5 = σ.2 7 ∧ T.2 12 = σ.2 8 ∧ T.2 13 = σ.2 9) ∧ (T.1 4 = σ.1 5 ∧ T.1 8 = nI K ∧ T.1 3 = nI N) ∧ (∀ x, x < N → pKind (σ.2 5) x) ∧ ∀ x, x < 10 → t0 σ x ≤ 300 ∧ σ.2 8 x = nI (t0 σ x)
theorem mB.put {σ T : k_S} {K N : Nat} (h : mB σ T K N) {a : Nat} (w : qA) (ha : a = 17 ∨ a = 18) : mB σ (k_sA T a w) K N := by
  rcases ha with rfl | rfl <;> exact h
theorem M_nights {T : k_S} {l : Nat} {r : qN} (hl : l ≤ 6) (h : ∀ j, j < l → T.2 17 j = nI (r j) ∧ r j ≤ 10) : fX7_nightsOf T (nI l) = some (nI (wonR r l), T) := by
  have key : ∀ (d q f : Nat), q + d = l → d < f → fX7_nightsOf_c4 f T (nI l) (nI (wonR r q)) (nI q) = some (nI (wonR r l), T) := by
    intro d
    induction d with
    | zero =>
      intro q f h1 h2
      obtain ⟨f, rfl⟩ := q_fu 0 h2
      have e : q = l := by omega
      subst e
      rw [fX7_nightsOf_c4_s, if_neg (nI_nlt (Nat.le_refl q) (by omega))]
    | succ d ih =>
      intro q f h1 h2
      obtain ⟨f, rfl⟩ := q_fu (d + 1) h2
      obtain ⟨e1, e2⟩ := h q (by omega)
      rw [fX7_nightsOf_c4_s, if_pos (nI_lt (by omega) (by omega)), q_gd (by omega) (by decide), q_cl (by omega), e1]
      unfold fX7_nightsOf_c23
      have go := ih (q + 1) f (by omega) (by omega)
      have hs : wonR r (q + 1) = wonR r q + if r q = 10 then 0 else 1 := rfl
      by_cases h10 : r q = 10
      · rw [if_pos (show nI (r q) = nI 10 by rw [h10]), q_add, q_bn, q_add, q_bn]
        rw [hs, if_pos h10] at go
        exact go
      · rw [if_neg (show ¬ nI (r q) = nI 10 by rw [q_eq (by omega) (by decide)]; exact h10), q_add, q_bn, q_add, q_bn]
        rw [hs, if_neg h10] at go
        exact go
  unfold fX7_nightsOf
  rw [q_bn, q_bn]
  exact key l 0 k_F (by omega) (q_kF (by omega))
theorem M_mayWinter {σ T : k_S} {g K N q v : Nat} {num : Nat → Int32} {r : qN} (hB : mB σ T K N) (hN : N ≤ 10) (hq : q < 6) (hK : K ≤ 60) (hv : v < N) (h : ∀ j, j < q → T.2 17 j = nI (r j) ∧ r j ≤ 10) : fX7_mayWinter T (nI g) (nI q) (nI v) (num q) = some (bI (wWin σ g K num q r v), T) := by
  obtain ⟨⟨b3, b4, b5, b12, b13⟩, ⟨c4, c8, c3⟩, hk, ht⟩ := hB
  obtain ⟨t1, t2⟩ := ht v (by omega)
  have key : ∀ (d j f : Nat), j + d = q → d < f → fX7_mayWinter_c31 f T (nI q) (nI v) (num q) (nI (toR (t0 σ v) r v j)) (laR (σ.2 9 v) K r v j) (nI j) = k_ob (fX7_mayBe T (nI v) (nI (toR (t0 σ v) r v q)) (laR (σ.2 9 v) K r v q) (T.1 8 + nI q)) fun r1 σ2 => (if r1 = 0 then k_z (nI 0) (some (nI 0, σ2)) else k_ob (fX7_tallBy σ2 (nI v) (nI (toR (t0 σ v) r v q))) fun r3 σ4 => (if num q < r3 then k_z (nI 1) (some (nI 1, σ4)) else k_z (nI 0) (some (nI 0, σ4)))) := by
    intro d
    induction d with
    | zero =>
      intro j f h1 h2
      obtain ⟨f, rfl⟩ := q_fu 0 h2
      have e : j = q := by omega
      subst e
      rw [fX7_mayWinter_c31_s, if_neg (nI_nlt (Nat.le_refl j) (by omega))]
    | succ d ih =>
      intro j f h1 h2
      obtain ⟨f, rfl⟩ := q_fu (d + 1) h2
      obtain ⟨e1, e2⟩ := h j (by omega)
      rw [fX7_mayWinter_c31_s, if_pos (nI_lt (by omega) (by omega)), q_gd (by omega) (by decide), q_cl (by omega), e1]
      unfold fX7_mayWinter_c55 fX7_mayWinter_c81
      have go := ih (j + 1) f (by omega) (by omega)
      have hs : toR (t0 σ v) r v (j + 1) = toR (t0 σ v) r v j + if r j = v then 1 else 0 := rfl
      have hl : laR (σ.2 9 v) K r v (j + 1) = if r j = v then nI (K + j) else laR (σ.2 9 v) K r v j := rfl
      by_cases hjv : r j = v
      · rw [hs, hl, if_pos hjv, if_pos hjv] at go
        rw [if_pos (show nI (r j) = nI v by rw [hjv]), q_bn, q_gd (by omega) (by decide), q_cl (by omega), e1, if_pos (show nI (r j) = nI v by rw [hjv]), c8, q_add, q_add, q_bn, q_bn, q_add]
        rw [c8] at go
        exact go
      · have hne : ¬ nI (r j) = nI v := by rw [q_eq (by omega) (by omega)]; exact hjv
        rw [hs, hl, if_neg hjv, if_neg hjv, Nat.add_zero] at go
        rw [if_neg hne, q_bn, q_gd (by omega) (by decide), q_cl (by omega), e1, if_neg hne, q_add, q_bn, q_bn, q_add, Nat.add_zero]
        exact go
  unfold fX7_mayWinter wWin
  rw [q_gd (by omega) (by decide), q_gd (by omega) (by decide), q_bn, q_gd (by omega) (by decide), q_bn, q_bn, q_cl (by omega), b4, b12, b13, t2]
  by_cases h1 : σ.2 6 v = nI g
  · have hkv : pKind (T.2 3) v := by rw [b3]; exact hk v hv
    have := key q 0 k_F (by omega) (q_kF (by omega))
    rw [if_pos h1, decide_eq_true h1, Bool.true_and]
    rw [show fX7_mayWinter_c31 k_F T (nI q) (nI v) (num q) (nI (t0 σ v)) (σ.2 9 v) (nI 0) = _ from this, M_mayBe T (by omega) hkv, q_ob, M_tallBy T (by omega) hkv, q_ob, b3, b5, c4, c8, q_add]
    by_cases h2 : pMay (σ.2 5) (σ.1 5) v (nI (toR (t0 σ v) r v q)) (laR (σ.2 9 v) K r v q) (nI (K + q)) = 0
    · rw [if_pos h2, decide_eq_false (fun h => h h2), Bool.false_and]
      rfl
    · rw [if_neg h2, decide_eq_true h2, Bool.true_and]
      by_cases h3 : num q < pTall (σ.2 5) (σ.2 7) v (nI (toR (t0 σ v) r v q))
      · rw [if_pos h3, decide_eq_true h3]; rfl
      · rw [if_neg h3, decide_eq_false h3]; rfl
  · rw [if_neg h1, decide_eq_false h1, Bool.false_and]
    rfl
-- ---- the next that may be in a night
theorem M_next {σ T : k_S} {g K N n q s : Nat} {num : Nat → Int32} {r : qN} {best : Int32} (kh : k_S → Int32 → Int32 → Int32 → Int32 → Int32 → Option (Int32 × k_S)) (hB : mB σ T K N) (hN : N ≤ 10) (hq : q < 6) (hK : K ≤ 60) (hs : s + q < 240) (hnum : T.2 2 (s + q) = num q) : ∀ (k v f : Nat) (w : qA), 10 - v ≤ k → v ≤ 11 → k < f → w q = nI v → (∀ j, j < q → w j = nI (r j) ∧ r j ≤ 10) → ∃ (v' : Nat) (w' : qA), v ≤ v' ∧ v' ≤ 11 ∧ (∀ j, v ≤ j → j < v' → wOk σ g K N num q r j = false) ∧ (v' = 11 ∨ wOk σ g K N num q r v' = true) ∧ w' q = nI v' ∧ (∀ j, j ≠ q → w' j = w j) ∧ fX7_findWinter_c30 kh f (k_sA T 17 w) (nI g) (nI s) (nI n) best (nI q) = fX7_findWinter_c96 kh (k_sA T 17 w') (nI g) (nI s) (nI n) best (nI q) := by
  intro k
  induction k with
  | zero =>
    intro v f w h1 h2 h3 h4 h5
    obtain ⟨f, rfl⟩ := q_fu 0 h3
    refine ⟨v, w, Nat.le_refl v, h2, fun j h6 h7 => by omega, ?_, h4, fun _ _ => rfl, ?_⟩
    · by_cases e : v = 11
      · exact .inl e
      · have : v = 10 := by omega
        subst this
        exact .inr (wOk_10 q r)
    · rw [fX7_findWinter_c30_s, q_gd (by omega) (by decide), q_cl (by omega), show (k_sA T 17 w).2 17 q = nI v from h4, if_neg (nI_nlt (by omega) (by omega))]
  | succ k ih =>
    intro v f w h1 h2 h3 h4 h5
    obtain ⟨f, rfl⟩ := q_fu (k + 1) h3
    by_cases hv : 10 ≤ v
    · refine ⟨v, w, Nat.le_refl v, h2, fun j h6 h7 => by omega, ?_, h4, fun _ _ => rfl, ?_⟩
      · by_cases e : v = 11
        · exact .inl e
        · have : v = 10 := by omega
          subst this
          exact .inr (wOk_10 q r)
      · rw [fX7_findWinter_c30_s, q_gd (by omega) (by decide), q_cl (by omega), show (k_sA T 17 w).2 17 q = nI v from h4, if_neg (nI_nlt (by omega) (by omega))]
    have e17 : (k_sA T 17 w).2 17 q = nI v := h4
    have next : wOk σ g K N num q r v = false → ∃ (v' : Nat) (w' : qA), v ≤ v' ∧ v' ≤ 11 ∧ (∀ j, v ≤ j → j < v' → wOk σ g K N num q r j = false) ∧ (v' = 11 ∨ wOk σ g K N num q r v' = true) ∧ w' q = nI v' ∧ (∀ j, j ≠ q → w' j = w j) ∧ fX7_findWinter_c82 kh (fX7_findWinter_c30 kh f) (k_sA T 17 w) (nI g) (nI s) (nI n) best (nI q) = fX7_findWinter_c96 kh (k_sA T 17 w') (nI g) (nI s) (nI n) best (nI q) := fun hno => by
      unfold fX7_findWinter_c82
      rw [q_gd (by omega) (by decide), q_gd (by omega) (by decide), q_cl (by omega), e17, q_add, q_bn, s_sa, q_cl (by omega), s_AA]
      obtain ⟨v', w', y1, y2, y3, y4, y5, y6, y7⟩ := ih (v + 1) f (upd w q (nI (v + 1))) (by omega) (by omega) (by omega) pk_us (fun j hj => by rw [pk_un (by omega)]; exact h5 j hj)
      refine ⟨v', w', by omega, y2, fun j h6 h7 => ?_, y4, y5, fun j hj => by rw [y6 j hj, pk_un hj], y7⟩
      by_cases e : j = v
      · rw [e]; exact hno
      · exact y3 j (by omega) h7
    rw [fX7_findWinter_c30_s, q_gd (by omega) (by decide), q_gd (by omega) (by decide), q_gd (by omega) (by decide), q_cl (by omega), e17, if_pos (nI_lt (by omega) (by decide)), show (k_sA T 17 w).1 3 = nI N from hB.2.1.2.2]
    by_cases hvN : v < N
    · rw [if_pos (nI_lt hvN (by omega)), q_add, q_gd (by omega) (by decide), q_cl (by omega), show (k_sA T 17 w).2 2 (s + q) = num q from hnum, M_mayWinter (hB.put w (.inl rfl)) hN hq hK hvN h5, q_ob, q_bi]
      by_cases hw : wWin σ g K num q r v = true
      · rw [if_pos hw]
        exact ⟨v, w, Nat.le_refl v, h2, fun j h6 h7 => by omega, .inr (by rw [wOk_in hvN hN]; exact hw), h4, fun _ _ => rfl, rfl⟩
      · rw [if_neg hw]
        exact next (by rw [wOk_in hvN hN]; exact Bool.eq_false_iff.mpr hw)
    · rw [if_neg (nI_nlt (by omega) (by omega))]
      exact next (wOk_no (by omega) (by omega))
