/-! ===== a winter: the other search ===== -/
/-- what is read alike -/
def mB (σ T : k_S) (K N : Nat) : Prop := (T.2 3 = σ.2 5 ∧ T.2 4 = σ.2 6 ∧ T.2 5 = σ.2 7 ∧ T.2 12 = σ.2 8 ∧ T.2 13 = σ.2 9) ∧ (T.1 4 = σ.1 5 ∧ T.1 8 = nI K ∧ T.1 3 = nI N) ∧ (∀ x, x < N → pKind (σ.2 5) x) ∧ ∀ x, x < 10 → t0 σ x ≤ 300 ∧ σ.2 8 x = nI (t0 σ x)
theorem mB.put {σ T : k_S} {K N : Nat} (h : mB σ T K N) {a : Nat} (w : qA) (ha : a = 17 ∨ a = 18) : mB σ (k_sA T a w) K N := by
  rcases ha with rfl | rfl <;> exact h
theorem M_nights {T : k_S} {l : Nat} {r : qN} (hl : l ≤ 6) (h : ∀ j, j < l → T.2 17 j = nI (r j) ∧ r j ≤ 10) : fX7_nightsOf T (nI l) = some (nI (wonR r l), T) := by
  have key : ∀ (d q f : Nat), q + d = l → d < f → fX7_nightsOf_c4 f T (nI l) (nI (wonR r q)) (nI q) = some (nI (wonR r l), T) := by
    intro d
    induction d with
    | zero =>
      intro q f h1 h2
      obtain ⟨f, rfl⟩ := q_fu 0 h2
      have e : q = l := by omega
      subst e
      rw [fX7_nightsOf_c4_s, if_neg (nI_nlt (Nat.le_refl q) (by omega))]
    | succ d ih =>
      intro q f h1 h2
      obtain ⟨f, rfl⟩ := q_fu (d + 1) h2
      obtain ⟨e1, e2⟩ := h q (by omega)
      rw [fX7_nightsOf_c4_s, if_pos (nI_lt (by omega) (by omega)), q_gd (by omega) (by decide), q_cl (by omega), e1]
      unfold fX7_nightsOf_c23
      have go := ih (q + 1) f (by omega) (by omega)
      have hs : wonR r (q + 1) = wonR r q + if r q = 10 then 0 else 1 := rfl
      by_cases h10 : r q = 10
      · rw [if_pos (show nI (r q) = nI 10 by rw [h10]), q_add, q_bn, q_add, q_bn]
        rw [hs, if_pos h10] at go
        exact go
      · rw [if_neg (show ¬ nI (r q) = nI 10 by rw [q_eq (by omega) (by decide)]; exact h10), q_add, q_bn, q_add, q_bn]
        rw [hs, if_neg h10] at go
        exact go
  unfold fX7_nightsOf
  rw [q_bn, q_bn]
  exact key l 0 k_F (by omega) (q_kF (by omega))
theorem M_mayWinter {σ T : k_S} {g K N q v : Nat} {num : Nat → Int32} {r : qN} (hB : mB σ T K N) (hN : N ≤ 10) (hq : q < 6) (hK : K ≤ 60) (hv : v < N) (h : ∀ j, j < q → T.2 17 j = nI (r j) ∧ r j ≤ 10) : fX7_mayWinter T (nI g) (nI q) (nI v) (num q) = some (bI (wWin σ g K num q r v), T) := by
  obtain ⟨⟨b3, b4, b5, b12, b13⟩, ⟨c4, c8, c3⟩, hk, ht⟩ := hB
  obtain ⟨t1, t2⟩ := ht v (by omega)
  have key : ∀ (d j f : Nat), j + d = q → d < f → fX7_mayWinter_c31 f T (nI q) (nI v) (num q) (nI (toR (t0 σ v) r v j)) (laR (σ.2 9 v) K r v j) (nI j) = k_ob (fX7_mayBe T (nI v) (nI (toR (t0 σ v) r v q)) (laR (σ.2 9 v) K r v q) (T.1 8 + nI q)) fun r1 σ2 => (if r1 = 0 then k_z (nI 0) (some (nI 0, σ2)) else k_ob (fX7_tallBy σ2 (nI v) (nI (toR (t0 σ v) r v q))) fun r3 σ4 => (if num q < r3 then k_z (nI 1) (some (nI 1, σ4)) else k_z (nI 0) (some (nI 0, σ4)))) := by
    intro d
    induction d with
    | zero =>
      intro j f h1 h2
      obtain ⟨f, rfl⟩ := q_fu 0 h2
      have e : j = q := by omega
      subst e
      rw [fX7_mayWinter_c31_s, if_neg (nI_nlt (Nat.le_refl j) (by omega))]
    | succ d ih =>
      intro j f h1 h2
      obtain ⟨f, rfl⟩ := q_fu (d + 1) h2
      obtain ⟨e1, e2⟩ := h j (by omega)
      rw [fX7_mayWinter_c31_s, if_pos (nI_lt (by omega) (by omega)), q_gd (by omega) (by decide), q_cl (by omega), e1]
      unfold fX7_mayWinter_c55 fX7_mayWinter_c81
      have go := ih (j + 1) f (by omega) (by omega)
      have hs : toR (t0 σ v) r v (j + 1) = toR (t0 σ v) r v j + if r j = v then 1 else 0 := rfl
      have hl : laR (σ.2 9 v) K r v (j + 1) = if r j = v then nI (K + j) else laR (σ.2 9 v) K r v j := rfl
      by_cases hjv : r j = v
      · rw [hs, hl, if_pos hjv, if_pos hjv] at go
        rw [if_pos (show nI (r j) = nI v by rw [hjv]), q_bn, q_gd (by omega) (by decide), q_cl (by omega), e1, if_pos (show nI (r j) = nI v by rw [hjv]), c8, q_add, q_add, q_bn, q_bn, q_add]
        rw [c8] at go
        exact go
      · have hne : ¬ nI (r j) = nI v := by rw [q_eq (by omega) (by omega)]; exact hjv
        rw [hs, hl, if_neg hjv, if_neg hjv, Nat.add_zero] at go
        rw [if_neg hne, q_bn, q_gd (by omega) (by decide), q_cl (by omega), e1, if_neg hne, q_add, q_bn, q_bn, q_add, Nat.add_zero]
        exact go
  unfold fX7_mayWinter wWin
  rw [q_gd (by omega) (by decide), q_gd (by omega) (by decide), q_bn, q_gd (by omega) (by decide), q_bn, q_bn, q_cl (by omega), b4, b12, b13, t2]
  by_cases h1 : σ.2 6 v = nI g
  · have hkv : pKind (T.2 3) v := by rw [b3]; exact hk v hv
    have := key q 0 k_F (by omega) (q_kF (by omega))
    rw [if_pos h1, decide_eq_true h1, Bool.true_and]
    rw [show fX7_mayWinter_c31 k_F T (nI q) (nI v) (num q) (nI (t0 σ v)) (σ.2 9 v) (nI 0) = _ from this, M_mayBe T (by omega) hkv, q_ob, M_tallBy T (by omega) hkv, q_ob, b3, b5, c4, c8, q_add]
    by_cases h2 : pMay (σ.2 5) (σ.1 5) v (nI (toR (t0 σ v) r v q)) (laR (σ.2 9 v) K r v q) (nI (K + q)) = 0
    · rw [if_pos h2, decide_eq_false (fun h => h h2), Bool.false_and]
      rfl
    · rw [if_neg h2, decide_eq_true h2, Bool.true_and]
      by_cases h3 : num q < pTall (σ.2 5) (σ.2 7) v (nI (toR (t0 σ v) r v q))
      · rw [if_pos h3, decide_eq_true h3]; rfl
      · rw [if_neg h3, decide_eq_false h3]; rfl
  · rw [if_neg h1, decide_eq_false h1, Bool.false_and]
    rfl
-- ---- the next that may be in a night
theorem M_next {σ T : k_S} {g K N n q s : Nat} {num : Nat → Int32} {r : qN} {best : Int32} (kh : k_S → Int32 → Int32 → Int32 → Int32 → Int32 → Option (Int32 × k_S)) (hB : mB σ T K N) (hN : N ≤ 10) (hq : q < 6) (hK : K ≤ 60) (hs : s + q < 240) (hnum : T.2 2 (s + q) = num q) : ∀ (k v f : Nat) (w : qA), 10 - v ≤ k → v ≤ 11 → k < f → w q = nI v → (∀ j, j < q → w j = nI (r j) ∧ r j ≤ 10) → ∃ (v' : Nat) (w' : qA), v ≤ v' ∧ v' ≤ 11 ∧ (∀ j, v ≤ j → j < v' → wOk σ g K N num q r j = false) ∧ (v' = 11 ∨ wOk σ g K N num q r v' = true) ∧ w' q = nI v' ∧ (∀ j, j ≠ q → w' j = w j) ∧ fX7_findWinter_c30 kh f (k_sA T 17 w) (nI g) (nI s) (nI n) best (nI q) = fX7_findWinter_c96 kh (k_sA T 17 w') (nI g) (nI s) (nI n) best (nI q) := by
  intro k
  induction k with
  | zero =>
    intro v f w h1 h2 h3 h4 h5
    obtain ⟨f, rfl⟩ := q_fu 0 h3
    refine ⟨v, w, Nat.le_refl v, h2, fun j h6 h7 => by omega, ?_, h4, fun _ _ => rfl, ?_⟩
    · by_cases e : v = 11
      · exact .inl e
      · have : v = 10 := by omega
        subst this
        exact .inr (wOk_10 q r)
    · rw [fX7_findWinter_c30_s, q_gd (by omega) (by decide), q_cl (by omega), show (k_sA T 17 w).2 17 q = nI v from h4, if_neg (nI_nlt (by omega) (by omega))]
  | succ k ih =>
    intro v f w h1 h2 h3 h4 h5
    obtain ⟨f, rfl⟩ := q_fu (k + 1) h3
    by_cases hv : 10 ≤ v
    · refine ⟨v, w, Nat.le_refl v, h2, fun j h6 h7 => by omega, ?_, h4, fun _ _ => rfl, ?_⟩
      · by_cases e : v = 11
        · exact .inl e
        · have : v = 10 := by omega
          subst this
          exact .inr (wOk_10 q r)
      · rw [fX7_findWinter_c30_s, q_gd (by omega) (by decide), q_cl (by omega), show (k_sA T 17 w).2 17 q = nI v from h4, if_neg (nI_nlt (by omega) (by omega))]
    have e17 : (k_sA T 17 w).2 17 q = nI v := h4
    have next : wOk σ g K N num q r v = false → ∃ (v' : Nat) (w' : qA), v ≤ v' ∧ v' ≤ 11 ∧ (∀ j, v ≤ j → j < v' → wOk σ g K N num q r j = false) ∧ (v' = 11 ∨ wOk σ g K N num q r v' = true) ∧ w' q = nI v' ∧ (∀ j, j ≠ q → w' j = w j) ∧ fX7_findWinter_c82 kh (fX7_findWinter_c30 kh f) (k_sA T 17 w) (nI g) (nI s) (nI n) best (nI q) = fX7_findWinter_c96 kh (k_sA T 17 w') (nI g) (nI s) (nI n) best (nI q) := fun hno => by
      unfold fX7_findWinter_c82
      rw [q_gd (by omega) (by decide), q_gd (by omega) (by decide), q_cl (by omega), e17, q_add, q_bn, s_sa, q_cl (by omega), s_AA]
      obtain ⟨v', w', y1, y2, y3, y4, y5, y6, y7⟩ := ih (v + 1) f (upd w q (nI (v + 1))) (by omega) (by omega) (by omega) pk_us (fun j hj => by rw [pk_un (by omega)]; exact h5 j hj)
      refine ⟨v', w', by omega, y2, fun j h6 h7 => ?_, y4, y5, fun j hj => by rw [y6 j hj, pk_un hj], y7⟩
      by_cases e : j = v
      · rw [e]; exact hno
      · exact y3 j (by omega) h7
    rw [fX7_findWinter_c30_s, q_gd (by omega) (by decide), q_gd (by omega) (by decide), q_gd (by omega) (by decide), q_cl (by omega), e17, if_pos (nI_lt (by omega) (by decide)), show (k_sA T 17 w).1 3 = nI N from hB.2.1.2.2]
    by_cases hvN : v < N
    · rw [if_pos (nI_lt hvN (by omega)), q_add, q_gd (by omega) (by decide), q_cl (by omega), show (k_sA T 17 w).2 2 (s + q) = num q from hnum, M_mayWinter (hB.put w (.inl rfl)) hN hq hK hvN h5, q_ob, q_bi]
      by_cases hw : wWin σ g K num q r v = true
      · rw [if_pos hw]
        exact ⟨v, w, Nat.le_refl v, h2, fun j h6 h7 => by omega, .inr (by rw [wOk_in hvN hN]; exact hw), h4, fun _ _ => rfl, rfl⟩
      · rw [if_neg hw]
        exact next (by rw [wOk_in hvN hN]; exact Bool.eq_false_iff.mpr hw)
    · rw [if_neg (nI_nlt (by omega) (by omega))]
      exact next (wOk_no (by omega) (by omega))
-- ---- the walk
def mC : Nat → Nat
  | 0 => 0
  | d + 1 => 1 + 12 * mC d
def mW (σ T : k_S) (K N n s : Nat) (num : Nat → Int32) (r : qN) (q : Nat) (B : qB) : Prop := mB σ T K N ∧ (∀ j, j < n → T.2 2 (s + j) = num j) ∧ (∀ j, j < q → T.2 17 j = nI (r j) ∧ r j ≤ 10) ∧ (0 < B.1 → ∀ j, j < n → T.2 18 j = nI (B.2 j) ∧ B.2 j ≤ 10)
theorem M_copyBest {T : k_S} {n : Nat} (g s : Nat) (b q : Int32) (hn : n ≤ 6) (kh : k_S → Int32 → Int32 → Int32 → Int32 → Int32 → Option (Int32 × k_S)) : fX7_findWinter_c190 kh k_F T (nI g) (nI s) (nI n) b q (nI 0) = kh (k_sA T 18 (pSet (T.2 17) (T.2 18) 0 n)) (nI g) (nI s) (nI n) b q := by
  have key : ∀ (d j f : Nat) (w : qA), j + d = n → d < f → fX7_findWinter_c190 kh f (k_sA T 18 w) (nI g) (nI s) (nI n) b q (nI j) = kh (k_sA T 18 (pSet (T.2 17) w j n)) (nI g) (nI s) (nI n) b q := by
    intro d
    induction d with
    | zero =>
      intro j f w h1 h2
      obtain ⟨f, rfl⟩ := q_fu 0 h2
      rw [fX7_findWinter_c190_s, if_neg (nI_nlt (by omega) (by omega)), pSet_no _ _ (by omega)]
      rfl
    | succ d ih =>
      intro j f w h1 h2
      obtain ⟨f, rfl⟩ := q_fu (d + 1) h2
      rw [fX7_findWinter_c190_s, if_pos (nI_lt (by omega) (by omega)), q_gd (by omega) (by decide), q_gd (by omega) (by decide), q_bn, s_sa, q_cl (by omega), q_bn, q_add, s_AA]
      have := ih (j + 1) f (upd w j (T.2 17 j)) (by omega) (by omega)
      rw [pSet_step _ w (show j < n by omega)] at this
      exact this
  have := key n 0 k_F (T.2 18) (by omega) (q_kF (by omega))
  rw [s_Aid] at this
  exact this
def mStep (σ : k_S) (g K N n s : Nat) (num : Nat → Int32) (d q : Nat) : Prop := ∀ (e v f : Nat) (T : k_S) (B : qB) (r : qN), v + e = 11 → (e + 1) * mC (d + 1) < f → B.1 ≤ n + 1 → mW σ T K N n s num r q B → T.2 17 q + nI 1 = nI v → ∃ (f' : Nat) (T' : k_S), fX7_findWinter_c14 f T (nI g) (nI s) (nI n) (encB (k_ng 9) B.1) (nI q) = fX7_findWinter_c14 f' T' (nI g) (nI s) (nI n) (encB (k_ng 9) (sA (wF σ g K N n num d q r) (wOk σ g K N num q r) e v B).1) (q1m q) ∧ f ≤ f' + (e + 1) * mC (d + 1) ∧ mW σ T' K N n s num r q (sA (wF σ g K N n num d q r) (wOk σ g K N num q r) e v B) ∧ kM T T' ∧ ∀ j, j < q → T'.2 17 j = T.2 17 j
theorem kM.w17 {T : k_S} (w : qA) : kM T (k_sA T 17 w) := ⟨⟨⟨rfl, rfl, rfl, rfl⟩, rfl, rfl, rfl, rfl, rfl, rfl, rfl, rfl⟩, ⟨rfl, rfl, rfl⟩, rfl, rfl⟩
theorem kM.w18 {T : k_S} (w : qA) : kM T (k_sA T 18 w) := ⟨⟨⟨rfl, rfl, rfl, rfl⟩, rfl, rfl, rfl, rfl, rfl, rfl, rfl, rfl⟩, ⟨rfl, rfl, rfl⟩, rfl, rfl⟩
theorem M_walk_step {σ : k_S} {g K N n s : Nat} {num : Nat → Int32} (hN : N ≤ 10) (hn : n ≤ 6) (hK : K ≤ 60) (hs : s + n ≤ 240) {d q : Nat} (hqd : q + (d + 1) = n) (hd : d = 0 ∨ ∃ d', d = d' + 1 ∧ mStep σ g K N n s num d' (q + 1)) : mStep σ g K N n s num d q := by
  intro e
  induction e using Nat.strongRecOn with
  | _ e ih =>
    intro v f T B r hve hf hB1 hW h17
    obtain ⟨f1, rfl⟩ := q_fu 0 (show 0 < f by omega)
    obtain ⟨hB, hnum, hr, hbest⟩ := hW
    rw [fX7_findWinter_c14_s, if_neg (nI_pos (by omega)), q_gd (by omega) (by decide), q_gd (by omega) (by decide), s_sa, q_cl (by omega), h17, q_bn]
    obtain ⟨v', w', y1, y2, y3, y4, y5, y6, y7⟩ := M_next (σ := σ) (T := T) (g := g) (n := n) (q := q) (s := s) (num := num) (r := r) (best := encB (k_ng 9) B.1) (fX7_findWinter_c14 f1) hB hN (by omega) hK (by omega) (hnum q (by omega)) (10 - v) v k_F (upd (T.2 17) q (nI v)) (Nat.le_refl _) (by omega) (q_kF (by omega)) pk_us (fun j hj => by rw [pk_un (by omega)]; exact hr j hj)
    rw [y7]
    have hw : ∀ j, j < q → w' j = T.2 17 j := fun j hj => by rw [y6 j (by omega), pk_un (by omega)]
    have hskip : sA (wF σ g K N n num d q r) (wOk σ g K N num q r) e v B = sA (wF σ g K N n num d q r) (wOk σ g K N num q r) (11 - v') v' B := by
      have := sA_skip (F := wF σ g K N n num d q r) (ok := wOk σ g K N num q r) (v' - v) (11 - v') v B (fun j h1 h2 => y3 j h1 (by omega))
      rw [show v' - v + (11 - v') = e by omega, show v + (v' - v) = v' by omega] at this
      exact this
    rw [hskip]
    have e17 : (k_sA T 17 w').2 17 q = nI v' := y5
    unfold fX7_findWinter_c96 fX7_findWinter_c135
    rw [q_gd (by omega) (by decide), q_cl (by omega), e17]
    have hmC : mC (d + 1) = 1 + 12 * mC d := rfl
    by_cases h11 : v' = 11
    · subst h11
      rw [if_pos (nI_lt (by decide) (by decide))]
      unfold fX7_findWinter_c136
      rw [q_bn, q_gd (by omega) (by decide), q_cl (by omega), e17, if_pos (nI_lt (by decide) (by decide)), q_bn, q1m_s]
      refine ⟨f1, k_sA T 17 w', rfl, ?_, ⟨hB.put w' (.inl rfl), hnum, fun j hj => ?_, hbest⟩, kM.w17 _, hw⟩
      · have := Nat.mul_le_mul_right (mC (d + 1)) (show 1 ≤ e + 1 by omega)
        omega
      · show w' j = _ ∧ _
        rw [hw j hj]
        exact hr j hj
    have hok := y4.resolve_left h11
    have hv10 : v' ≤ 10 := by omega
    have hsA : sA (wF σ g K N n num d q r) (wOk σ g K N num q r) (11 - v') v' B = sA (wF σ g K N n num d q r) (wOk σ g K N num q r) (10 - v') (v' + 1) (wF σ g K N n num d q r v' B) := by
      rw [show 11 - v' = (10 - v') + 1 by omega, sA_s, if_pos hok]
    rw [hsA]
    have hB2 : (wF σ g K N n num d q r v' B).1 ≤ n + 1 := (sS_le (ok := wOk σ g K N num) (n := n) d (q + 1) (nUp r q v') B hB1).1
    have hmul : (10 - v' + 1) * mC (d + 1) + mC (d + 1) ≤ (e + 1) * mC (d + 1) := by
      rw [← Nat.succ_mul]
      exact Nat.mul_le_mul_right _ (by omega)
    have fin : ∀ (f2 : Nat) (T2 : k_S), f1 + 1 ≤ f2 + mC (d + 1) → mW σ T2 K N n s num r q (wF σ g K N n num d q r v' B) → T2.2 17 q = nI v' → kM T T2 → (∀ j, j < q → T2.2 17 j = T.2 17 j) → ∃ (f' : Nat) (T' : k_S), fX7_findWinter_c14 f2 T2 (nI g) (nI s) (nI n) (encB (k_ng 9) (wF σ g K N n num d q r v' B).1) (nI q) = fX7_findWinter_c14 f' T' (nI g) (nI s) (nI n) (encB (k_ng 9) (sA (wF σ g K N n num d q r) (wOk σ g K N num q r) (10 - v') (v' + 1) (wF σ g K N n num d q r v' B)).1) (q1m q) ∧ f1 + 1 ≤ f' + (e + 1) * mC (d + 1) ∧ mW σ T' K N n s num r q (sA (wF σ g K N n num d q r) (wOk σ g K N num q r) (10 - v') (v' + 1) (wF σ g K N n num d q r v' B)) ∧ kM T T' ∧ ∀ j, j < q → T'.2 17 j = T.2 17 j := by
      intro f2 T2 z1 z2 z3 z4 z5
      obtain ⟨f', T', x1, x2, x3, x4, x5⟩ := ih (10 - v') (by omega) (v' + 1) f2 T2 (wF σ g K N n num d q r v' B) r (by omega) (by omega) hB2 z2 (by rw [z3, q_add])
      exact ⟨f', T', x1, by omega, x3, z4.tr x4, fun j hj => by rw [x5 j hj, z5 j hj]⟩
    have hT1 : ∀ j, j < q + 1 → (k_sA T 17 w').2 17 j = nI (nUp r q v' j) ∧ nUp r q v' j ≤ 10 := fun j hj => by
      show w' j = _ ∧ _
      by_cases hjq : j = q
      · subst hjq
        rw [nUp_s]
        exact ⟨y5, hv10⟩
      · rw [nUp_n hjq, hw j (by omega)]
        exact hr j (by omega)
    have hwo := wonR_le (nUp r q v') (q + 1)
    rw [if_neg (nI_nlt hv10 (by decide)), q_add, M_nights (T := k_sA T 17 w') (r := nUp r q v') (show q + 1 ≤ 6 by omega) hT1, q_ob, q_add, q_sub (by omega), q_sub (by omega)]
    have hW1 : ∀ C : qB, (0 < C.1 → ∀ j, j < n → T.2 18 j = nI (C.2 j) ∧ C.2 j ≤ 10) → mW σ (k_sA T 17 w') K N n s num r q C := fun C hC => ⟨hB.put w' (.inl rfl), hnum, fun j hj => by
      show w' j = _ ∧ _
      rw [hw j hj]
      exact hr j hj, hC⟩
    rcases hd with rfl | ⟨d', rfl, hdesc⟩
    · -- the last night
      have eqn : q + 1 = n := by omega
      have leaf : ∀ s0 : Int32, ∃ T2 : k_S, fX7_findWinter_c136 (fX7_findWinter_c14 f1) (k_sA T 17 w') (nI g) (nI s) (nI n) (encB (k_ng 9) B.1) (nI q) s0 = fX7_findWinter_c14 f1 T2 (nI g) (nI s) (nI n) (encB (k_ng 9) (wF σ g K N n num 0 q r v' B).1) (nI q) ∧ mW σ T2 K N n s num r q (wF σ g K N n num 0 q r v' B) ∧ T2.2 17 = w' ∧ kM T T2 := by
        intro s0
        unfold fX7_findWinter_c136 fX7_findWinter_c235
        rw [q_bn, q_gd (by omega) (by decide), q_cl (by omega), e17, if_neg (nI_nlt hv10 (by decide)), q_sub (by omega), if_pos (show nI q = nI (n - 1) by rw [show n - 1 = q by omega])]
        have hn2 : fX7_nightsOf (k_sA T 17 w') (nI n) = some (nI (wonR (nUp r q v') n), k_sA T 17 w') := M_nights (by omega) (by rw [← eqn]; exact hT1)
        rw [hn2, q_ob, hn2, q_ob, q_bn, q_bn, M_copyBest g s _ _ hn]
        have hF : wF σ g K N n num 0 q r v' B = sLeaf n (nUp r q v') B := rfl
        rw [hF]
        rw [eqn] at hwo
        unfold sLeaf
        by_cases hlt : B.1 < wonR (nUp r q v') n + 1
        · rw [if_pos hlt, if_pos (show encB (k_ng 9) B.1 < nI (wonR (nUp r q v') n) by rw [encB_lt (by decide) (by decide) (by omega) (by omega)]; exact hlt)]
          refine ⟨k_sA (k_sA T 17 w') 18 (pSet ((k_sA T 17 w').2 17) ((k_sA T 17 w').2 18) 0 n), ?_, ⟨(hB.put w' (.inl rfl)).put _ (.inr rfl), hnum, fun j hj => ?_, fun _ j hj => ?_⟩, rfl, (kM.w17 w').tr (kM.w18 _)⟩
          · rw [show encB (k_ng 9) (wonR (nUp r q v') n + 1, nUp r q v').1 = nI (wonR (nUp r q v') n) by
              unfold encB
              rw [if_neg (by omega), Nat.add_sub_cancel]]
          · show w' j = _ ∧ _
            rw [hw j hj]
            exact hr j hj
          · show pSet w' ((k_sA T 17 w').2 18) 0 n j = nI (nUp r q v' j) ∧ nUp r q v' j ≤ 10
            rw [pSet_in (Nat.zero_le j) hj]
            exact hT1 j (by omega)
        · rw [if_neg hlt, if_neg (show ¬ encB (k_ng 9) B.1 < nI (wonR (nUp r q v') n) by rw [encB_lt (by decide) (by decide) (by omega) (by omega)]; exact hlt)]
          exact ⟨_, rfl, hW1 B hbest, rfl, kM.w17 w'⟩
      have done : ∀ s0 : Int32, ∃ (f' : Nat) (T' : k_S), fX7_findWinter_c136 (fX7_findWinter_c14 f1) (k_sA T 17 w') (nI g) (nI s) (nI n) (encB (k_ng 9) B.1) (nI q) s0 = fX7_findWinter_c14 f' T' (nI g) (nI s) (nI n) (encB (k_ng 9) (sA (wF σ g K N n num 0 q r) (wOk σ g K N num q r) (10 - v') (v' + 1) (wF σ g K N n num 0 q r v' B)).1) (q1m q) ∧ f1 + 1 ≤ f' + (e + 1) * mC (0 + 1) ∧ mW σ T' K N n s num r q (sA (wF σ g K N n num 0 q r) (wOk σ g K N num q r) (10 - v') (v' + 1) (wF σ g K N n num 0 q r v' B)) ∧ kM T T' ∧ ∀ j, j < q → T'.2 17 j = T.2 17 j := by
        intro s0
        obtain ⟨T2, x1, x2, x3, x4⟩ := leaf s0
        rw [x1]
        exact fin f1 T2 (by omega) x2 (by rw [x3]; exact y5) x4 (fun j hj => by rw [x3]; exact hw j hj)
      split
      · exact done _
      · exact done _
    · have hnl : ¬ nI q = nI n - nI 1 := by
        rw [q_sub (by omega), q_eq (by omega) (by omega)]
        omega
      by_cases hlt : B.1 < wonR (nUp r q v') (q + 1) + n - 1 - q + 1
      · rw [if_pos (show encB (k_ng 9) B.1 < nI (wonR (nUp r q v') (q + 1) + n - 1 - q) by rw [encB_lt (by decide) (by decide) (by omega) (by omega)]; exact hlt)]
        unfold fX7_findWinter_c136 fX7_findWinter_c235
        rw [q_bn, q_gd (by omega) (by decide), q_cl (by omega), e17, if_neg (nI_nlt hv10 (by decide)), if_neg hnl, if_pos q_0i, q_add, q_bn, q_gd (by omega) (by decide), q_bn, s_sa, q_cl (by omega)]
        let T3 : k_S := k_sA (k_sA T 17 w') 17 (upd ((k_sA T 17 w').2 17) (q + 1) (k_ng 1))
        have hT3 : ∀ j, j < q + 1 → T3.2 17 j = w' j := fun j hj => pk_un (by omega)
        have hW3 : mW σ T3 K N n s num (nUp r q v') (q + 1) B := ⟨(hB.put w' (.inl rfl)).put _ (.inl rfl), hnum, fun j hj => by
          rw [hT3 j hj]
          exact hT1 j hj, hbest⟩
        obtain ⟨f2, T4, x1, x2, x3, x4, x5⟩ := hdesc 11 0 f1 T3 B (nUp r q v') (by omega) (by omega) hB1 hW3 (by
          show upd ((k_sA T 17 w').2 17) (q + 1) (k_ng 1) (q + 1) + nI 1 = nI 0
          rw [pk_us]
          decide)
        have x1 : fX7_findWinter_c14 f1 T3 (nI g) (nI s) (nI n) (encB (k_ng 9) B.1) (nI (q + 1)) = fX7_findWinter_c14 f2 T4 (nI g) (nI s) (nI n) (encB (k_ng 9) (wF σ g K N n num (d' + 1) q r v' B).1) (nI q) := x1
        have x3 : mW σ T4 K N n s num (nUp r q v') (q + 1) (wF σ g K N n num (d' + 1) q r v' B) := x3
        show ∃ f' T', fX7_findWinter_c14 f1 T3 (nI g) (nI s) (nI n) (encB (k_ng 9) B.1) (nI (q + 1)) = _ ∧ _
        rw [x1]
        refine fin f2 T4 (by omega) ⟨x3.1, x3.2.1, fun j hj => ?_, x3.2.2.2⟩ ?_ (((kM.w17 w').tr (kM.w17 _)).tr x4) (fun j hj => ?_)
        · rw [x5 j (by omega), hT3 j (by omega), hw j hj]
          exact hr j hj
        · rw [x5 q (by omega), hT3 q (by omega)]
          exact y5
        · rw [x5 j (by omega), hT3 j (by omega), hw j hj]
      · rw [if_neg (show ¬ encB (k_ng 9) B.1 < nI (wonR (nUp r q v') (q + 1) + n - 1 - q) by rw [encB_lt (by decide) (by decide) (by omega) (by omega)]; exact hlt)]
        unfold fX7_findWinter_c136 fX7_findWinter_c235
        rw [q_bn, q_gd (by omega) (by decide), q_cl (by omega), e17, if_neg (nI_nlt hv10 (by decide)), if_neg hnl, if_neg q_n1]
        have hkeep : wF σ g K N n num (d' + 1) q r v' B = B := sS_keep (U := fun q => n - q) (Good := fun _ _ => True) (fun q r v hq _ _ => ⟨trivial, by show n - (q + 1) + _ ≤ n - q; split <;> omega⟩) (d' + 1) (q + 1) (nUp r q v') B (by omega) trivial (by show wonR (nUp r q v') (q + 1) + (n - (q + 1)) + 1 ≤ B.1; omega)
        have := fin f1 (k_sA T 17 w') (by omega) (by rw [hkeep]; exact hW1 B hbest) y5 (kM.w17 w') hw
        rw [hkeep] at this ⊢
        exact this
theorem M_walk {σ : k_S} {g K N n s : Nat} {num : Nat → Int32} (hN : N ≤ 10) (hn : n ≤ 6) (hK : K ≤ 60) (hs : s + n ≤ 240) : ∀ (d q : Nat), q + (d + 1) = n → mStep σ g K N n s num d q
  | 0, q, h => M_walk_step hN hn hK hs h (.inl rfl)
  | d + 1, q, h => M_walk_step hN hn hK hs h (.inr ⟨d, rfl, M_walk hN hn hK hs d (q + 1) (by omega)⟩)
