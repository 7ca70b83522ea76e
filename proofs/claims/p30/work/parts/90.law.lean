/-! ===== the law, in numbers ===== -/
theorem T_inn {s : k_S × k_S} {G N : Nat} (hG : 2 ≤ G ∧ G ≤ 5) (hN : 1 ≤ N ∧ N ≤ 10) (h : PI s G N N) : ∃ τ, fX6_inn s.1 (nI 0) (nI 0) (nI 0) (nI (2 + 5 * N)) = some (nI N, τ) ∧ HT τ G N 99 0 ∧ (∀ x, x < N → s.2.2 0 (2 + x) = τ.2 5 x ∧ s.2.2 0 (12 + x) = τ.2 6 x ∧ s.2.2 0 (22 + x) = τ.2 7 x) ∧ ∀ g, g < 5 → τ.2 10 g = k_ng 9 := by
  obtain ⟨⟨⟨p1, p2, p3⟩, -⟩, p8, p9, p10⟩ := h
  have f0 : fX2_faultOf (k_sf s.1 1 (nI 0)) (nI 0) (nI 0) (nI 0) (nI (2 + 5 * N)) = some (nI 0, k_sf s.1 1 (nI 0)) := by
    unfold fX2_faultOf
    rw [T_hasRow (by decide), q_ob, if_neg (show ¬ (k_sf s.1 1 (nI 0)).2 3 0 = k_ng 9 by
      show ¬ s.1.2 3 0 = k_ng 9
      rw [p3]; decide), if_neg q_n1, q_gd (by decide) (by decide), y0, if_pos (show (k_sf s.1 1 (nI 0)).2 2 0 = nI 0 from p2), if_neg (by simp (disch := omega) only [q_bn, q_ob, q_z0, q_z1, q_gd, q_cl, q_add, q_mul, q_lt, q_eq, q_eq0, q_lt0, q_0lt, q_ngl, q_ngr, q_ng0, q_ngz, q_ngn, q_ngp, q_nlt]; exact not_false)]
    rcases T_hasCells (σ := k_sf s.1 1 (nI 0)) (k := 0) (by decide) p3 (Nat.le_refl 60) (nI 0) (nI (2 + 5 * N)) with ⟨q1, -⟩ | ⟨-, q2⟩
    · rw [q1, q_ob, if_neg q_n1]
    · exact absurd ⟨0, 2 + 5 * N, rfl, rfl, by omega⟩ q2
  unfold fX6_inn
  rw [q_bn, T_isSheet, q_ob, if_neg (show ¬ (nI 0 < nI 0 ∨ nI 3 < nI 0) by decide), if_neg q_n1, T_isSort, q_ob, if_neg (show ¬ (nI 0 < nI 0 ∨ nI 2 < nI 0) by decide), if_neg q_n1, f0, q_ob, q_bn, if_pos q_0i, q_bn]
  have e1 : fX2_take_a11 (k_sf (k_sf s.1 1 (nI 0)) 2 (nI (2 + 5 * N))) (nI 0) (nI 0) (nI (2 + 5 * N)) = some ((), k_sA (k_sf (k_sf s.1 1 (nI 0)) 2 (nI (2 + 5 * N))) 4 (va_cpy (s.1.2 1) (s.1.2 4) 0 0 (2 + 5 * N))) := by
    unfold fX2_take_a11 k_gc
    rw [q_mul, q_add, y0, q_cl (show 2 + 5 * N < 2 ^ 31 by omega), if_neg (by
      rintro (q | q | q | q | q)
      · exact absurd q (by decide)
      · exact absurd q (by decide)
      · rw [q_lt0 (by omega)] at q; exact q
      · omega
      · omega), q_bn, s_sc, y0, q_cl (show 2 + 5 * N < 2 ^ 31 by omega)]
    rfl
  rw [e1, q_ob]
  have hcod : ∀ q, q < 2 + 5 * N → (k_sA (k_sf (k_sf s.1 1 (nI 0)) 2 (nI (2 + 5 * N))) 4 (va_cpy (s.1.2 1) (s.1.2 4) 0 0 (2 + 5 * N))).2 4 q = s.1.2 1 q := fun q hq => by
    show va_cpy (s.1.2 1) (s.1.2 4) 0 0 (2 + 5 * N) q = _
    unfold va_cpy
    rw [if_pos (by omega), show 0 + (q - 0) = q by omega]
  have hk : kTh k_s0T (k_sA (k_sf (k_sf s.1 1 (nI 0)) 2 (nI (2 + 5 * N))) 4 (va_cpy (s.1.2 1) (s.1.2 4) 0 0 (2 + 5 * N))) := p1.tr ⟨⟨rfl, rfl, rfl, rfl⟩, rfl, rfl, rfl, rfl, rfl, rfl, rfl, rfl, rfl⟩
  have hn : (k_sA (k_sf (k_sf s.1 1 (nI 0)) 2 (nI (2 + 5 * N))) 4 (va_cpy (s.1.2 1) (s.1.2 4) 0 0 (2 + 5 * N))).1 2 = nI (2 + 5 * N) := rfl
  generalize k_sA (k_sf (k_sf s.1 1 (nI 0)) 2 (nI (2 + 5 * N))) 4 (va_cpy (s.1.2 1) (s.1.2 4) 0 0 (2 + 5 * N)) = σ2 at hcod hk hn ⊢
  have dig : ∀ t, t ≤ 9 → gDig (nI (48 + t)) = true := fun t ht => decide_eq_true ⟨by simp (disch := omega) only [q_bn, q_ob, q_z0, q_z1, q_gd, q_cl, q_add, q_mul, q_lt, q_eq, q_eq0, q_lt0, q_0lt, q_ngl, q_ngr, q_ng0, q_ngz, q_ngn, q_ngp, q_nlt]; omega, by simp (disch := omega) only [q_bn, q_ob, q_z0, q_z1, q_gd, q_cl, q_add, q_mul, q_lt, q_eq, q_eq0, q_lt0, q_0lt, q_ngl, q_ngr, q_ng0, q_ngz, q_ngn, q_ngp, q_nlt]; omega⟩
  have hon : ∀ q, q < 2 + 5 * N → gOn (σ2.2 4) (2 + 5 * N) q = true := by
    intro q hq
    unfold gOn
    by_cases q0 : q = 0
    · subst q0
      rw [if_pos rfl, hcod 0 (by omega), p8]
      exact decide_eq_true rfl
    · by_cases q1 : q = 1
      · subst q1
        rw [if_neg (by omega), if_pos rfl, hcod 1 (by omega), p9]
        exact decide_eq_true ⟨by simp (disch := omega) only [q_bn, q_ob, q_z0, q_z1, q_gd, q_cl, q_add, q_mul, q_lt, q_eq, q_eq0, q_lt0, q_0lt, q_ngl, q_ngr, q_ng0, q_ngz, q_ngn, q_ngp, q_nlt]; omega, by simp (disch := omega) only [q_bn, q_ob, q_z0, q_z1, q_gd, q_cl, q_add, q_mul, q_lt, q_eq, q_eq0, q_lt0, q_0lt, q_ngl, q_ngr, q_ng0, q_ngz, q_ngn, q_ngp, q_nlt]; omega⟩
      · rw [if_neg q0, if_neg q1]
        obtain ⟨kd, ow, hg, w1, w2, w3, w4, -, w8, w9, w10, w11, w12⟩ := p10 ((q - 2) / 5) (by omega)
        rcases (show (q - 2) % 5 = 0 ∨ (q - 2) % 5 = 1 ∨ (q - 2) % 5 = 2 ∨ (q - 2) % 5 = 3 ∨ (q - 2) % 5 = 4 by omega) with r | r | r | r | r
        · rw [if_pos r, hcod q hq, show q = 2 + 5 * ((q - 2) / 5) by omega, w8]
          exact decide_eq_true ⟨rfl, by omega⟩
        · rw [if_neg (by omega), if_pos r, hcod q hq, show q = 3 + 5 * ((q - 2) / 5) by omega, w9]
          refine decide_eq_true ?_
          unfold ltr
          by_cases k0 : kd = 0
          · rw [if_pos k0]; exact .inl rfl
          · by_cases k1 : kd = 1
            · rw [if_neg k0, if_pos k1]; exact .inr (.inl rfl)
            · rw [if_neg k0, if_neg k1]; exact .inr (.inr rfl)
        · rw [if_neg (by omega), if_neg (by omega), if_pos r, hcod q hq, hcod 1 (by omega), p9, show q = 4 + 5 * ((q - 2) / 5) by omega, w10]
          exact decide_eq_true ⟨by simp (disch := omega) only [q_bn, q_ob, q_z0, q_z1, q_gd, q_cl, q_add, q_mul, q_lt, q_eq, q_eq0, q_lt0, q_0lt, q_ngl, q_ngr, q_ng0, q_ngz, q_ngn, q_ngp, q_nlt]; omega, by simp (disch := omega) only [q_bn, q_ob, q_z0, q_z1, q_gd, q_cl, q_add, q_mul, q_lt, q_eq, q_eq0, q_lt0, q_0lt, q_ngl, q_ngr, q_ng0, q_ngz, q_ngn, q_ngp, q_nlt]; omega⟩
        · rw [if_neg (by omega), if_neg (by omega), if_neg (by omega), if_pos r, hcod q hq, hcod (q + 1) (by omega), show q = 5 + 5 * ((q - 2) / 5) by omega, show 5 + 5 * ((q - 2) / 5) + 1 = 6 + 5 * ((q - 2) / 5) by omega, w11, w12, dig _ (by omega)]
          refine decide_eq_true ?_
          rintro ⟨z1, -, z2⟩
          rw [q_eq (by omega) (by omega)] at z1 z2
          omega
        · rw [if_neg (by omega), if_neg (by omega), if_neg (by omega), if_neg (by omega), hcod q hq, show q = 6 + 5 * ((q - 2) / 5) by omega, w12, dig _ (by omega)]
  have hgs : ∀ x, x < N → ∃ kd ow hg, kd < 3 ∧ ow < G ∧ 1 ≤ hg ∧ hg ≤ 99 ∧ (s.2.2 0 (2 + x) = nI kd ∧ s.2.2 0 (12 + x) = nI ow ∧ s.2.2 0 (22 + x) = nI hg) ∧ gKind (σ2.2 4) x = nI kd ∧ gOwn (σ2.2 4) x = nI ow ∧ gHigh (σ2.2 4) x = nI hg := by
    intro x hx
    obtain ⟨kd, ow, hg, w1, w2, w3, w4, w5, w8, w9, w10, w11, w12⟩ := p10 x hx
    refine ⟨kd, ow, hg, w1, w2, w3, w4, w5, ?_, ?_, ?_⟩
    · unfold gKind
      rw [hcod _ (by omega), show 2 + 5 * x + 1 = 3 + 5 * x by omega, w9]
      rcases (show kd = 0 ∨ kd = 1 ∨ kd = 2 by omega) with rfl | rfl | rfl <;> decide
    · unfold gOwn
      rw [hcod _ (by omega), show 2 + 5 * x + 2 = 4 + 5 * x by omega, w10, q_sub (by omega), show 48 + ow - 48 = ow by omega]
    · unfold gHigh
      rw [hcod _ (by omega), hcod _ (by omega), show 2 + 5 * x + 3 = 5 + 5 * x by omega, show 2 + 5 * x + 4 = 6 + 5 * x by omega, w11, w12, q_sub (by omega), q_sub (by omega), q_mul, q_add, show 10 * (48 + hg / 10 - 48) + (48 + hg % 10 - 48) = hg by omega]
  have ht : hTail (σ2.2 8, σ2.2 9) := fun j _ => by
    show σ2.2 8 j = nI 0 ∧ σ2.2 9 j = nI 0
    rw [hk.2.2.2.2.1, hk.2.2.2.2.2.1]
    exact ⟨rfl, rfl⟩
  have hz : ∀ g, g < 5 → k_fl (σ2.2 10) 0 5 (k_ng 9) g = k_ng 9 := fun g hg => if_pos ⟨Nat.zero_le g, hg⟩
  rw [(T_firstFault (σ := σ2) (n := 2 + 5 * N) (F := 2 + 5 * N) hn (by omega) (Nat.le_refl _) hon (fun q => by omega)).2 rfl ⟨by omega, by omega⟩, q_ob, q_bn, if_pos rfl]
  rw [T_open (σ := σ2) (G := G) (N := N) (K := 0) (n := 2 + 5 * N) hn rfl hN.2 hG.2 (by rw [hcod 1 (by omega), p9, Nat.add_comm]) (by rw [hk.1.2.2.2]; rfl) (by decide) ht, q_ob]
  refine ⟨_, rfl, ⟨⟨rfl, rfl, rfl, rfl⟩, ⟨by omega, hG.2, hN.2, by decide, by decide⟩, fun x hx => ?_, fun g hg => .inl (hz g (by omega)), fun n hn => by omega, hZ_tail, rfl⟩, fun x hx => ?_, hz⟩
  · obtain ⟨kd, ow, hg, w1, w2, w3, w4, -, v1, v2, v3⟩ := hgs x hx
    show pKind (pSet (gKind (σ2.2 4)) (σ2.2 5) 0 N) x ∧ (∃ g, g < G ∧ pSet (gOwn (σ2.2 4)) (σ2.2 6) 0 N x = nI g) ∧ ∃ h, 1 ≤ h ∧ h ≤ 99 ∧ pSet (gHigh (σ2.2 4)) (σ2.2 7) 0 N x = nI h
    unfold pKind
    rw [pSet_in (Nat.zero_le x) hx, pSet_in (Nat.zero_le x) hx, pSet_in (Nat.zero_le x) hx, v1, v2, v3]
    refine ⟨?_, ⟨ow, w2, rfl⟩, hg, w3, w4, rfl⟩
    rcases (show kd = 0 ∨ kd = 1 ∨ kd = 2 by omega) with rfl | rfl | rfl
    · exact .inl rfl
    · exact .inr (.inl rfl)
    · exact .inr (.inr rfl)
  · obtain ⟨kd, ow, hg, -, -, -, -, ⟨w5, w6, w7⟩, v1, v2, v3⟩ := hgs x hx
    show _ = pSet (gKind (σ2.2 4)) (σ2.2 5) 0 N x ∧ _ = pSet (gOwn (σ2.2 4)) (σ2.2 6) 0 N x ∧ _ = pSet (gHigh (σ2.2 4)) (σ2.2 7) 0 N x
    rw [pSet_in (Nat.zero_le x) hx, pSet_in (Nat.zero_le x) hx, pSet_in (Nat.zero_le x) hx, v1, v2, v3]
    exact ⟨w5, w6, w7⟩
theorem sg61 {Ls : Nat} {xs : Nat → Int32} {G N : Nat} (hLs : Ls ≤ 260) (hN1 : 1 ≤ N) : ∀ (d k f : Nat) (s : k_S × k_S), k + d = 5 → d < f → HT s.1 G N 99 0 → (s.2.2 0 0 = nI G ∧ s.2.2 0 1 = nI N ∧ s.2.2 0 32 = nI 99 ∧ s.2.2 0 33 = nI 0) → (∀ x, x < N → s.2.2 0 (2 + x) = s.1.2 5 x ∧ s.2.2 0 (12 + x) = s.1.2 6 x ∧ s.2.2 0 (22 + x) = s.1.2 7 x) → (∀ g, g < 5 → s.1.2 10 g = k_ng 9) → (∀ j, j < k → s.2.2 2 j = k_ng 9) → PS (fL_law_c61 Ls xs f s (nI k)) := by
  intro d
  induction d with
  | zero =>
    intro k f s h1 h2 a b c e g
    obtain ⟨f, rfl⟩ := q_fu 0 h2
    rw [fL_law_c61_s, if_neg (nI_nlt (by omega) (by omega))]
    unfold fL_law_c80
    rw [q_bn]
    refine sg83 hLs hN1 12 0 99 0 s (by decide) (by decide) (by decide) ⟨a, b, c, fun n hn => by omega, fun i hi => ?_⟩
    rw [g i (by omega), e i hi]
    split <;> rfl
  | succ d ih =>
    intro k f s h1 h2 a b c e g
    obtain ⟨f, rfl⟩ := q_fu (d + 1) h2
    rw [fL_law_c61_s, if_pos (nI_lt (by omega) (by omega)), q_gd (by omega) (by decide), q_bn, q_bn, q_add]
    refine ih (k + 1) f _ (by omega) (by omega) a b c e (fun j hj => ?_)
    show upd (s.2.2 2) (nI k).toNatClampNeg (k_ng 9) j = k_ng 9
    rw [q_cl (by omega)]
    by_cases q : j = k
    · rw [q, pk_us]
    · rw [pk_un q]; exact g j (by omega)
theorem pu_law (Ls : Nat) (hLs : Ls ≤ 260) (xs : Nat → Int32) : ∃ s', fL_law_c23 Ls xs (k_s0T, k_s0R) = some (1, s') := by
  obtain ⟨G, N, s, hG, hN, e1, hP⟩ := sgput (xs := xs) hLs
  obtain ⟨τ, e2, hT, hr, hz⟩ := T_inn hG hN hP
  show PS (fL_law_c23 Ls xs (k_s0T, k_s0R))
  unfold fL_law_c23
  rw [e1, q_ob, q_bn, if_neg (nI_nlt (by omega) (by omega)), e2, q_ob, q_bn, z1, y1]
  rw [if_pos (show nI N = s.2.2 0 1 from hP.1.2.2.1.symm), q_bn]
  exact sg61 hLs hN.1 5 0 k_F (τ, s.2) (by decide) (q_kF (by decide)) hT hP.1.2 hr hz (fun j hj => by omega)
