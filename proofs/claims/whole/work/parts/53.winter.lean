/-! ===== a winter on both sides ===== -/
theorem mC_le : ∀ d, d < 7 → 12 * mC d < 900000000 := by decide
theorem M_find {σ T : k_S} {g K N n s : Nat} {num : Nat → Int32} (hN : N ≤ 10) (hn0 : 1 ≤ n) (hn : n ≤ 6) (hK : K ≤ 60) (hs : s + n ≤ 240) (hB : mB σ T K N) (hnum : ∀ j, j < n → T.2 2 (s + j) = num j) : ∃ T', fX7_findWinter T (nI g) (nI s) (nI n) = some (encB (k_ng 9) (wBest σ g K N n num).1, T') ∧ kM T T' ∧ (0 < (wBest σ g K N n num).1 → ∀ j, j < n → T'.2 18 j = nI ((wBest σ g K N n num).2 j) ∧ (wBest σ g K N n num).2 j ≤ 10) := by
  obtain ⟨d, rfl⟩ := q_fu 0 (show 0 < n by omega)
  have hk : 1000000000 ≤ k_F := k_F_ge
  have hc := mC_le (d + 1) (by omega)
  obtain ⟨f', T', x1, x2, x3, x4, x5⟩ := M_walk (σ := σ) (g := g) (num := num) hN hn hK hs d 0 (by omega) 11 0 k_F (k_sA T 17 (upd (T.2 17) 0 (k_ng 1))) (0, fun _ => 0) (fun _ => 0) rfl (by omega) (Nat.zero_le _) ⟨hB.put _ (.inl rfl), hnum, fun j hj => by omega, fun h => absurd h (by decide)⟩ (by
    show upd (T.2 17) 0 (k_ng 1) 0 + nI 1 = nI 0
    rw [pk_us]
    decide)
  obtain ⟨f', rfl⟩ := q_fu 0 (show 0 < f' by omega)
  rw [fX7_findWinter_c14_s, if_pos (show q1m 0 < 0 by decide)] at x1
  unfold fX7_findWinter
  rw [q_bn, q_bn, q_gd (by decide) (by decide), q_bn, s_sa, q_cl (by decide)]
  exact ⟨T', x1, (kM.w17 _).tr x4, x3.2.2.2⟩
theorem pu_winter {σ τ : k_S} (h : RR σ τ) (x y z u t p : Int32) : qOk (fX6_winter σ x y z u t p) (fX7_winter τ x y z u t p) := by
  have hf := h.fault (nI 0)
  unfold fX6_winter fX7_winter
  rw [q_bn, q_bn]
  generalize hσ : k_sf σ 1 (nI 0) = σ1 at hf ⊢
  generalize hτ : k_sf τ 0 (nI 0) = τ1 at hf ⊢
  clear h
  obtain ⟨⟨G, N, m, K, hH⟩, hS, h0, h1⟩ := id hf
  have hH' := hH
  obtain ⟨⟨g1, g2⟩, ⟨n1, n2⟩, ⟨m1, m2⟩, ⟨k1, k2⟩, ⟨hG, hN, hm, hK, hz⟩, ⟨a5, a6, a7, a8, a9, a10⟩, ht, -⟩ := hH
  rcases q_ix x (n := G) (by omega) with ⟨g, hg, rfl⟩ | hx
  case inr =>
    have hx' := q_out (by omega) hx
    rw [T_hasGuest_out g1 hx', M_isGuest_out g2 hx']
    exact ⟨k_ng 1, σ1, τ1, rfl, rfl, hf⟩
  rw [T_hasGuest_in g1 hG hg, M_isGuest_in g2 hG hg, q_ob, q_ob, if_neg q_n1, if_neg q_n1]
  rw [T_isSheet, M_isSheet, q_ob, q_ob]
  by_cases hzz' : y < nI 0 ∨ nI 3 < y
  · rw [if_pos hzz', if_pos q_0i, if_pos q_0i]
    exact ⟨_, σ1, τ1, rfl, rfl, hf⟩
  rw [if_neg hzz', if_neg q_n1, if_neg q_n1, T_isSort, M_isSort, q_ob, q_ob]
  by_cases hu : z < nI 0 ∨ nI 2 < z
  · rw [if_pos hu, if_pos q_0i, if_pos q_0i]
    exact ⟨_, σ1, τ1, rfl, rfl, hf⟩
  rw [if_neg hu, if_neg q_n1, if_neg q_n1]
  obtain ⟨k, hk, rfl⟩ := q_pass (by decide) hzz'
  have hk4 : k < 4 := by omega
  obtain ⟨c, hc5, e1, e2, e3⟩ := hS.against hk4 z u t
  rw [e1, e2, q_ob, q_ob, q_bn, q_bn]
  by_cases hc0 : ¬ c = 0
  · rw [if_neg (by rw [q_eq0 (by omega)]; exact hc0), if_neg (by rw [q_eq0 (by omega)]; exact hc0)]
    exact ⟨_, _, _, rfl, rfl, hf.fault _⟩
  have hc0 := Decidable.not_not.mp hc0
  obtain ⟨len, a, n, q1, rfl, rfl, q4, q5⟩ := e3 hc0
  subst hc0
  rw [if_pos q_0i, if_pos q_0i, M_within, q_ob]
  by_cases hn1 : n < 1
  · rw [if_pos (nI_lt hn1 (by decide)), if_pos (show nI n < nI 1 ∨ nI 6 < nI n from .inl (nI_lt hn1 (by decide))), if_pos q_0i]
    exact ⟨_, σ1, τ1, rfl, rfl, hf⟩
  by_cases hn6 : 6 < n
  · rw [if_neg (nI_nlt (by omega) (by omega)), if_pos (nI_lt hn6 (by omega)), if_pos (show nI n < nI 1 ∨ nI 6 < nI n from .inr (nI_lt hn6 (by omega))), if_pos q_0i]
    exact ⟨_, σ1, τ1, rfl, rfl, hf⟩
  rw [if_neg (nI_nlt (by omega) (by omega)), if_neg (nI_nlt (by omega) (by omega)), if_neg (show ¬ (nI n < nI 1 ∨ nI 6 < nI n) by rw [q_lt (by omega) (by decide), q_lt (by decide) (by omega)]; omega), if_neg q_n1, M_within, q_ob, q_sub (by omega)]
  have tp : (nI (n - 1) < p) = ¬ p < nI n := by
    rw [Int32.lt_iff_toInt_lt, Int32.lt_iff_toInt_lt, nI_toInt (by omega), nI_toInt (by omega)]
    exact propext (by omega)
  by_cases hp1 : p < k_ng 1
  · rw [if_pos hp1, if_pos (show p < k_ng 1 ∨ nI (n - 1) < p from .inl hp1), if_pos q_0i]
    exact ⟨_, σ1, τ1, rfl, rfl, hf⟩
  by_cases hp2 : ¬ p < nI n
  · rw [if_neg hp1, if_neg hp2, if_pos (show p < k_ng 1 ∨ nI (n - 1) < p from .inr (by rw [tp]; exact hp2)), if_pos q_0i]
    exact ⟨_, σ1, τ1, rfl, rfl, hf⟩
  have hp2 := Decidable.not_not.mp hp2
  rw [if_neg hp1, if_pos hp2, if_neg (show ¬ (p < k_ng 1 ∨ nI (n - 1) < p) by rw [tp]; rintro (q | q); exact hp1 q; exact q hp2), if_neg q_n1]
  unfold fX2_take_a24 k_gc
  simp (disch := omega) only [q_bn, q_ob, q_z0, q_z1, q_gd, q_cl, q_add, q_mul, q_lt, q_eq, q_eq0, q_lt0, q_0lt, q_ngl, q_ngr, q_ng0, q_ngz, q_ngn, q_ngp, q_nlt, s_sc]
  rw [if_neg (by simp only [false_or]; omega), q_ob]
  let σ2 : k_S := k_sA σ1 17 (va_cpy (σ1.2 1) (σ1.2 17) (k * 60 + a) 0 n)
  let num : Nat → Int32 := fun j => τ1.2 2 (60 * k + a + j)
  have hnum : ∀ j, j < n → σ2.2 17 j = num j := fun j hj => by
    show va_cpy (σ1.2 1) (σ1.2 17) (k * 60 + a) 0 n j = _
    unfold va_cpy
    rw [if_pos (by omega), show k * 60 + a + (j - 0) = 60 * k + (a + j) by omega, q5 (a + j) (by omega)]
    show _ = τ1.2 2 (60 * k + a + j)
    rw [Nat.add_assoc]
  have hkT2 : kT σ1 σ2 := ⟨⟨⟨rfl, rfl, rfl, rfl⟩, rfl, rfl, rfl, rfl, rfl, rfl, rfl, rfl, rfl⟩, ⟨rfl, rfl, rfl⟩, rfl, rfl⟩
  have hto : ∀ x, x < 10 → t0 σ2 x ≤ 300 ∧ σ2.2 8 x = nI (t0 σ2 x) := fun x _ => by
    obtain ⟨w, q | q⟩ := hH'.told x
    · have e : t0 σ2 x = w := by
        show (σ1.2 8 x).toNatClampNeg = w
        rw [q.2, q_cl (by omega)]
      rw [e]
      exact ⟨q.1, q.2⟩
    · omega
  obtain ⟨S', s1, s2, s3, s4⟩ := T_find (σ := σ2) (g := g) (n := n) (K := K) (N := N) (num := num) n1 hN k1 hK hto (fun x hx => by
    obtain ⟨-, -, b, b1, b2, b3⟩ := ht x hx
    exact ⟨b, b2, b3⟩) (by omega) hnum
  obtain ⟨T', t1, t2, t3⟩ := M_find (σ := σ2) (T := τ1) (g := g) (n := n) (K := K) (N := N) (s := 60 * k + a) (num := num) hN (by omega) (by omega) hK (by omega) ⟨⟨a5.symm, a6.symm, a7.symm, a8.symm, a9.symm⟩, ⟨m2.trans m1.symm, k2, n2⟩, fun x hx => (ht x hx).1, hto⟩ (fun j hj => rfl)
  have h1B : 1 ≤ (wBest σ2 g K N n num).1 := sS_one (fun q r => wOk_10 q r) n 0 _ _
  show qOk (k_ob (fX5_find σ2 (nI g) (nI n)) _) (k_ob (fX7_findWinter τ1 (nI g) (nI (60 * k + a)) (nI n)) _)
  rw [s1, t1, q_ob, q_ob]
  have hRR := hf.keep (hkT2.tr s2) t2
  by_cases hp : p = k_ng 1
  · subst hp
    rw [if_pos rfl, if_pos rfl, s3]
    refine ⟨_, S', T', rfl, ?_, hRR⟩
    unfold encB
    rw [if_neg (by omega), if_neg (by omega)]
  · rw [if_neg hp, if_neg hp]
    have hp0 : ¬ p < 0 := fun q => by
      rw [Int32.lt_iff_toInt_lt, Int32.toInt_zero] at q
      rw [Int32.lt_iff_toInt_lt, k_ng_toInt (by decide)] at hp1
      refine hp (Int32.toInt_inj.mp ?_)
      rw [k_ng_toInt (by decide)]
      omega
    obtain ⟨j, hj, rfl⟩ := nI_of hp0
    rw [q_lt hj (by omega)] at hp2
    obtain ⟨u1, u2⟩ := t3 (by omega) j hp2
    rw [q_gd (by omega) (by decide), q_gd (by omega) (by decide), q_gd (by omega) (by decide), q_cl (by omega), s4 (by omega) j hp2, u1]
    refine ⟨_, S', T', rfl, ?_, hRR⟩
    unfold e10
    by_cases h10 : (wBest σ2 g K N n num).2 j = 10
    · rw [if_pos h10, if_pos (by rw [h10])]
    · rw [if_neg h10, if_neg (by rw [q_eq (by omega) (by decide)]; exact h10)]
