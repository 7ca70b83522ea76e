/-! ===== nights: one goes by, some are undone ===== -/
def kTk (σ σ' : k_S) : Prop := σ'.2 5 = σ.2 5 ∧ σ'.2 6 = σ.2 6 ∧ σ'.2 7 = σ.2 7
theorem hTl_congr {σ τ : k_S} {G n : Nat} (h5 : τ.2 5 = σ.2 5) (h7 : τ.2 7 = σ.2 7) (h : ∀ i j, i < n → j < G → τ.2 11 (5 * i + j) = σ.2 11 (5 * i + j)) : hTl τ G n = hTl σ G n := by
  funext x
  unfold hTl
  rw [h5, h7, hAll_congr (a := τ.2 11) (b := σ.2 11) n 0 hZ (fun i j _ h2 h3 => h i j (by omega) h3)]
theorem HT.undo {σ : k_S} {G N m K k : Nat} (h : HT σ G N m K) (hk : k ≤ K) : ∃ τ, fX6_undo σ (nI k) = some (nI (K - k), τ) ∧ HT τ G N m (K - k) ∧ kTk σ τ ∧ τ.2 11 = σ.2 11 ∧ ∀ g, g < 5 → τ.2 10 g = k_ng 9 := by
  obtain ⟨⟨g1, n1, m1, k1⟩, ⟨h1, h2, h3, h4, h5⟩, ht, hc, hn, hl, hh⟩ := id h
  have hz : ∀ g, g < 5 → k_fl (σ.2 10) 0 5 (k_ng 9) g = k_ng 9 := fun g hg => if_pos ⟨Nat.zero_le g, hg⟩
  refine ⟨s89 (k_sA (k_sf σ 6 (nI (K - k))) 10 (k_fl (σ.2 10) 0 5 (k_ng 9))) (hAll (σ.2 11) G (K - k) 0 hZ), ?_, ?_, ⟨rfl, rfl, rfl⟩, rfl, fun g hg => hz g hg⟩
  · unfold fX6_undo
    rw [k1, if_neg (by simp (disch := omega) only [q_bn, q_ob, q_z0, q_z1, q_gd, q_cl, q_add, q_mul, q_lt, q_eq, q_eq0, q_lt0, q_0lt, q_ngl, q_ngr, q_ng0, q_ngz, q_ngn, q_ngp, q_nlt]; exact not_false), if_neg (by simp (disch := omega) only [q_bn, q_ob, q_z0, q_z1, q_gd, q_cl, q_add, q_mul, q_lt, q_eq, q_eq0, q_lt0, q_0lt, q_ngl, q_ngr, q_ng0, q_ngz, q_ngn, q_ngp, q_nlt]; omega)]
    rw [T_goBack g1 h2 n1 h3 k1 (by omega) hk (fun i j hi hj => h.okN (by omega) hj) hl, q_ob]
    rfl
  · exact ⟨⟨g1, n1, m1, rfl⟩, ⟨h1, h2, h3, h4, by omega⟩, ht, fun g hg => .inl (hz g (by omega)), fun n hn' g hg => hn n (by omega) g hg, hAll_tail h3 (K - k) 0 hZ (fun i j _ q2 q3 => h.okN (by omega) q3) hZ_tail, rfl⟩
theorem T_undo_out {σ : k_S} {G N m K : Nat} (h : HT σ G N m K) : fX6_undo σ (nI (K + 1)) = some (k_ng 2, σ) ∧ fX6_undo σ (k_ng 1) = some (k_ng 2, σ) := by
  have h5 : K ≤ 59 := h.2.1.2.2.2.2
  unfold fX6_undo
  rw [h.1.2.2.2]
  exact ⟨by rw [if_neg (by simp (disch := omega) only [q_bn, q_ob, q_z0, q_z1, q_gd, q_cl, q_add, q_mul, q_lt, q_eq, q_eq0, q_lt0, q_0lt, q_ngl, q_ngr, q_ng0, q_ngz, q_ngn, q_ngp, q_nlt]; exact not_false), if_pos (by simp (disch := omega) only [q_bn, q_ob, q_z0, q_z1, q_gd, q_cl, q_add, q_mul, q_lt, q_eq, q_eq0, q_lt0, q_0lt, q_ngl, q_ngr, q_ng0, q_ngz, q_ngn, q_ngp, q_nlt]; omega)], by rw [if_pos (by decide)]⟩
theorem HT.night {σ : k_S} {G N m K : Nat} (h : HT σ G N m K) (hK : K ≤ 58) : ∃ g0 τ, g0 < G ∧ (∀ g, g < G → (qPlace G (qRow σ) g = 0 ↔ g = g0)) ∧ fX6_night σ = some (nI g0, τ) ∧ HT τ G N m (K + 1) ∧ kTk σ τ ∧ (∀ g, g < G → τ.2 11 (5 * K + g) = σ.2 10 g) ∧ (∀ j, j < 5 * K → τ.2 11 j = σ.2 11 j) ∧ ∀ g, g < 5 → τ.2 10 g = k_ng 9 := by
  obtain ⟨⟨g1, n1, m1, k1⟩, ⟨h1, hG, hN, h4, h5⟩, ht, hc, hnn, hl, hh⟩ := id h
  have hG0 : G ≠ 0 := by omega
  have hz : ∀ g, g < 5 → k_fl (σ.2 10) 0 5 (k_ng 9) g = k_ng 9 := fun g hg => if_pos ⟨Nat.zero_le g, hg⟩
  let σ1 : k_S := k_sA (k_sf σ 7 (nI G)) 14 (pSet (qRow σ) (σ.2 14) 0 G)
  have hr1 : ∀ j, j < G → σ1.2 14 j = qRow σ j := fun j hj => pSet_in (Nat.zero_le j) hj
  obtain ⟨g0, hg0, hbed⟩ := bed_one (qRow σ) hG0
  have hb1 : ∀ g, g < G → (qPlace G (σ1.2 14) g = 0 ↔ g = g0) := fun g hg => by rw [qPlace_congr hg hr1]; exact hbed g hg
  let A := pSet (fun j => σ1.2 10 (j - 5 * K)) (σ1.2 11) (5 * K + 0) (5 * K + G)
  let C := pSet (fun j => σ1.2 14 (j - 5 * K)) (σ1.2 13) (5 * K + 0) (5 * K + G)
  let B := pSet (fun j => nI (qPlace G (σ1.2 14) (j - 5 * K))) (σ1.2 12) (5 * K + 0) (5 * K + G)
  let σ2 : k_S := s3 σ1 A C B
  have hA : ∀ j, j < G → A (5 * K + j) = σ.2 10 j := fun j hj => by
    show pSet _ _ _ _ _ = _
    rw [pSet_in (by omega) (by omega), show 5 * K + j - 5 * K = j by omega]; rfl
  have hAo : ∀ j, j < 5 * K → A j = σ.2 11 j := fun j hj => if_neg (by omega)
  have hC : ∀ j, j < G → C (5 * K + j) = qRow σ j := fun j hj => by
    show pSet _ _ _ _ _ = _
    rw [pSet_in (by omega) (by omega), show 5 * K + j - 5 * K = j by omega]; exact hr1 j hj
  have hCo : ∀ j, j < 5 * K → C j = σ.2 13 j := fun j hj => if_neg (by omega)
  have hB : ∀ j, j < G → B (5 * K + j) = nI (qPlace G (qRow σ) j) := fun j hj => by
    show pSet _ _ _ _ _ = _
    rw [pSet_in (by omega) (by omega), show 5 * K + j - 5 * K = j by omega, qPlace_congr hj hr1]
  have hBo : ∀ j, j < 5 * K → B j = σ.2 12 j := fun j hj => if_neg (by omega)
  have eT : fX0_goBy σ1 = some (nI g0, k_sA (k_sf (s89 σ2 (hRow A K G 0 (σ.2 8, σ.2 9))) 6 (nI (K + 1))) 10 (k_fl (σ.2 10) 0 5 (k_ng 9))) := by
    unfold fX0_goBy
    rw [q_bn, q_bn]
    have e0 : σ1 = s3 σ1 (σ1.2 11) (σ1.2 13) (σ1.2 12) := by
      unfold s3
      rw [s_Aid, s_Aid, s_Aid]
    rw [show fX0_goBy_c5 k_F σ1 (k_ng 9) (nI 0) = fX0_goBy_c5 k_F (s3 σ1 (σ1.2 11) (σ1.2 13) (σ1.2 12)) (k_ng 9) (nI 0) from congrArg (fun z => fX0_goBy_c5 k_F z (k_ng 9) (nI 0)) e0]
    rw [T_goBy_lay (σ := σ1) g1 rfl hG k1 (by omega) G 0 k_F _ _ _ _ (by omega) (q_kF (by omega))]
    rw [pBd_eq hb1 G 0 _ (by omega), if_pos ⟨Nat.zero_le _, hg0⟩]
    have e1 : s3 σ1 (pSet (fun j => σ1.2 10 (j - 5 * K)) (σ1.2 11) (5 * K + 0) (5 * K + G)) (pSet (fun j => σ1.2 14 (j - 5 * K)) (σ1.2 13) (5 * K + 0) (5 * K + G)) (pSet (fun j => nI (qPlace G (σ1.2 14) (j - 5 * K))) (σ1.2 12) (5 * K + 0) (5 * K + G)) = s89 σ2 (σ.2 8, σ.2 9) := (s89_id σ2).symm
    rw [e1]
    exact T_goBy_told (σ0 := σ2) g1 hG n1 hN k1 (by omega) (fun j hj => h.okC hj) A hA (nI g0) G 0 k_F _ (by omega) (q_kF (by omega))
  have hOkA : ∀ n, n < K + 1 → ∀ j, j < G → hOk N (A (5 * n + j)) := by
    intro n hn j hj
    by_cases hnK : n = K
    · rw [hnK, hA j hj]; exact h.okC hj
    · rw [hAo _ (by omega)]; exact h.okN (by omega) hj
  have hist : hAll A G (K + 1) 0 hZ = hRow A K G 0 (σ.2 8, σ.2 9) := by
    rw [hAll_last, Nat.zero_add, hAll_congr (a := A) (b := σ.2 11) K 0 hZ (fun i j _ h2 h3 => hAo _ (by omega)), ← hh]
  refine ⟨g0, k_sA (k_sf (s89 σ2 (hRow A K G 0 (σ.2 8, σ.2 9))) 6 (nI (K + 1))) 10 (k_fl (σ.2 10) 0 5 (k_ng 9)), hg0, hbed, ?_, ?_, ⟨rfl, rfl, rfl⟩, hA, hAo, fun g hg => hz g hg⟩
  · unfold fX6_night
    rw [h.isOpen, q_ob, if_neg q_n1, k1, if_pos (by simp (disch := omega) only [q_bn, q_ob, q_z0, q_z1, q_gd, q_cl, q_add, q_mul, q_lt, q_eq, q_eq0, q_lt0, q_0lt, q_ngl, q_ngr, q_ng0, q_ngz, q_ngn, q_ngp, q_nlt]; omega), h.talls, q_ob, eT, q_ob]
  · refine ⟨⟨g1, n1, m1, rfl⟩, ⟨h1, hG, hN, h4, by omega⟩, ht, fun g hg => .inl (hz g (by omega)), ?_, hRow_tail hN G 0 _ (fun j _ h2 => hOkA K (by omega) j (by omega)) hl, hist.symm⟩
    intro n hn g hg
    show hOwn σ N g (A (5 * n + g)) ∧ C (5 * n + g) = pCh (hTl (k_sA (k_sf (s89 σ2 (hRow A K G 0 (σ.2 8, σ.2 9))) 6 (nI (K + 1))) 10 (k_fl (σ.2 10) 0 5 (k_ng 9))) G n) (A (5 * n + g)) ∧ B (5 * n + g) = nI (qPlace G (fun o => C (5 * n + o)) g)
    rw [hTl_congr (σ := σ) (τ := k_sA (k_sf (s89 σ2 (hRow A K G 0 (σ.2 8, σ.2 9))) 6 (nI (K + 1))) 10 (k_fl (σ.2 10) 0 5 (k_ng 9))) rfl rfl (fun i j hi hj => hAo _ (by omega))]
    by_cases hnK : n = K
    · subst hnK
      rw [hC g hg, hA g hg, hB g hg]
      refine ⟨hc g hg, ?_, congrArg nI (qPlace_congr hg (fun j hj => (hC j hj).symm))⟩
      unfold qRow
      rw [h.tl]
    · rw [hCo _ (by omega), hAo _ (by omega), hBo _ (by omega)]
      obtain ⟨b1, b2, b4⟩ := hnn n (by omega) g hg
      exact ⟨b1, b2, b4.trans (congrArg nI (qPlace_congr hg (fun j hj => (hCo _ (by omega)).symm)))⟩
