/-! ===== the relation of the two states; the calls without a walk ===== -/
def RH (σ τ : k_S) (G N m K : Nat) : Prop :=
  (σ.1 3 = nI G ∧ τ.1 2 = nI G) ∧ (σ.1 4 = nI N ∧ τ.1 3 = nI N) ∧ (σ.1 5 = nI m ∧ τ.1 4 = nI m) ∧ (σ.1 6 = nI K ∧ τ.1 8 = nI K) ∧
  (G ≤ 5 ∧ N ≤ 10 ∧ m ≤ 99 ∧ K ≤ 60 ∧ (G = 0 → N = 0 ∧ K = 0)) ∧
  (σ.2 5 = τ.2 3 ∧ σ.2 6 = τ.2 4 ∧ σ.2 7 = τ.2 5 ∧ σ.2 8 = τ.2 12 ∧ σ.2 9 = τ.2 13 ∧ σ.2 10 = τ.2 11) ∧
  (∀ x, x < N → pKind (σ.2 5) x ∧ (∃ g, g < G ∧ σ.2 6 x = nI g) ∧ ∃ h, 1 ≤ h ∧ h ≤ 99 ∧ σ.2 7 x = nI h) ∧
  (∀ g, g < G → σ.2 10 g = k_ng 9 ∨ ∃ x, x < N ∧ σ.2 10 g = nI x ∧ σ.2 6 x = nI g) ∧
  (∀ n, n < K → ∀ g, g < G → σ.2 11 (5 * n + g) = τ.2 9 (5 * n + g) ∧ σ.2 13 (5 * n + g) = τ.2 10 (5 * n + g) ∧ (σ.2 11 (5 * n + g) = k_ng 9 ∨ ∃ x, x < N ∧ σ.2 11 (5 * n + g) = nI x ∧ σ.2 6 x = nI g) ∧ σ.2 12 (5 * n + g) = nI (qPlace G (fun o => σ.2 13 (5 * n + o)) g)) ∧
  (∀ n, n < K → ∀ g, G ≤ g → g < 5 → τ.2 9 (5 * n + g) = k_ng 9) ∧
  hTail (σ.2 8, σ.2 9) ∧ (G ≠ 0 → (σ.2 8, σ.2 9) = hAll (σ.2 11) G K 0 hZ)
def RS (σ τ : k_S) : Prop := ∀ k, k < 4 → (σ.2 3 k = k_ng 9 ∧ τ.2 0 k = k_ng 9) ∨ (∃ len s, len ≤ 60 ∧ s ≤ 2 ∧ σ.2 3 k = nI len ∧ τ.2 1 k = nI len ∧ σ.2 2 k = nI s ∧ τ.2 0 k = nI s ∧ ∀ i, i < len → σ.2 1 (60 * k + i) = τ.2 2 (60 * k + i))
def RR (σ τ : k_S) : Prop := (∃ G N m K, RH σ τ G N m K) ∧ RS σ τ ∧ σ.1 0 = τ.1 1 ∧ σ.1 1 = τ.1 0
/-- what stays: the house, the sheets -/
def kTh (σ σ' : k_S) : Prop := (σ'.1 3 = σ.1 3 ∧ σ'.1 4 = σ.1 4 ∧ σ'.1 5 = σ.1 5 ∧ σ'.1 6 = σ.1 6) ∧ σ'.2 5 = σ.2 5 ∧ σ'.2 6 = σ.2 6 ∧ σ'.2 7 = σ.2 7 ∧ σ'.2 8 = σ.2 8 ∧ σ'.2 9 = σ.2 9 ∧ σ'.2 10 = σ.2 10 ∧ σ'.2 11 = σ.2 11 ∧ σ'.2 12 = σ.2 12 ∧ σ'.2 13 = σ.2 13
def kTs (σ σ' : k_S) : Prop := σ'.2 1 = σ.2 1 ∧ σ'.2 2 = σ.2 2 ∧ σ'.2 3 = σ.2 3
def kTt (σ σ' : k_S) : Prop := σ'.1 0 = σ.1 0 ∧ σ'.1 1 = σ.1 1
def kMh (τ τ' : k_S) : Prop := (τ'.1 2 = τ.1 2 ∧ τ'.1 3 = τ.1 3 ∧ τ'.1 4 = τ.1 4 ∧ τ'.1 8 = τ.1 8) ∧ τ'.2 3 = τ.2 3 ∧ τ'.2 4 = τ.2 4 ∧ τ'.2 5 = τ.2 5 ∧ τ'.2 9 = τ.2 9 ∧ τ'.2 10 = τ.2 10 ∧ τ'.2 11 = τ.2 11 ∧ τ'.2 12 = τ.2 12 ∧ τ'.2 13 = τ.2 13
def kMs (τ τ' : k_S) : Prop := τ'.2 0 = τ.2 0 ∧ τ'.2 1 = τ.2 1 ∧ τ'.2 2 = τ.2 2
def kMt (τ τ' : k_S) : Prop := τ'.1 0 = τ.1 0 ∧ τ'.1 1 = τ.1 1
def kT (σ σ' : k_S) : Prop := kTh σ σ' ∧ kTs σ σ' ∧ kTt σ σ'
def kM (τ τ' : k_S) : Prop := kMh τ τ' ∧ kMs τ τ' ∧ kMt τ τ'
theorem kT.rf {σ : k_S} : kT σ σ := ⟨⟨⟨rfl, rfl, rfl, rfl⟩, rfl, rfl, rfl, rfl, rfl, rfl, rfl, rfl, rfl⟩, ⟨rfl, rfl, rfl⟩, rfl, rfl⟩
theorem kM.rf {τ : k_S} : kM τ τ := ⟨⟨⟨rfl, rfl, rfl, rfl⟩, rfl, rfl, rfl, rfl, rfl, rfl, rfl, rfl⟩, ⟨rfl, rfl, rfl⟩, rfl, rfl⟩
theorem kT.tr {a b c : k_S} (h1 : kT a b) (h2 : kT b c) : kT a c := by
  obtain ⟨⟨⟨a1, a2, a3, a4⟩, a5, a6, a7, a8, a9, a10, a11, a12, a13⟩, ⟨a14, a15, a16⟩, a17, a18⟩ := h1
  obtain ⟨⟨⟨b1, b2, b3, b4⟩, b5, b6, b7, b8, b9, b10, b11, b12, b13⟩, ⟨b14, b15, b16⟩, b17, b18⟩ := h2
  exact ⟨⟨⟨b1.trans a1, b2.trans a2, b3.trans a3, b4.trans a4⟩, b5.trans a5, b6.trans a6, b7.trans a7, b8.trans a8, b9.trans a9, b10.trans a10, b11.trans a11, b12.trans a12, b13.trans a13⟩, ⟨b14.trans a14, b15.trans a15, b16.trans a16⟩, b17.trans a17, b18.trans a18⟩
theorem kM.tr {a b c : k_S} (h1 : kM a b) (h2 : kM b c) : kM a c := by
  obtain ⟨⟨⟨a1, a2, a3, a4⟩, a5, a6, a7, a9, a10, a11, a12, a13⟩, ⟨a14, a15, a16⟩, a17, a18⟩ := h1
  obtain ⟨⟨⟨b1, b2, b3, b4⟩, b5, b6, b7, b9, b10, b11, b12, b13⟩, ⟨b14, b15, b16⟩, b17, b18⟩ := h2
  exact ⟨⟨⟨b1.trans a1, b2.trans a2, b3.trans a3, b4.trans a4⟩, b5.trans a5, b6.trans a6, b7.trans a7, b9.trans a9, b10.trans a10, b11.trans a11, b12.trans a12, b13.trans a13⟩, ⟨b14.trans a14, b15.trans a15, b16.trans a16⟩, b17.trans a17, b18.trans a18⟩
theorem RH.keep {σ σ' τ τ' : k_S} {G N m K : Nat} (h : RH σ τ G N m K) (hT : kTh σ σ') (hM : kMh τ τ') : RH σ' τ' G N m K := by
  obtain ⟨⟨a1, a2, a3, a4⟩, a5, a6, a7, a8, a9, a10, a11, a12, a13⟩ := hT
  obtain ⟨⟨b1, b2, b3, b4⟩, b5, b6, b7, b9, b10, b11, b12, b13⟩ := hM
  unfold RH
  simp only [a1, a2, a3, a4, a5, a6, a7, a8, a9, a10, a11, a12, a13, b1, b2, b3, b4, b5, b6, b7, b9, b10, b11, b12, b13]
  exact h
theorem RS.keep {σ σ' τ τ' : k_S} (h : RS σ τ) (hT : kTs σ σ') (hM : kMs τ τ') : RS σ' τ' := by
  obtain ⟨a1, a2, a3⟩ := hT
  obtain ⟨b1, b2, b3⟩ := hM
  unfold RS
  simp only [a1, a2, a3, b1, b2, b3]
  exact h
theorem RR.keep {σ σ' τ τ' : k_S} (h : RR σ τ) (hT : kT σ σ') (hM : kM τ τ') : RR σ' τ' := by
  obtain ⟨⟨G, N, m, K, hH⟩, hS, h0, h1⟩ := h
  exact ⟨⟨G, N, m, K, hH.keep hT.1 hM.1⟩, hS.keep hT.2.1 hM.2.1, by rw [hT.2.2.1, hM.2.2.2, h0], by rw [hT.2.2.2, hM.2.2.1, h1]⟩
/-- the fault is told anew on both sides -/
theorem RR.fault {σ τ : k_S} (h : RR σ τ) (v : Int32) : RR (k_sf σ 1 v) (k_sf τ 0 v) := by
  obtain ⟨⟨G, N, m, K, hH⟩, hS, h0, h1⟩ := h
  exact ⟨⟨G, N, m, K, hH.keep ⟨⟨rfl, rfl, rfl, rfl⟩, rfl, rfl, rfl, rfl, rfl, rfl, rfl, rfl, rfl⟩ ⟨⟨rfl, rfl, rfl, rfl⟩, rfl, rfl, rfl, rfl, rfl, rfl, rfl, rfl⟩⟩, hS.keep ⟨rfl, rfl, rfl⟩ ⟨rfl, rfl, rfl⟩, h0, rfl⟩
theorem RR.trace {σ τ : k_S} (h : RR σ τ) (v : Int32) : RR (k_sf σ 0 v) (k_sf τ 1 v) := by
  obtain ⟨⟨G, N, m, K, hH⟩, hS, h0, h1⟩ := h
  exact ⟨⟨G, N, m, K, hH.keep ⟨⟨rfl, rfl, rfl, rfl⟩, rfl, rfl, rfl, rfl, rfl, rfl, rfl, rfl, rfl⟩ ⟨⟨rfl, rfl, rfl, rfl⟩, rfl, rfl, rfl, rfl, rfl, rfl, rfl, rfl⟩⟩, hS.keep ⟨rfl, rfl, rfl⟩ ⟨rfl, rfl, rfl⟩, rfl, h1⟩
/-- both answer the same, and are again as they should be to one another -/
def qOk {α : Type} (o1 o2 : Option (α × k_S)) : Prop := ∃ (r : α) (σ' τ' : k_S), o1 = some (r, σ') ∧ o2 = some (r, τ') ∧ RR σ' τ'
theorem RH.tall {σ τ : k_S} {G N m K : Nat} (h : RH σ τ G N m K) : tTall σ = mTall τ := by
  obtain ⟨-, -, -, -, -, ⟨a5, a6, a7, a8, a9, a10⟩, -⟩ := h
  funext x
  unfold tTall mTall
  rw [a5, a7, a8]
theorem RH.may {σ τ : k_S} {G N m K : Nat} (h : RH σ τ G N m K) : tMay σ = mMay τ := by
  obtain ⟨-, -, ⟨m1, m2⟩, ⟨k1, k2⟩, -, ⟨a5, a6, a7, a8, a9, a10⟩, -⟩ := h
  funext x
  unfold tMay mMay
  rw [a5, a8, a9, m1, m2, k1, k2]
theorem RH.kindM {σ τ : k_S} {G N m K : Nat} (h : RH σ τ G N m K) {x : Nat} (hx : x < N) : pKind (τ.2 3) x := by
  obtain ⟨-, -, -, -, -, ⟨a5, a6, a7, a8, a9, a10⟩, ht, -⟩ := h
  rw [← a5]; exact (ht x hx).1
theorem RH.told {σ τ : k_S} {G N m K : Nat} (h : RH σ τ G N m K) (x : Nat) : ∃ t, t ≤ 300 ∧ σ.2 8 x = nI t ∨ (G = 0 ∧ x < 10) := by
  obtain ⟨-, -, -, -, ⟨hG, hN, hm, hK, h0⟩, -, -, -, hn, -, hl, hh⟩ := h
  by_cases hG0 : G = 0
  · by_cases hx : x < 10
    · exact ⟨0, .inr ⟨hG0, hx⟩⟩
    · exact ⟨0, .inl ⟨by omega, (hl x (by omega)).1⟩⟩
  · have := hAll_le (nT := σ.2 11) (G := G) hN K 0 0 hZ (fun i j _ h2 h3 => by
      rcases (hn i (by omega) j h3).2.2.1 with q | ⟨a, h4, h5, -⟩
      · exact .inl q
      · exact .inr ⟨a, h4, h5⟩) hZ_le
    obtain ⟨t, h1, h2⟩ := this x
    refine ⟨t, .inl ⟨Nat.le_trans h1 ?_, ?_⟩⟩
    · rw [Nat.zero_add]
      exact Nat.le_trans (Nat.mul_le_mul hG hK) (by decide)
    · rw [← h2, ← hh hG0]
/-- a tale is some number of inches tall, at least one -/
theorem RH.tallN {σ τ : k_S} {G N m K : Nat} (h : RH σ τ G N m K) {x : Nat} (hx : x < N) : ∃ t, 1 ≤ t ∧ t ≤ 5000 ∧ tTall σ x = nI t := by
  have hto := h.told x
  obtain ⟨-, -, -, -, ⟨hG, hN, hm, hK, h0⟩, -, ht, -⟩ := h
  obtain ⟨hk, -, b, h1, h2, h3⟩ := ht x hx
  obtain ⟨t, ht⟩ := hto
  unfold tTall pTall
  rw [h3]
  rcases ht with ⟨h4, h5⟩ | ⟨h4, -⟩
  · rw [h5]
    rcases hk with hk | hk | hk
    · rw [hk]; simp (disch := omega) only [q_bn, q_ob, q_z0, q_z1, q_gd, q_cl, q_add, q_mul, q_lt, q_eq, q_eq0, q_lt0, q_0lt, q_ngl, q_ngr, q_ng0, q_ngz, q_ngn, q_ngp, q_nlt]; exact ⟨b, h1, by omega, rfl⟩
    · rw [hk]; simp (disch := omega) only [q_bn, q_ob, q_z0, q_z1, q_gd, q_cl, q_add, q_mul, q_lt, q_eq, q_eq0, q_lt0, q_0lt, q_ngl, q_ngr, q_ng0, q_ngz, q_ngn, q_ngp, q_nlt, if_true]; exact ⟨b + 10 * t, by omega, by omega, rfl⟩
    · rw [hk]; simp (disch := omega) only [q_bn, q_ob, q_z0, q_z1, q_gd, q_cl, q_add, q_mul, q_lt, q_eq, q_eq0, q_lt0, q_0lt, q_ngl, q_ngr, q_ng0, q_ngz, q_ngn, q_ngp, q_nlt, if_true, if_false]; exact ⟨b + 900, by omega, by omega, rfl⟩
  · have := (h0 h4).1
    omega
theorem RH.hOkC {σ τ : k_S} {G N m K : Nat} (h : RH σ τ G N m K) {g : Nat} (hg : g < G) : hOk N (σ.2 10 g) := by
  obtain ⟨-, -, -, -, -, -, -, hc, -⟩ := h
  rcases hc g hg with q | ⟨x, h1, h2, -⟩
  · exact .inl q
  · exact .inr ⟨x, h1, h2⟩
theorem RH.hOkN {σ τ : k_S} {G N m K : Nat} (h : RH σ τ G N m K) {n g : Nat} (hn : n < K) (hg : g < G) : hOk N (σ.2 11 (5 * n + g)) := by
  obtain ⟨-, -, -, -, -, -, -, -, hnn, -⟩ := h
  rcases (hnn n hn g hg).2.2.1 with q | ⟨x, h1, h2, -⟩
  · exact .inl q
  · exact .inr ⟨x, h1, h2⟩
-- ---- calls of few steps
theorem pu_trace {σ τ : k_S} (h : RR σ τ) : qOk (fX6_trace σ) (fX7_trace τ) := ⟨σ.1 0, σ, τ, rfl, by rw [h.2.2.1]; rfl, h⟩
theorem pu_fault {σ τ : k_S} (h : RR σ τ) : qOk (fX6_fault σ) (fX7_fault τ) := ⟨σ.1 1, σ, τ, rfl, by rw [h.2.2.2]; rfl, h⟩
theorem pu_many {σ τ : k_S} (h : RR σ τ) (x : Int32) : qOk (fX6_many σ x) (fX7_many τ x) := by
  obtain ⟨⟨G, N, m, K, hH⟩, -⟩ := id h
  obtain ⟨⟨g1, g2⟩, ⟨n1, n2⟩, ⟨m1, m2⟩, ⟨k1, k2⟩, -⟩ := hH
  refine ⟨if x = nI 0 then nI G else if x = nI 1 then nI N else if x = nI 2 then nI K else if x = nI 3 then nI m else k_ng 2, σ, τ, ?_, ?_, h⟩
  · unfold fX6_many
    rw [g1, n1, m1, k1]
    repeat' split
    all_goals rfl
  · unfold fX7_many
    rw [g2, n2, m2, k2]
    simp only [← nI_0]
    repeat' split
    all_goals rfl
theorem T_isOpen {σ : k_S} {G : Nat} (hG : σ.1 3 = nI G) (hG5 : G ≤ 5) : fX0_isOpen σ = some (if G = 0 then nI 0 else nI 1, σ) := by
  unfold fX0_isOpen
  rw [hG]
  by_cases h0 : G = 0
  · subst h0; rfl
  · rw [if_pos (by simp (disch := omega) only [q_bn, q_ob, q_z0, q_z1, q_gd, q_cl, q_add, q_mul, q_lt, q_eq, q_eq0, q_lt0, q_0lt, q_ngl, q_ngr, q_ng0, q_ngz, q_ngn, q_ngp, q_nlt]; omega), if_neg h0]; rfl
theorem pu_memory {σ τ : k_S} (h : RR σ τ) (x : Int32) : qOk (fX6_memory σ x) (fX7_memory τ x) := by
  obtain ⟨⟨G, N, m, K, hH⟩, hS, h0, h1⟩ := id h
  have hH' := hH
  obtain ⟨⟨g1, g2⟩, ⟨n1, n2⟩, ⟨m1, m2⟩, ⟨k1, k2⟩, ⟨hG, hN, hm, hK, hz⟩, rest⟩ := hH
  unfold fX6_memory fX7_memory
  rw [M_within, q_ob]
  by_cases hx : x < nI 0 ∨ nI 99 < x
  · rw [if_pos hx, if_pos (show nI 0 = (0 : Int32) from rfl)]
    refine ⟨k_ng 2, σ, τ, ?_, rfl, h⟩
    by_cases hx0 : x < 0
    · rw [if_pos hx0]
    · rw [if_neg hx0, if_pos (hx.resolve_left hx0)]
  · obtain ⟨v, hv, rfl⟩ := q_pass (by decide) hx
    rw [if_neg hx, if_neg (show ¬ nI 1 = (0 : Int32) by decide)]
    rw [if_neg (by simp (disch := omega) only [q_bn, q_ob, q_z0, q_z1, q_gd, q_cl, q_add, q_mul, q_lt, q_eq, q_eq0, q_lt0, q_0lt, q_ngl, q_ngr, q_ng0, q_ngz, q_ngn, q_ngp, q_nlt]; exact not_false), if_neg (by simp (disch := omega) only [q_bn, q_ob, q_z0, q_z1, q_gd, q_cl, q_add, q_mul, q_lt, q_eq, q_eq0, q_lt0, q_0lt, q_ngl, q_ngr, q_ng0, q_ngz, q_ngn, q_ngp, q_nlt]; omega)]
    rw [T_isOpen g1 hG, q_ob, g2]
    by_cases hG0 : G = 0
    · rw [if_pos hG0, if_pos (show nI 0 = (0 : Int32) from rfl), if_pos (by rw [hG0]; rfl)]
      exact ⟨k_ng 3, σ, τ, rfl, rfl, h⟩
    · rw [if_neg hG0, if_neg (show ¬ nI 1 = (0 : Int32) by decide), if_neg (by simp (disch := omega) only [q_bn, q_ob, q_z0, q_z1, q_gd, q_cl, q_add, q_mul, q_lt, q_eq, q_eq0, q_lt0, q_0lt, q_ngl, q_ngr, q_ng0, q_ngz, q_ngn, q_ngp, q_nlt]; omega)]
      refine ⟨nI m, k_sf σ 5 (nI v), k_sf τ 4 (nI v), by rw [m1]; rfl, by rw [m2]; rfl, ⟨G, N, v, K, ?_⟩, hS.keep ⟨rfl, rfl, rfl⟩ ⟨rfl, rfl, rfl⟩, h0, h1⟩
      exact ⟨⟨g1, g2⟩, ⟨n1, n2⟩, ⟨rfl, rfl⟩, ⟨k1, k2⟩, ⟨hG, hN, hv, hK, hz⟩, rest⟩
theorem pu_ofTale {σ τ : k_S} (h : RR σ τ) (x y : Int32) : qOk (fX6_ofTale σ x y) (fX7_ofTale τ x y) := by
  obtain ⟨⟨G, N, m, K, hH⟩, hS, h0, h1⟩ := id h
  have hT := hH.tall
  have hM := hH.may
  have hKd := fun {x} => hH.kindM (x := x)
  obtain ⟨⟨g1, g2⟩, ⟨n1, n2⟩, ⟨m1, m2⟩, ⟨k1, k2⟩, ⟨hG, hN, hm, hK, hz⟩, ⟨a5, a6, a7, a8, a9, a10⟩, rest⟩ := hH
  unfold fX6_ofTale fX7_ofTale
  rcases q_ix x (n := N) (by omega) with ⟨j, hj, rfl⟩ | hx
  · rw [T_hasTale_in n1 hN hj, M_isTale_in n2 hN hj, q_ob, q_ob, if_neg (show ¬ nI 1 = (0 : Int32) by decide), if_neg (show ¬ nI 1 = (0 : Int32) by decide)]
    rw [T_isTellable σ (show j < 10 by omega), T_tallOf σ (show j < 10 by omega), M_mayNow τ (show j < 10 by omega) (hKd hj), M_tallNow τ (show j < 10 by omega) (hKd hj), ← hM, ← hT]
    simp (disch := omega) only [q_bn, q_ob, q_z0, q_z1, q_gd, q_cl, q_add, q_mul, q_lt, q_eq, q_eq0, q_lt0, q_0lt, q_ngl, q_ngr, q_ng0, q_ngz, q_ngn, q_ngp, q_nlt]
    rw [a5, a6, a7, a8, a9]
    refine ⟨if y = nI 0 then τ.2 3 j else if y = nI 1 then τ.2 4 j else if y = nI 2 then τ.2 5 j else if y = nI 3 then τ.2 12 j else if y = nI 4 then τ.2 13 j else if y = nI 5 then (if tMay σ j = 0 then nI 0 else nI 1) else if y = nI 6 then tTall σ j else k_ng 2, σ, τ, ?_, ?_, h⟩
    all_goals
      repeat' split
      all_goals rfl
  · have hx' := q_out (by omega) hx
    rw [T_hasTale_out n1 hx', M_isTale_out n2 hx']
    exact ⟨k_ng 1, σ, τ, rfl, rfl, h⟩
theorem pu_choose {σ τ : k_S} (h : RR σ τ) (x y : Int32) : qOk (fX6_choose σ x y) (fX7_choose τ x y) := by
  obtain ⟨⟨G, N, m, K, hH⟩, hS, h0, h1⟩ := id h
  have hM := hH.may
  have hKd := fun {x} => hH.kindM (x := x)
  have hH' := hH
  obtain ⟨⟨g1, g2⟩, ⟨n1, n2⟩, ⟨m1, m2⟩, ⟨k1, k2⟩, ⟨hG, hN, hm, hK, hz⟩, ⟨a5, a6, a7, a8, a9, a10⟩, ht, hc, rest⟩ := hH
  have fin : ∀ {g : Nat} (v : Int32), g < G → (v = k_ng 9 ∨ ∃ x, x < N ∧ v = nI x ∧ σ.2 6 x = nI g) → qOk (fX6_choose_c59 σ (nI g) v) (fX7_choose_c51 τ (nI g) v) := by
    intro g v hg hv
    unfold fX6_choose_c59 fX7_choose_c51
    simp (disch := omega) only [q_bn, q_ob, q_z0, q_z1, q_gd, q_cl, q_add, q_mul, q_lt, q_eq, q_eq0, q_lt0, q_0lt, q_ngl, q_ngr, q_ng0, q_ngz, q_ngn, q_ngp, q_nlt, s_sa]
    refine ⟨σ.2 10 g, k_sA σ 10 (upd (σ.2 10) g v), k_sA τ 11 (upd (τ.2 11) g v), rfl, by rw [congrFun a10 g], ⟨G, N, m, K, ⟨g1, g2⟩, ⟨n1, n2⟩, ⟨m1, m2⟩, ⟨k1, k2⟩, ⟨hG, hN, hm, hK, hz⟩, ⟨a5, a6, a7, a8, a9, ?_⟩, ht, ?_, rest⟩, hS.keep ⟨rfl, rfl, rfl⟩ ⟨rfl, rfl, rfl⟩, h0, h1⟩
    · show upd (σ.2 10) g v = upd (τ.2 11) g v
      rw [a10]
    · intro g' hg'
      show upd (σ.2 10) g v g' = k_ng 9 ∨ ∃ x, x < N ∧ upd (σ.2 10) g v g' = nI x ∧ σ.2 6 x = nI g'
      by_cases e : g' = g
      · subst e
        rw [pk_us]; exact hv
      · rw [pk_un e]; exact hc g' hg'
  unfold fX6_choose fX7_choose
  rcases q_ix x (n := G) (by omega) with ⟨g, hg, rfl⟩ | hx
  · rw [T_hasGuest_in g1 hG hg, M_isGuest_in g2 hG hg, q_ob, q_ob, if_neg (show ¬ nI 1 = (0 : Int32) by decide), if_neg (show ¬ nI 1 = (0 : Int32) by decide)]
    by_cases hy : y = k_ng 9
    · subst hy
      unfold fX7_choose_c24
      simp only [if_true]
      exact fin _ hg (.inl rfl)
    · rw [if_neg hy, if_neg hy]
      rcases q_ix y (n := N) (by omega) with ⟨j, hj, rfl⟩ | hyo
      · rw [T_hasTale_in n1 hN hj, M_isTale_in n2 hN hj, q_ob, q_ob, if_neg (show ¬ nI 1 = (0 : Int32) by decide), if_neg (show ¬ nI 1 = (0 : Int32) by decide)]
        unfold fX7_choose_c24
        rw [if_neg hy]
        simp (disch := omega) only [q_bn, q_ob, q_z0, q_z1, q_gd, q_cl, q_add, q_mul, q_lt, q_eq, q_eq0, q_lt0, q_0lt, q_ngl, q_ngr, q_ng0, q_ngz, q_ngn, q_ngp, q_nlt]
        rw [T_isTellable σ (show j < 10 by omega), M_mayNow τ (show j < 10 by omega) (hKd hj), ← hM, ← a6]
        by_cases ho : σ.2 6 j = nI g
        · rw [if_pos ho, if_pos ho, q_ob, q_ob]
          by_cases hm0 : tMay σ j = 0
          · rw [if_pos hm0, if_pos hm0]
            exact ⟨k_ng 3, σ, τ, rfl, rfl, h⟩
          · rw [if_neg hm0, if_neg hm0]
            exact fin _ hg (.inr ⟨j, hj, rfl, ho⟩)
        · rw [if_neg ho, if_neg ho]
          exact ⟨k_ng 3, σ, τ, rfl, rfl, h⟩
      · have hx' := q_out (by omega) hyo
        rw [T_hasTale_out n1 hx', M_isTale_out n2 hx']
        exact ⟨k_ng 1, σ, τ, rfl, rfl, h⟩
  · have hx' := q_out (by omega) hx
    rw [T_hasGuest_out g1 hx', M_isGuest_out g2 hx']
    exact ⟨k_ng 1, σ, τ, rfl, rfl, h⟩
theorem pu_ofNight {σ τ : k_S} (h : RR σ τ) (x y z : Int32) : qOk (fX6_ofNight σ x y z) (fX7_ofNight τ x y z) := by
  obtain ⟨⟨G, N, m, K, hH⟩, hS, h0, h1⟩ := id h
  obtain ⟨⟨g1, g2⟩, ⟨n1, n2⟩, ⟨m1, m2⟩, ⟨k1, k2⟩, ⟨hG, hN, hm, hK, hz⟩, ⟨a5, a6, a7, a8, a9, a10⟩, ht, hc, hnn, rest⟩ := hH
  unfold fX6_ofNight fX7_ofNight
  rcases q_ix x (n := K) (by omega) with ⟨n, hn, rfl⟩ | hx
  · rw [T_hasNight_in k1 hK hn, M_isNight_in k2 hK hn, q_ob, q_ob, if_neg (show ¬ nI 1 = (0 : Int32) by decide), if_neg (show ¬ nI 1 = (0 : Int32) by decide)]
    rcases q_ix y (n := G) (by omega) with ⟨g, hg, rfl⟩ | hx
    · rw [T_hasGuest_in g1 hG hg, M_isGuest_in g2 hG hg, q_ob, q_ob, if_neg (show ¬ nI 1 = (0 : Int32) by decide), if_neg (show ¬ nI 1 = (0 : Int32) by decide)]
      rw [M_layNight g2 hG (show n < 60 by omega), q_ob, M_placeOf (τ := k_sA τ 14 _) g2 hG (show g < 5 by omega)]
      obtain ⟨b1, b2, b3, b4⟩ := hnn n hn g hg
      simp (disch := omega) only [q_bn, q_ob, q_z0, q_z1, q_gd, q_cl, q_add, q_mul, q_lt, q_eq, q_eq0, q_lt0, q_0lt, q_ngl, q_ngr, q_ng0, q_ngz, q_ngn, q_ngp, q_nlt, s_sA2]
      rw [show n * 5 + g = 5 * n + g by omega]
      have hpl : pPl (pSet (fun g => τ.2 10 (5 * n + g)) (τ.2 14) 0 G) g (pSet (fun g => τ.2 10 (5 * n + g)) (τ.2 14) 0 G g) G 0 0 = qPlace G (fun o => σ.2 13 (5 * n + o)) g := by
        have := qPlace_congr (G := G) (v := pSet (fun g => τ.2 10 (5 * n + g)) (τ.2 14) 0 G) (w := fun o => σ.2 13 (5 * n + o)) hg (fun j hj => by rw [pSet_in (Nat.zero_le j) hj]; exact (hnn n hn j hj).2.1.symm)
        exact this
      rw [pSet_in (Nat.zero_le g) hg] at hpl
      refine ⟨if z = nI 0 then σ.2 11 (5 * n + g) else if z = nI 1 then σ.2 12 (5 * n + g) else if z = nI 2 then σ.2 13 (5 * n + g) else k_ng 2, σ, k_sA τ 14 (pSet (fun g => τ.2 10 (5 * n + g)) (τ.2 14) 0 G), ?_, ?_, h.keep kT.rf ⟨⟨⟨rfl, rfl, rfl, rfl⟩, rfl, rfl, rfl, rfl, rfl, rfl, rfl, rfl⟩, ⟨rfl, rfl, rfl⟩, rfl, rfl⟩⟩
      · repeat' split
        all_goals rfl
      · simp only [if_true, hpl, pSet_in (Nat.zero_le g) hg, if_neg (show ¬ (9 : Nat) = 14 by decide)]
        rw [b4, b1, b2]
        simp only [← nI_0]
        repeat' split
        all_goals rfl
    · have hx' := q_out (by omega) hx
      rw [T_hasGuest_out g1 hx', M_isGuest_out g2 hx']
      exact ⟨k_ng 1, σ, τ, rfl, rfl, h⟩
  · have hx' := q_out (by omega) hx
    rw [T_hasNight_out k1 hx', M_isNight_out k2 hx']
    exact ⟨k_ng 1, σ, τ, rfl, rfl, h⟩
theorem pu_lay {σ τ : k_S} (h : RR σ τ) (x y : Int32) : qOk (fX6_lay σ x y) (fX7_lay τ x y) := by
  obtain ⟨⟨G, N, m, K, hH⟩, hS, h0, h1⟩ := id h
  obtain ⟨⟨g1, g2⟩, ⟨n1, n2⟩, ⟨m1, m2⟩, ⟨k1, k2⟩, ⟨hG, hN, hm, hK, hz⟩, ⟨a5, a6, a7, a8, a9, a10⟩, ht, hc, hnn, rest⟩ := hH
  unfold fX6_lay fX7_lay
  rcases q_ix x (n := G) (by omega) with ⟨g, hg, rfl⟩ | hx
  · rw [T_hasGuest_in g1 hG hg, M_isGuest_in g2 hG hg, q_ob, q_ob, if_neg (show ¬ nI 1 = (0 : Int32) by decide), if_neg (show ¬ nI 1 = (0 : Int32) by decide)]
    rcases q_ix y (n := G) (by omega) with ⟨p, hp, rfl⟩ | hx
    · rw [T_hasGuest_in g1 hG hp, M_isGuest_in g2 hG hp, q_ob, q_ob, if_neg (show ¬ nI 1 = (0 : Int32) by decide), if_neg (show ¬ nI 1 = (0 : Int32) by decide)]
      obtain ⟨r', hr⟩ := M_lay_loop g2 hG k2 hK hg (nI p) K 0 0 k_F (τ.2 14) (by omega) (q_kF (by omega))
      rw [s_Aid] at hr
      rw [T_nightsAt k1 hK (show g < 5 by omega)]
      simp (disch := omega) only [q_bn, q_ob, q_z0, q_z1, q_gd, q_cl, q_add, q_mul, q_lt, q_eq, q_eq0, q_lt0, q_0lt, q_ngl, q_ngr, q_ng0, q_ngz, q_ngn, q_ngp, q_nlt]
      rw [hr]
      have e : pNa (fun n => σ.2 12 (5 * n + g)) (nI p) K 0 0 = pNa (fun n => nI (qPlace G (fun o => τ.2 10 (5 * n + o)) g)) (nI p) K 0 0 := by
        refine pNa_congr K 0 0 (fun n _ h2 => ?_)
        rw [(hnn n (by omega) g hg).2.2.2]
        exact congrArg nI (qPlace_congr hg (fun j hj => (hnn n (by omega) j hj).2.1))
      rw [e]
      exact ⟨_, σ, _, rfl, rfl, h.keep kT.rf ⟨⟨⟨rfl, rfl, rfl, rfl⟩, rfl, rfl, rfl, rfl, rfl, rfl, rfl, rfl⟩, ⟨rfl, rfl, rfl⟩, rfl, rfl⟩⟩
    · have hx' := q_out (by omega) hx
      rw [T_hasGuest_out g1 hx', M_isGuest_out g2 hx']
      exact ⟨k_ng 1, σ, τ, rfl, rfl, h⟩
  · have hx' := q_out (by omega) hx
    rw [T_hasGuest_out g1 hx', M_isGuest_out g2 hx']
    exact ⟨k_ng 1, σ, τ, rfl, rfl, h⟩
