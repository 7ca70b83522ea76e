/-! ===== the history: how often told, when the last time ===== -/
abbrev qA : Type := Nat → Int32
def hStep (s : qA × qA) (x : Int32) (n : Nat) : qA × qA := if x = k_ng 9 then s else (upd s.1 x.toNatClampNeg (s.1 x.toNatClampNeg + nI 1), upd s.2 x.toNatClampNeg (nI n))
def hRow (nT : qA) (n : Nat) : Nat → Nat → qA × qA → qA × qA
  | 0, _, s => s
  | d + 1, g, s => hRow nT n d (g + 1) (hStep s (nT (5 * n + g)) n)
def hAll (nT : qA) (G : Nat) : Nat → Nat → qA × qA → qA × qA
  | 0, _, s => s
  | d + 1, n, s => hAll nT G d (n + 1) (hRow nT n G 0 s)
def hFlat (mT : qA) : Nat → Nat → qA × qA → qA × qA
  | 0, _, s => s
  | d + 1, k, s => hFlat mT d (k + 1) (hStep s (mT k) (k / 5))
def hZ : qA × qA := (fun _ => nI 0, fun j => if j < 10 then k_ng 9 else nI 0)
/-- an entry: none, or a tale's number -/
def hOk (N : Nat) (x : Int32) : Prop := x = k_ng 9 ∨ ∃ a : Nat, a < N ∧ x = nI a
theorem hRow_congr {a b : qA} {n : Nat} : ∀ (d g : Nat) (s : qA × qA), (∀ j, g ≤ j → j < g + d → a (5 * n + j) = b (5 * n + j)) → hRow a n d g s = hRow b n d g s
  | 0, _, _, _ => rfl
  | d + 1, g, s, h => by
    unfold hRow
    rw [h g (Nat.le_refl g) (by omega)]
    exact hRow_congr d (g + 1) _ (fun j h1 h2 => h j (by omega) (by omega))
theorem hAll_congr {a b : qA} {G : Nat} : ∀ (d n : Nat) (s : qA × qA), (∀ i j, n ≤ i → i < n + d → j < G → a (5 * i + j) = b (5 * i + j)) → hAll a G d n s = hAll b G d n s
  | 0, _, _, _ => rfl
  | d + 1, n, s, h => by
    unfold hAll
    rw [hRow_congr (a := a) (b := b) G 0 s (fun j _ h2 => h n j (Nat.le_refl n) (by omega) (by omega))]
    exact hAll_congr d (n + 1) _ (fun i j h1 h2 h3 => h i j (by omega) (by omega) h3)
theorem hAll_last (nT : qA) (G : Nat) : ∀ (d n : Nat) (s : qA × qA), hAll nT G (d + 1) n s = hRow nT (n + d) G 0 (hAll nT G d n s)
  | 0, n, s => rfl
  | d + 1, n, s => by
    show hAll nT G (d + 1) (n + 1) (hRow nT n G 0 s) = _
    rw [hAll_last nT G d (n + 1)]
    rw [show n + 1 + d = n + (d + 1) by omega]
    rfl
theorem hFlat_add (mT : qA) : ∀ (d e k : Nat) (s : qA × qA), hFlat mT (d + e) k s = hFlat mT e (k + d) (hFlat mT d k s)
  | 0, e, k, s => by simp [hFlat]
  | d + 1, e, k, s => by
    rw [show d + 1 + e = (d + e) + 1 by omega]
    show hFlat mT (d + e) (k + 1) _ = _
    rw [hFlat_add mT d e (k + 1)]
    rw [show k + 1 + d = k + (d + 1) by omega]
    rfl
theorem hFlat_skip (mT : qA) : ∀ (d k : Nat) (s : qA × qA), (∀ j, k ≤ j → j < k + d → mT j = k_ng 9) → hFlat mT d k s = s
  | 0, _, _, _ => rfl
  | d + 1, k, s, h => by
    unfold hFlat
    rw [h k (Nat.le_refl k) (by omega)]
    show hFlat mT d (k + 1) (hStep s (k_ng 9) _) = s
    rw [show hStep s (k_ng 9) (k / 5) = s from if_pos rfl]
    exact hFlat_skip mT d (k + 1) s (fun j h1 h2 => h j (by omega) (by omega))
theorem hFlat_row (mT : qA) (n : Nat) : ∀ (d g : Nat) (s : qA × qA), g + d ≤ 5 → hFlat mT d (5 * n + g) s = hRow mT n d g s
  | 0, _, _, _ => rfl
  | d + 1, g, s, h => by
    unfold hFlat hRow
    rw [show (5 * n + g) / 5 = n by omega, show 5 * n + g + 1 = 5 * n + (g + 1) by omega]
    exact hFlat_row mT n d (g + 1) _ (by omega)
theorem hFlat_all (mT : qA) {G : Nat} (hG : G ≤ 5) : ∀ (d n : Nat) (s : qA × qA), (∀ i j, n ≤ i → i < n + d → G ≤ j → j < 5 → mT (5 * i + j) = k_ng 9) → hFlat mT (5 * d) (5 * n) s = hAll mT G d n s
  | 0, _, _, _ => rfl
  | d + 1, n, s, h => by
    rw [show 5 * (d + 1) = G + ((5 - G) + 5 * d) by omega, hFlat_add, hFlat_add, hFlat_skip mT (5 - G) (5 * n + G) _ (fun j h1 h2 => by
      have := h n (j - 5 * n) (Nat.le_refl n) (by omega) (by omega) (by omega)
      rwa [show 5 * n + (j - 5 * n) = j by omega] at this)]
    rw [show 5 * n + G + (5 - G) = 5 * (n + 1) by omega, hFlat_all mT hG d (n + 1) _ (fun i j h1 h2 h3 h4 => h i j (by omega) (by omega) h3 h4)]
    have := hFlat_row mT n G 0 s (by omega)
    rw [Nat.add_zero] at this
    rw [this]
    rfl
-- the rows' ends, and their sizes
def hTail (s : qA × qA) : Prop := ∀ j, 10 ≤ j → s.1 j = nI 0 ∧ s.2 j = nI 0
def hLe (s : qA × qA) (b : Nat) : Prop := ∀ j, ∃ t : Nat, t ≤ b ∧ s.1 j = nI t
theorem hStep_tail {N : Nat} (hN : N ≤ 10) {s : qA × qA} {x : Int32} (hx : hOk N x) (n : Nat) (h : hTail s) : hTail (hStep s x n) := by
  unfold hStep
  split
  · exact h
  next hne =>
    rcases hx with hx | ⟨a, ha, rfl⟩
    · exact absurd hx hne
    · intro j hj
      rw [q_cl (by omega)]
      exact ⟨(pk_un (by omega)).trans (h j hj).1, (pk_un (by omega)).trans (h j hj).2⟩
theorem hStep_le {N : Nat} (hN : N ≤ 10) {s : qA × qA} {x : Int32} (hx : hOk N x) (n : Nat) {b : Nat} (h : hLe s b) : hLe (hStep s x n) (b + 1) := by
  unfold hStep
  split
  · exact fun j => by
      obtain ⟨t, h1, h2⟩ := h j
      exact ⟨t, by omega, h2⟩
  next hne =>
    rcases hx with hx | ⟨a, ha, rfl⟩
    · exact absurd hx hne
    · intro j
      rw [q_cl (by omega)]
      by_cases hj : j = a
      · subst hj
        obtain ⟨t, h1, h2⟩ := h j
        exact ⟨t + 1, by omega, pk_us.trans (by rw [h2, q_add])⟩
      · obtain ⟨t, h1, h2⟩ := h j
        exact ⟨t, by omega, (pk_un hj).trans h2⟩
theorem hRow_tail {nT : qA} {N n : Nat} (hN : N ≤ 10) : ∀ (d g : Nat) (s : qA × qA), (∀ j, g ≤ j → j < g + d → hOk N (nT (5 * n + j))) → hTail s → hTail (hRow nT n d g s)
  | 0, _, _, _, h => h
  | d + 1, g, s, ho, h => hRow_tail hN d (g + 1) _ (fun j h1 h2 => ho j (by omega) (by omega)) (hStep_tail hN (ho g (Nat.le_refl g) (by omega)) n h)
theorem hRow_le {nT : qA} {N n : Nat} (hN : N ≤ 10) : ∀ (d g b : Nat) (s : qA × qA), (∀ j, g ≤ j → j < g + d → hOk N (nT (5 * n + j))) → hLe s b → hLe (hRow nT n d g s) (b + d)
  | 0, _, _, _, _, h => h
  | d + 1, g, b, s, ho, h => by
    have := hRow_le hN d (g + 1) (b + 1) _ (fun j h1 h2 => ho j (by omega) (by omega)) (hStep_le hN (ho g (Nat.le_refl g) (by omega)) n h)
    rw [show b + (d + 1) = b + 1 + d by omega]
    exact this
theorem hAll_tail {nT : qA} {N G : Nat} (hN : N ≤ 10) : ∀ (d n : Nat) (s : qA × qA), (∀ i j, n ≤ i → i < n + d → j < G → hOk N (nT (5 * i + j))) → hTail s → hTail (hAll nT G d n s)
  | 0, _, _, _, h => h
  | d + 1, n, s, ho, h => hAll_tail hN d (n + 1) _ (fun i j h1 h2 h3 => ho i j (by omega) (by omega) h3) (hRow_tail hN G 0 s (fun j _ h2 => ho n j (Nat.le_refl n) (by omega) (by omega)) h)
theorem hAll_le {nT : qA} {N G : Nat} (hN : N ≤ 10) : ∀ (d n b : Nat) (s : qA × qA), (∀ i j, n ≤ i → i < n + d → j < G → hOk N (nT (5 * i + j))) → hLe s b → hLe (hAll nT G d n s) (b + G * d)
  | 0, _, _, _, _, h => h
  | d + 1, n, b, s, ho, h => by
    have := hAll_le hN d (n + 1) (b + G) _ (fun i j h1 h2 h3 => ho i j (by omega) (by omega) h3) (hRow_le hN G 0 b s (fun j _ h2 => ho n j (Nat.le_refl n) (by omega) (by omega)) h)
    rw [show b + G * (d + 1) = b + G + G * d by rw [Nat.mul_succ]; omega]
    exact this
theorem hZ_tail : hTail hZ := fun j hj => ⟨rfl, if_neg (by omega)⟩
theorem hZ_le : hLe hZ 0 := fun j => ⟨0, Nat.le_refl 0, rfl⟩
theorem hZ_eq {a b : qA} (h : hTail (a, b)) : (k_fl a 0 10 (nI 0), k_fl b 0 10 (k_ng 9)) = hZ := by
  refine Prod.ext (funext fun j => ?_) (funext fun j => ?_)
  · show (if 0 ≤ j ∧ j < 10 then nI 0 else a j) = nI 0
    split
    · rfl
    · exact (h j (by omega)).1
  · show (if 0 ≤ j ∧ j < 10 then k_ng 9 else b j) = (if j < 10 then k_ng 9 else nI 0)
    by_cases hj : j < 10
    · rw [if_pos ⟨Nat.zero_le j, hj⟩, if_pos hj]
    · rw [if_neg (by omega), if_neg hj]
      exact (h j (by omega)).2
-- ---- the class: told and last by nights
def s89 (σ : k_S) (s : qA × qA) : k_S := k_sA (k_sA σ 8 s.1) 9 s.2
theorem s89_1 (σ : k_S) (s : qA × qA) : (s89 σ s).1 = σ.1 := rfl
theorem s89_8 (σ : k_S) (s : qA × qA) : (s89 σ s).2 8 = s.1 := rfl
theorem s89_9 (σ : k_S) (s : qA × qA) : (s89 σ s).2 9 = s.2 := rfl
theorem s89_o (σ : k_S) (s : qA × qA) {b : Nat} (h8 : b ≠ 8) (h9 : b ≠ 9) : (s89 σ s).2 b = σ.2 b := by
  unfold s89
  rw [s_sA2, if_neg h9, s_sA2, if_neg h8]
theorem s89_s89 (σ : k_S) (s t : qA × qA) : s89 (s89 σ s) t = s89 σ t := by
  unfold s89 k_sA k_up
  refine Prod.ext rfl ?_
  funext j
  by_cases h9 : j = 9
  · simp [h9]
  · by_cases h8 : j = 8 <;> simp [h8, h9]
theorem s89_id (σ : k_S) : s89 σ (σ.2 8, σ.2 9) = σ := by
  unfold s89
  rw [show (σ.2 8, σ.2 9).1 = σ.2 8 from rfl, s_Aid, show (σ.2 8, σ.2 9).2 = σ.2 9 from rfl, s_Aid]
theorem T_keepTold {σ : k_S} {N n : Nat} (hN : σ.1 4 = nI N) (hN10 : N ≤ 10) {x : Int32} (hx : hOk N x) : fX0_keepTold σ x (nI n) = some ((), s89 σ (hStep (σ.2 8, σ.2 9) x n)) := by
  unfold fX0_keepTold
  rcases hx with rfl | ⟨a, ha, rfl⟩
  · rw [T_hasTale_out hN (.inl (by rw [q_ng0 (by decide) (by decide)]; trivial))]
    simp (disch := omega) only [q_bn, q_ob, q_z0, q_z1, q_gd, q_cl, q_add, q_mul, q_lt, q_eq, q_eq0, q_lt0, q_0lt, q_ngl, q_ngr, q_ng0, q_ngz, q_ngn, q_ngp, q_nlt]
    simp only [nI_0, if_true]
    rw [show hStep (σ.2 8, σ.2 9) (k_ng 9) n = (σ.2 8, σ.2 9) from if_pos rfl, s89_id]
  · rw [T_hasTale_in hN hN10 ha]
    have h0 : ¬ nI 1 = 0 := by decide
    have h9 : ¬ nI a = k_ng 9 := by simp (disch := omega) only [q_bn, q_ob, q_z0, q_z1, q_gd, q_cl, q_add, q_mul, q_lt, q_eq, q_eq0, q_lt0, q_0lt, q_ngl, q_ngr, q_ng0, q_ngz, q_ngn, q_ngp, q_nlt]; exact not_false
    simp (disch := omega) only [q_bn, q_ob, q_z0, q_z1, q_gd, q_cl, q_add, q_mul, q_lt, q_eq, q_eq0, q_lt0, q_0lt, q_ngl, q_ngr, q_ng0, q_ngz, q_ngn, q_ngp, q_nlt, h0, if_false, s_sa, s_sA2]
    unfold hStep s89
    rw [if_neg h9]
    simp only [q_cl (show a < 2 ^ 31 by omega), if_neg (show ¬ (9 : Nat) = 8 by decide)]
theorem T_goBack_in {σ0 : k_S} {G N n : Nat} (hG : σ0.1 3 = nI G) (hG5 : G ≤ 5) (hN : σ0.1 4 = nI N) (hN10 : N ≤ 10) (hn : n < 60) (ho : ∀ j, j < G → hOk N (σ0.2 11 (5 * n + j))) (kh : k_S → Int32 → Option (Unit × k_S)) : ∀ (d g f : Nat) (s : qA × qA), g + d = G → d < f → fX0_goBack_c48 kh f (s89 σ0 s) (nI n) (nI g) = kh (s89 σ0 (hRow (σ0.2 11) n d g s)) (nI (n + 1)) := by
  intro d
  induction d with
  | zero =>
    intro g f s h1 h2
    obtain ⟨f, rfl⟩ := q_fu 0 h2
    rw [fX0_goBack_c48_s, s89_1, hG]
    rw [if_neg (by simp (disch := omega) only [q_bn, q_ob, q_z0, q_z1, q_gd, q_cl, q_add, q_mul, q_lt, q_eq, q_eq0, q_lt0, q_0lt, q_ngl, q_ngr, q_ng0, q_ngz, q_ngn, q_ngp, q_nlt]; omega)]
    simp (disch := omega) only [q_bn, q_ob, q_z0, q_z1, q_gd, q_cl, q_add, q_mul, q_lt, q_eq, q_eq0, q_lt0, q_0lt, q_ngl, q_ngr, q_ng0, q_ngz, q_ngn, q_ngp, q_nlt]
    rfl
  | succ d ih =>
    intro g f s h1 h2
    obtain ⟨f, rfl⟩ := q_fu (d + 1) h2
    rw [fX0_goBack_c48_s, s89_1, hG]
    rw [if_pos (by simp (disch := omega) only [q_bn, q_ob, q_z0, q_z1, q_gd, q_cl, q_add, q_mul, q_lt, q_eq, q_eq0, q_lt0, q_0lt, q_ngl, q_ngr, q_ng0, q_ngz, q_ngn, q_ngp, q_nlt]; omega)]
    simp (disch := omega) only [q_bn, q_ob, q_z0, q_z1, q_gd, q_cl, q_add, q_mul, q_lt, q_eq, q_eq0, q_lt0, q_0lt, q_ngl, q_ngr, q_ng0, q_ngz, q_ngn, q_ngp, q_nlt]
    rw [s89_o σ0 s (by decide) (by decide), show n * 5 + g = 5 * n + g by omega]
    rw [T_keepTold (σ := s89 σ0 s) hN hN10 (ho g (by omega))]
    simp (disch := omega) only [q_bn, q_ob, q_z0, q_z1, q_gd, q_cl, q_add, q_mul, q_lt, q_eq, q_eq0, q_lt0, q_0lt, q_ngl, q_ngr, q_ng0, q_ngz, q_ngn, q_ngp, q_nlt, s89_8, s89_9, s89_s89]
    rw [ih (g + 1) f _ (by omega) (by omega)]
    rfl
theorem T_goBack_out {σ0 : k_S} {G N K : Nat} (hG : σ0.1 3 = nI G) (hG5 : G ≤ 5) (hN : σ0.1 4 = nI N) (hN10 : N ≤ 10) (hK : σ0.1 6 = nI K) (hK60 : K ≤ 60) (ho : ∀ i j, i < K → j < G → hOk N (σ0.2 11 (5 * i + j))) : ∀ (d n f : Nat) (s : qA × qA), n + d = K → d < f → fX0_goBack_c38 f (s89 σ0 s) (nI n) = some ((), s89 σ0 (hAll (σ0.2 11) G d n s)) := by
  intro d
  induction d with
  | zero =>
    intro n f s h1 h2
    obtain ⟨f, rfl⟩ := q_fu 0 h2
    rw [fX0_goBack_c38_s, s89_1, hK, if_neg (by simp (disch := omega) only [q_bn, q_ob, q_z0, q_z1, q_gd, q_cl, q_add, q_mul, q_lt, q_eq, q_eq0, q_lt0, q_0lt, q_ngl, q_ngr, q_ng0, q_ngz, q_ngn, q_ngp, q_nlt]; omega)]
    rfl
  | succ d ih =>
    intro n f s h1 h2
    obtain ⟨f, rfl⟩ := q_fu (d + 1) h2
    rw [fX0_goBack_c38_s, s89_1, hK, if_pos (by simp (disch := omega) only [q_bn, q_ob, q_z0, q_z1, q_gd, q_cl, q_add, q_mul, q_lt, q_eq, q_eq0, q_lt0, q_0lt, q_ngl, q_ngr, q_ng0, q_ngz, q_ngn, q_ngp, q_nlt]; omega)]
    simp (disch := omega) only [q_bn, q_ob, q_z0, q_z1, q_gd, q_cl, q_add, q_mul, q_lt, q_eq, q_eq0, q_lt0, q_0lt, q_ngl, q_ngr, q_ng0, q_ngz, q_ngn, q_ngp, q_nlt]
    rw [T_goBack_in hG hG5 hN hN10 (by omega) (fun j hj => ho n j (by omega) hj) _ G 0 k_F s (by omega) (q_kF (by omega))]
    rw [ih (n + 1) f _ (by omega) (by omega)]
    rfl
/-- the class's nights undone: nothing is chosen, what was told is counted anew -/
theorem T_goBack {σ : k_S} {G N K k : Nat} (hG : σ.1 3 = nI G) (hG5 : G ≤ 5) (hN : σ.1 4 = nI N) (hN10 : N ≤ 10) (hK : σ.1 6 = nI K) (hK60 : K ≤ 60) (hk : k ≤ K) (ho : ∀ i j, i < K - k → j < G → hOk N (σ.2 11 (5 * i + j))) (ht : hTail (σ.2 8, σ.2 9)) : fX0_goBack σ (nI k) = some ((), s89 (k_sA (k_sf σ 6 (nI (K - k))) 10 (k_fl (σ.2 10) 0 5 (k_ng 9))) (hAll (σ.2 11) G (K - k) 0 hZ)) := by
  unfold fX0_goBack
  simp (disch := omega) only [q_bn, q_ob, q_z0, q_z1, q_gd, q_cl, q_add, q_mul, q_lt, q_eq, q_eq0, q_lt0, q_0lt, q_ngl, q_ngr, q_ng0, q_ngz, q_ngn, q_ngp, q_nlt, hK, q_sub]
  let σ0 := k_sA (k_sf σ 6 (nI (K - k))) 10 (k_fl (σ.2 10) 0 5 (k_ng 9))
  have e : (k_sA (k_sA (k_sA (k_sf σ 6 (nI (K - k))) 10 (k_fl ((k_sf σ 6 (nI (K - k))).2 10) 0 5 (k_ng 9))) 8 (k_fl ((k_sA (k_sf σ 6 (nI (K - k))) 10 (k_fl ((k_sf σ 6 (nI (K - k))).2 10) 0 5 (k_ng 9))).2 8) 0 10 (nI 0))) 9 (k_fl ((k_sA (k_sA (k_sf σ 6 (nI (K - k))) 10 (k_fl ((k_sf σ 6 (nI (K - k))).2 10) 0 5 (k_ng 9))) 8 (k_fl ((k_sA (k_sf σ 6 (nI (K - k))) 10 (k_fl ((k_sf σ 6 (nI (K - k))).2 10) 0 5 (k_ng 9))).2 8) 0 10 (nI 0))).2 9) 0 10 (k_ng 9))) = s89 σ0 hZ := by
    rw [← hZ_eq ht]
    rfl
  rw [e]
  exact T_goBack_out (σ0 := σ0) hG hG5 hN hN10 rfl (by omega) ho (K - k) 0 k_F hZ (by omega) (q_kF (by omega))
/-- the class's night: what is chosen is told -/
theorem T_goBy_told {σ0 : k_S} {G N K : Nat} (hG : σ0.1 3 = nI G) (hG5 : G ≤ 5) (hN : σ0.1 4 = nI N) (hN10 : N ≤ 10) (hK : σ0.1 6 = nI K) (hK60 : K < 60) (ho : ∀ j, j < G → hOk N (σ0.2 10 j)) (row : qA) (hrow : ∀ j, j < G → row (5 * K + j) = σ0.2 10 j) (l2 : Int32) : ∀ (d g f : Nat) (s : qA × qA), g + d = G → d < f → fX0_goBy_c87 f (s89 σ0 s) l2 (nI g) = some (l2, k_sA (k_sf (s89 σ0 (hRow row K d g s)) 6 (nI (K + 1))) 10 (k_fl (σ0.2 10) 0 5 (k_ng 9))) := by
  intro d
  induction d with
  | zero =>
    intro g f s h1 h2
    obtain ⟨f, rfl⟩ := q_fu 0 h2
    rw [fX0_goBy_c87_s, s89_1, hG, if_neg (by simp (disch := omega) only [q_bn, q_ob, q_z0, q_z1, q_gd, q_cl, q_add, q_mul, q_lt, q_eq, q_eq0, q_lt0, q_0lt, q_ngl, q_ngr, q_ng0, q_ngz, q_ngn, q_ngp, q_nlt]; omega)]
    simp (disch := omega) only [q_bn, q_ob, q_z0, q_z1, q_gd, q_cl, q_add, q_mul, q_lt, q_eq, q_eq0, q_lt0, q_0lt, q_ngl, q_ngr, q_ng0, q_ngz, q_ngn, q_ngp, q_nlt, hK, s_sf2, s89_o]
    rfl
  | succ d ih =>
    intro g f s h1 h2
    obtain ⟨f, rfl⟩ := q_fu (d + 1) h2
    rw [fX0_goBy_c87_s, s89_1, hG, if_pos (by simp (disch := omega) only [q_bn, q_ob, q_z0, q_z1, q_gd, q_cl, q_add, q_mul, q_lt, q_eq, q_eq0, q_lt0, q_0lt, q_ngl, q_ngr, q_ng0, q_ngz, q_ngn, q_ngp, q_nlt]; omega), hK]
    simp (disch := omega) only [q_bn, q_ob, q_z0, q_z1, q_gd, q_cl, q_add, q_mul, q_lt, q_eq, q_eq0, q_lt0, q_0lt, q_ngl, q_ngr, q_ng0, q_ngz, q_ngn, q_ngp, q_nlt]
    rw [s89_o σ0 s (by decide) (by decide)]
    rw [T_keepTold (σ := s89 σ0 s) hN hN10 (ho g (by omega))]
    simp (disch := omega) only [q_bn, q_ob, q_z0, q_z1, q_gd, q_cl, q_add, q_mul, q_lt, q_eq, q_eq0, q_lt0, q_0lt, q_ngl, q_ngr, q_ng0, q_ngz, q_ngn, q_ngp, q_nlt, s89_8, s89_9, s89_s89]
    rw [ih (g + 1) f _ (by omega) (by omega), ← hrow g (by omega)]
    rfl
-- ---- the reference: times and last by all nights
def sCD (τ : k_S) (s : qA × qA) : k_S := k_sA (k_sA τ 12 s.1) 13 s.2
theorem sCD_1 (σ : k_S) (s : qA × qA) : (sCD σ s).1 = σ.1 := rfl
theorem sCD_12 (σ : k_S) (s : qA × qA) : (sCD σ s).2 12 = s.1 := rfl
theorem sCD_13 (σ : k_S) (s : qA × qA) : (sCD σ s).2 13 = s.2 := rfl
theorem sCD_o (σ : k_S) (s : qA × qA) {b : Nat} (h8 : b ≠ 12) (h9 : b ≠ 13) : (sCD σ s).2 b = σ.2 b := by
  unfold sCD
  rw [s_sA2, if_neg h9, s_sA2, if_neg h8]
theorem sCD_sCD (σ : k_S) (s t : qA × qA) : sCD (sCD σ s) t = sCD σ t := by
  unfold sCD k_sA k_up
  refine Prod.ext rfl ?_
  funext j
  by_cases h9 : j = 13
  · simp [h9]
  · by_cases h8 : j = 12 <;> simp [h8, h9]
theorem sCD_id (σ : k_S) : sCD σ (σ.2 12, σ.2 13) = σ := by
  unfold sCD
  rw [show (σ.2 12, σ.2 13).1 = σ.2 12 from rfl, s_Aid, show (σ.2 12, σ.2 13).2 = σ.2 13 from rfl, s_Aid]
theorem M_count_flat {τ0 : k_S} {N K : Nat} (hN10 : N ≤ 10) (hK : τ0.1 8 = nI K) (hK60 : K ≤ 60) (ho : ∀ k, k < 5 * K → hOk N (τ0.2 9 k)) : ∀ (d k f : Nat) (s : qA × qA), k + d = 5 * K → d < f → fX7_countTold_c31 f (sCD τ0 s) (nI k) = some ((), sCD τ0 (hFlat (τ0.2 9) d k s)) := by
  intro d
  induction d with
  | zero =>
    intro k f s h1 h2
    obtain ⟨f, rfl⟩ := q_fu 0 h2
    rw [fX7_countTold_c31_s, sCD_1, hK, if_neg (by simp (disch := omega) only [q_bn, q_ob, q_z0, q_z1, q_gd, q_cl, q_add, q_mul, q_lt, q_eq, q_eq0, q_lt0, q_0lt, q_ngl, q_ngr, q_ng0, q_ngz, q_ngn, q_ngp, q_nlt]; omega)]
    rfl
  | succ d ih =>
    intro k f s h1 h2
    obtain ⟨f, rfl⟩ := q_fu (d + 1) h2
    rw [fX7_countTold_c31_s, sCD_1, hK, if_pos (by simp (disch := omega) only [q_bn, q_ob, q_z0, q_z1, q_gd, q_cl, q_add, q_mul, q_lt, q_eq, q_eq0, q_lt0, q_0lt, q_ngl, q_ngr, q_ng0, q_ngz, q_ngn, q_ngp, q_nlt]; omega)]
    unfold fX7_countTold_c81
    simp (disch := omega) only [q_bn, q_ob, q_z0, q_z1, q_gd, q_cl, q_add, q_mul, q_lt, q_eq, q_eq0, q_lt0, q_0lt, q_ngl, q_ngr, q_ng0, q_ngz, q_ngn, q_ngp, q_nlt]
    have e9 : (sCD τ0 s).2 9 = τ0.2 9 := sCD_o τ0 s (by decide) (by decide)
    rw [e9]
    rcases ho k (by omega) with h | ⟨a, ha, h⟩
    · rw [h]
      simp only [if_true]
      rw [ih (k + 1) f s (by omega) (by omega)]
      show _ = some ((), sCD τ0 (hFlat (τ0.2 9) d (k + 1) (hStep s (τ0.2 9 k) (k / 5))))
      rw [h, show hStep s (k_ng 9) (k / 5) = s from if_pos rfl]
    · rw [h]
      have h9 : ¬ nI a = k_ng 9 := by simp (disch := omega) only [q_bn, q_ob, q_z0, q_z1, q_gd, q_cl, q_add, q_mul, q_lt, q_eq, q_eq0, q_lt0, q_0lt, q_ngl, q_ngr, q_ng0, q_ngz, q_ngn, q_ngp, q_nlt]; exact not_false
      have hdiv : nI k / nI 5 = nI (k / 5) := pk_div (by omega) (by decide) (by decide)
      rw [if_neg h9]
      simp (disch := omega) only [q_bn, q_ob, q_z0, q_z1, q_gd, q_cl, q_add, q_mul, q_lt, q_eq, q_eq0, q_lt0, q_0lt, q_ngl, q_ngr, q_ng0, q_ngz, q_ngn, q_ngp, q_nlt, s_sa, s_sA2, sCD_12, sCD_13, hdiv]
      simp only [if_neg (show ¬ (9 : Nat) = 12 by decide), if_neg (show ¬ (13 : Nat) = 12 by decide), e9, h, sCD_13]
      simp (disch := omega) only [q_bn, q_ob, q_z0, q_z1, q_gd, q_cl, q_add, q_mul, q_lt, q_eq, q_eq0, q_lt0, q_0lt, q_ngl, q_ngr, q_ng0, q_ngz, q_ngn, q_ngp, q_nlt, hdiv]
      have e : k_sA (k_sA (sCD τ0 s) 12 (upd s.1 a (s.1 a + nI 1))) 13 (upd s.2 a (nI (k / 5))) = sCD τ0 (hStep s (τ0.2 9 k) (k / 5)) := by
        rw [h]
        unfold hStep
        rw [if_neg h9, q_cl (by omega)]
        exact sCD_sCD τ0 s (upd s.1 a (s.1 a + nI 1), upd s.2 a (nI (k / 5)))
      rw [e, ih (k + 1) f _ (by omega) (by omega)]
      rfl
theorem M_count_zero {τ : k_S} : ∀ (d x f : Nat) (s : qA × qA), x + d = 10 → d < f → ∃ f', fX7_countTold_c2 f (sCD τ s) (nI x) = fX7_countTold_c31 k_F (sCD τ (k_fl s.1 x 10 (nI 0), k_fl s.2 x 10 (k_ng 9))) (nI 0) ∧ f' = f := by
  intro d
  induction d with
  | zero =>
    intro x f s h1 h2
    obtain ⟨f, rfl⟩ := q_fu 0 h2
    refine ⟨_, ?_, rfl⟩
    rw [fX7_countTold_c2_s, if_neg (by simp (disch := omega) only [q_bn, q_ob, q_z0, q_z1, q_gd, q_cl, q_add, q_mul, q_lt, q_eq, q_eq0, q_lt0, q_0lt, q_ngl, q_ngr, q_ng0, q_ngz, q_ngn, q_ngp, q_nlt]; omega)]
    simp (disch := omega) only [q_bn, q_ob, q_z0, q_z1, q_gd, q_cl, q_add, q_mul, q_lt, q_eq, q_eq0, q_lt0, q_0lt, q_ngl, q_ngr, q_ng0, q_ngz, q_ngn, q_ngp, q_nlt]
    have e1 : k_fl s.1 x 10 (nI 0) = s.1 := funext fun j => if_neg (by omega)
    have e2 : k_fl s.2 x 10 (k_ng 9) = s.2 := funext fun j => if_neg (by omega)
    rw [e1, e2]
  | succ d ih =>
    intro x f s h1 h2
    obtain ⟨f, rfl⟩ := q_fu (d + 1) h2
    refine ⟨_, ?_, rfl⟩
    rw [fX7_countTold_c2_s, if_pos (by simp (disch := omega) only [q_bn, q_ob, q_z0, q_z1, q_gd, q_cl, q_add, q_mul, q_lt, q_eq, q_eq0, q_lt0, q_0lt, q_ngl, q_ngr, q_ng0, q_ngz, q_ngn, q_ngp, q_nlt]; omega)]
    simp (disch := omega) only [q_bn, q_ob, q_z0, q_z1, q_gd, q_cl, q_add, q_mul, q_lt, q_eq, q_eq0, q_lt0, q_0lt, q_ngl, q_ngr, q_ng0, q_ngz, q_ngn, q_ngp, q_nlt, s_sa, s_sA2]
    simp only [if_neg (show ¬ (13 : Nat) = 12 by decide), sCD_12, sCD_13]
    have e : k_sA (k_sA (sCD τ s) 12 (upd s.1 x (nI 0))) 13 (upd s.2 x (k_ng 9)) = sCD τ (upd s.1 x (nI 0), upd s.2 x (k_ng 9)) := by
      exact sCD_sCD τ s (upd s.1 x (nI 0), upd s.2 x (k_ng 9))
    rw [e]
    obtain ⟨-, h3, -⟩ := ih (x + 1) f (upd s.1 x (nI 0), upd s.2 x (k_ng 9)) (by omega) (by omega)
    rw [h3]
    have hu : ∀ (g : qA) (v : Int32), k_fl (upd g x v) (x + 1) 10 v = k_fl g x 10 v := by
      intro g v
      funext j
      unfold k_fl
      by_cases hj : j = x
      · subst hj
        rw [if_neg (by omega), if_pos (by omega)]
        exact pk_us
      · by_cases h5 : x ≤ j ∧ j < 10
        · rw [if_pos (by omega), if_pos h5]
        · rw [if_neg (by omega), if_neg h5]
          exact pk_un hj
    rw [hu, hu]
theorem M_countTold {τ : k_S} {N K : Nat} (hN10 : N ≤ 10) (hK : τ.1 8 = nI K) (hK60 : K ≤ 60) (ho : ∀ k, k < 5 * K → hOk N (τ.2 9 k)) (ht : hTail (τ.2 12, τ.2 13)) : fX7_countTold τ = some ((), sCD τ (hFlat (τ.2 9) (5 * K) 0 hZ)) := by
  unfold fX7_countTold
  simp (disch := omega) only [q_bn, q_ob, q_z0, q_z1, q_gd, q_cl, q_add, q_mul, q_lt, q_eq, q_eq0, q_lt0, q_0lt, q_ngl, q_ngr, q_ng0, q_ngz, q_ngn, q_ngp, q_nlt]
  obtain ⟨-, h, -⟩ := M_count_zero (τ := τ) 10 0 k_F (τ.2 12, τ.2 13) rfl (q_kF (by decide))
  rw [sCD_id] at h
  rw [h, hZ_eq ht]
  exact M_count_flat hN10 hK hK60 ho (5 * K) 0 k_F hZ (by omega) (q_kF (by omega))
theorem M_chooseNone {τ : k_S} : fX7_chooseNone τ = some ((), k_sA τ 11 (k_fl (τ.2 11) 0 5 (k_ng 9))) := by
  have key : ∀ (d x f : Nat) (g : qA), x + d = 5 → d < f → fX7_chooseNone_c2 f (k_sA τ 11 g) (nI x) = some ((), k_sA τ 11 (k_fl g x 5 (k_ng 9))) := by
    intro d
    induction d with
    | zero =>
      intro x f g h1 h2
      obtain ⟨f, rfl⟩ := q_fu 0 h2
      rw [fX7_chooseNone_c2_s, if_neg (by simp (disch := omega) only [q_bn, q_ob, q_z0, q_z1, q_gd, q_cl, q_add, q_mul, q_lt, q_eq, q_eq0, q_lt0, q_0lt, q_ngl, q_ngr, q_ng0, q_ngz, q_ngn, q_ngp, q_nlt]; omega)]
      rw [show k_fl g x 5 (k_ng 9) = g from funext fun j => if_neg (by omega)]
    | succ d ih =>
      intro x f g h1 h2
      obtain ⟨f, rfl⟩ := q_fu (d + 1) h2
      rw [fX7_chooseNone_c2_s, if_pos (by simp (disch := omega) only [q_bn, q_ob, q_z0, q_z1, q_gd, q_cl, q_add, q_mul, q_lt, q_eq, q_eq0, q_lt0, q_0lt, q_ngl, q_ngr, q_ng0, q_ngz, q_ngn, q_ngp, q_nlt]; omega)]
      simp (disch := omega) only [q_bn, q_ob, q_z0, q_z1, q_gd, q_cl, q_add, q_mul, q_lt, q_eq, q_eq0, q_lt0, q_0lt, q_ngl, q_ngr, q_ng0, q_ngz, q_ngn, q_ngp, q_nlt, s_sa, s_sA2, s_AA, if_true]
      rw [ih (x + 1) f _ (by omega) (by omega)]
      have hu : k_fl (upd g x (k_ng 9)) (x + 1) 5 (k_ng 9) = k_fl g x 5 (k_ng 9) := by
        funext j
        unfold k_fl
        by_cases hj : j = x
        · subst hj
          rw [if_neg (by omega), if_pos (by omega)]
          exact pk_us
        · by_cases h5 : x ≤ j ∧ j < 5
          · rw [if_pos (by omega), if_pos h5]
          · rw [if_neg (by omega), if_neg h5]
            exact pk_un hj
      rw [hu]
  unfold fX7_chooseNone
  simp (disch := omega) only [q_bn, q_ob, q_z0, q_z1, q_gd, q_cl, q_add, q_mul, q_lt, q_eq, q_eq0, q_lt0, q_0lt, q_ngl, q_ngr, q_ng0, q_ngz, q_ngn, q_ngp, q_nlt]
  have := key 5 0 k_F (τ.2 11) rfl (q_kF (by decide))
  rwa [s_Aid] at this
