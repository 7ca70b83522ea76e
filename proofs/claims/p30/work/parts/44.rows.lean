/-! ===== the law's methods over its rows ===== -/
theorem q_oq {α β γ : Type} (a : α) (b : β) (k : α → Option γ) : k_oq (some (a, b)) k = k a := rfl
theorem q_nz {α : Type} {n : Nat} (h0 : 0 < n) (hn : n < 2 ^ 31) (o : Option α) : k_nz (nI n) o = o := if_neg (by rw [q_eq0 hn]; omega)
theorem ev_some (v : Int32) {n : Nat} (h0 : 0 < n) (hn : n < 2 ^ 31) : ∃ j, j < n ∧ fL_some v (nI n) = some (nI j, ()) := by
  obtain ⟨a, ha, e⟩ := pk_andE v (m := 2147483647) 31 rfl
  refine ⟨a % n, Nat.mod_lt a h0, ?_⟩
  unfold fL_some
  rw [q_nz h0 hn, e, pk_rem ha h0 hn]
theorem ev_cell (Ls : Nat) (hL : Ls ≤ 260) (xs : Nat → Int32) {k : Nat} (hk : k < 1000) : ∃ v, fL_cell Ls xs (nI k) = some (v, ()) := by
  unfold fL_cell
  by_cases h : k < Ls
  · rw [if_pos (nI_lt h (by omega)), q_gd h (by omega)]
    exact ⟨_, rfl⟩
  · rw [if_neg (nI_nlt (by omega) (by omega))]
    exact ⟨_, rfl⟩
theorem ev_times_loop {b : qA} {n N x : Nat} (hN : N ≤ 10) (hx : x < 10) (hn : n ≤ 12) (hb : ∀ k, k < 5 * n → hOk N (b k)) : ∀ (d k f : Nat) (s : qA × qA), k + d = 5 * n → d < f → fL_times_c5 b f (nI n) (nI x) (s.1 x) (nI k) = some ((hFlat b d k s).1 x, ()) := by
  intro d
  induction d with
  | zero =>
    intro k f s h1 h2
    obtain ⟨f, rfl⟩ := q_fu 0 h2
    rw [fL_times_c5_s, if_neg (by simp (disch := omega) only [q_bn, q_ob, q_z0, q_z1, q_gd, q_cl, q_add, q_mul, q_lt, q_eq, q_eq0, q_lt0, q_0lt, q_ngl, q_ngr, q_ng0, q_ngz, q_ngn, q_ngp, q_nlt]; omega)]
    rfl
  | succ d ih =>
    intro k f s h1 h2
    obtain ⟨f, rfl⟩ := q_fu (d + 1) h2
    rw [fL_times_c5_s, if_pos (by simp (disch := omega) only [q_bn, q_ob, q_z0, q_z1, q_gd, q_cl, q_add, q_mul, q_lt, q_eq, q_eq0, q_lt0, q_0lt, q_ngl, q_ngr, q_ng0, q_ngz, q_ngn, q_ngp, q_nlt]; omega), q_gd (by omega) (by decide), q_cl (by omega)]
    unfold hFlat
    rw [← ih (k + 1) f (hStep s (b k) (k / 5)) (by omega) (by omega)]
    unfold fL_times_c27 hStep
    rcases hb k (by omega) with q | ⟨a, ha, q⟩
    · rw [q, if_neg (by simp (disch := omega) only [q_bn, q_ob, q_z0, q_z1, q_gd, q_cl, q_add, q_mul, q_lt, q_eq, q_eq0, q_lt0, q_0lt, q_ngl, q_ngr, q_ng0, q_ngz, q_ngn, q_ngp, q_nlt]; exact not_false), if_pos rfl]
      simp (disch := omega) only [q_bn, q_ob, q_z0, q_z1, q_gd, q_cl, q_add, q_mul, q_lt, q_eq, q_eq0, q_lt0, q_0lt, q_ngl, q_ngr, q_ng0, q_ngz, q_ngn, q_ngp, q_nlt, Nat.add_zero]
      rw [show s.1 x + nI 0 = s.1 x from Int32.add_zero _]
    · rw [q, if_neg (show ¬ nI a = k_ng 9 by simp (disch := omega) only [q_bn, q_ob, q_z0, q_z1, q_gd, q_cl, q_add, q_mul, q_lt, q_eq, q_eq0, q_lt0, q_0lt, q_ngl, q_ngr, q_ng0, q_ngz, q_ngn, q_ngp, q_nlt]; exact not_false), q_cl (by omega)]
      by_cases e : a = x
      · subst e
        rw [if_pos rfl]
        show _ = fL_times_c5 b f (nI n) (nI a) (upd s.1 a (s.1 a + nI 1) a) (nI (k + 1))
        rw [pk_us]
        simp (disch := omega) only [q_bn, q_ob, q_z0, q_z1, q_gd, q_cl, q_add, q_mul, q_lt, q_eq, q_eq0, q_lt0, q_0lt, q_ngl, q_ngr, q_ng0, q_ngz, q_ngn, q_ngp, q_nlt]
      · rw [if_neg (by simp (disch := omega) only [q_bn, q_ob, q_z0, q_z1, q_gd, q_cl, q_add, q_mul, q_lt, q_eq, q_eq0, q_lt0, q_0lt, q_ngl, q_ngr, q_ng0, q_ngz, q_ngn, q_ngp, q_nlt]; exact e)]
        show _ = fL_times_c5 b f (nI n) (nI x) (upd s.1 a (s.1 a + nI 1) x) (nI (k + 1))
        rw [pk_un (Ne.symm e)]
        simp (disch := omega) only [q_bn, q_ob, q_z0, q_z1, q_gd, q_cl, q_add, q_mul, q_lt, q_eq, q_eq0, q_lt0, q_0lt, q_ngl, q_ngr, q_ng0, q_ngz, q_ngn, q_ngp, q_nlt]
        rw [show s.1 x + nI 0 = s.1 x from Int32.add_zero _]
theorem ev_times {b : qA} {n N x : Nat} (hN : N ≤ 10) (hx : x < 10) (hn : n ≤ 12) (hb : ∀ k, k < 5 * n → hOk N (b k)) : fL_times b (nI n) (nI x) = some ((hFlat b (5 * n) 0 hZ).1 x, ()) := by
  unfold fL_times
  rw [q_bn, q_bn]
  exact ev_times_loop hN hx hn hb (5 * n) 0 k_F hZ (by omega) (q_kF (by omega))
theorem ev_last_loop {b : qA} {n N x : Nat} (hN : N ≤ 10) (hx : x < 10) (hn : n ≤ 12) (hb : ∀ k, k < 5 * n → hOk N (b k)) : ∀ (d k f : Nat) (s : qA × qA), k + d = 5 * n → d < f → fL_last_c6 b f (nI n) (nI x) (s.2 x) (nI k) = some ((hFlat b d k s).2 x, ()) := by
  intro d
  induction d with
  | zero =>
    intro k f s h1 h2
    obtain ⟨f, rfl⟩ := q_fu 0 h2
    rw [fL_last_c6_s, if_neg (by simp (disch := omega) only [q_bn, q_ob, q_z0, q_z1, q_gd, q_cl, q_add, q_mul, q_lt, q_eq, q_eq0, q_lt0, q_0lt, q_ngl, q_ngr, q_ng0, q_ngz, q_ngn, q_ngp, q_nlt]; omega)]
    rfl
  | succ d ih =>
    intro k f s h1 h2
    obtain ⟨f, rfl⟩ := q_fu (d + 1) h2
    rw [fL_last_c6_s, if_pos (by simp (disch := omega) only [q_bn, q_ob, q_z0, q_z1, q_gd, q_cl, q_add, q_mul, q_lt, q_eq, q_eq0, q_lt0, q_0lt, q_ngl, q_ngr, q_ng0, q_ngz, q_ngn, q_ngp, q_nlt]; omega), q_gd (by omega) (by decide), q_cl (by omega)]
    unfold hFlat
    rw [← ih (k + 1) f (hStep s (b k) (k / 5)) (by omega) (by omega)]
    unfold fL_last_c30 hStep
    rw [pk_div (by omega) (by decide) (by decide)]
    rcases hb k (by omega) with q | ⟨a, ha, q⟩
    · rw [q, if_neg (by simp (disch := omega) only [q_bn, q_ob, q_z0, q_z1, q_gd, q_cl, q_add, q_mul, q_lt, q_eq, q_eq0, q_lt0, q_0lt, q_ngl, q_ngr, q_ng0, q_ngz, q_ngn, q_ngp, q_nlt]; exact not_false), if_pos rfl]
      simp (disch := omega) only [q_bn, q_ob, q_z0, q_z1, q_gd, q_cl, q_add, q_mul, q_lt, q_eq, q_eq0, q_lt0, q_0lt, q_ngl, q_ngr, q_ng0, q_ngz, q_ngn, q_ngp, q_nlt]
    · rw [q, if_neg (show ¬ nI a = k_ng 9 by simp (disch := omega) only [q_bn, q_ob, q_z0, q_z1, q_gd, q_cl, q_add, q_mul, q_lt, q_eq, q_eq0, q_lt0, q_0lt, q_ngl, q_ngr, q_ng0, q_ngz, q_ngn, q_ngp, q_nlt]; exact not_false), q_cl (by omega)]
      by_cases e : a = x
      · subst e
        rw [if_pos rfl]
        show _ = fL_last_c6 b f (nI n) (nI a) (upd s.2 a (nI (k / 5)) a) (nI (k + 1))
        rw [pk_us]
        simp (disch := omega) only [q_bn, q_ob, q_z0, q_z1, q_gd, q_cl, q_add, q_mul, q_lt, q_eq, q_eq0, q_lt0, q_0lt, q_ngl, q_ngr, q_ng0, q_ngz, q_ngn, q_ngp, q_nlt]
      · rw [if_neg (by simp (disch := omega) only [q_bn, q_ob, q_z0, q_z1, q_gd, q_cl, q_add, q_mul, q_lt, q_eq, q_eq0, q_lt0, q_0lt, q_ngl, q_ngr, q_ng0, q_ngz, q_ngn, q_ngp, q_nlt]; exact e)]
        show _ = fL_last_c6 b f (nI n) (nI x) (upd s.2 a (nI (k / 5)) x) (nI (k + 1))
        rw [pk_un (Ne.symm e)]
        simp (disch := omega) only [q_bn, q_ob, q_z0, q_z1, q_gd, q_cl, q_add, q_mul, q_lt, q_eq, q_eq0, q_lt0, q_0lt, q_ngl, q_ngr, q_ng0, q_ngz, q_ngn, q_ngp, q_nlt]
theorem ev_last {b : qA} {n N x : Nat} (hN : N ≤ 10) (hx : x < 10) (hn : n ≤ 12) (hb : ∀ k, k < 5 * n → hOk N (b k)) : fL_last b (nI n) (nI x) = some ((hFlat b (5 * n) 0 hZ).2 x, ()) := by
  unfold fL_last
  rw [q_bn, q_bn]
  have := ev_last_loop hN hx hn hb (5 * n) 0 k_F hZ (by omega) (q_kF (by omega))
  rw [show hZ.2 x = k_ng 9 from if_pos hx] at this
  exact this
-- ---- the rows and the house
def HR (σ ρ : k_S) (G N m K : Nat) : Prop :=
  (ρ.2 0 0 = nI G ∧ ρ.2 0 1 = nI N ∧ ρ.2 0 32 = nI m ∧ ρ.2 0 33 = nI K) ∧
  (∀ x, x < N → ρ.2 0 (2 + x) = σ.2 5 x ∧ ρ.2 0 (12 + x) = σ.2 6 x ∧ ρ.2 0 (22 + x) = σ.2 7 x) ∧
  (∀ n, n < K → ∀ g, g < 5 → ρ.2 1 (5 * n + g) = if g < G then σ.2 11 (5 * n + g) else k_ng 9) ∧
  ∀ g, g < 5 → ρ.2 2 g = if g < G then σ.2 10 g else k_ng 9
def LR (s : k_S × k_S) (G N m K : Nat) : Prop := HT s.1 G N m K ∧ HR s.1 s.2 G N m K
theorem HR.keep {σ σ' ρ : k_S} {G N m K : Nat} (h : HR σ ρ G N m K) (hT : kTh σ σ') : HR σ' ρ G N m K := by
  obtain ⟨-, a5, a6, a7, -, -, a10, a11, -⟩ := hT
  unfold HR
  rw [a5, a6, a7, a10, a11]
  exact h
theorem LR.keep {s : k_S × k_S} {σ' : k_S} {G N m K : Nat} (h : LR s G N m K) (hT : kTh s.1 σ') : LR (σ', s.2) G N m K := ⟨h.1.keep hT, h.2.keep hT⟩
theorem LR.rows {s : k_S × k_S} {ρ' : k_S} {G N m K : Nat} (h : LR s G N m K) (h0 : ρ'.2 0 = s.2.2 0) (h1 : ρ'.2 1 = s.2.2 1) (h2 : ρ'.2 2 = s.2.2 2) : LR (s.1, ρ') G N m K := by
  refine ⟨h.1, ?_⟩
  unfold HR
  show ((ρ'.2 0 0 = _ ∧ _) ∧ _)
  rw [h0, h1, h2]
  exact h.2
theorem HR.okB {σ ρ : k_S} {G N m K : Nat} (hT : HT σ G N m K) (h : HR σ ρ G N m K) {k : Nat} (hk : k < 5 * K) : hOk N (ρ.2 1 k) := by
  have e : 5 * (k / 5) + k % 5 = k := by omega
  rw [← e, h.2.2.1 (k / 5) (by omega) (k % 5) (by omega)]
  split
  · exact hT.okN (by omega) (by assumption)
  · exact .inl rfl
theorem HR.flat {σ ρ : k_S} {G N m K : Nat} (hT : HT σ G N m K) (h : HR σ ρ G N m K) {n : Nat} (hn : n ≤ K) : hFlat (ρ.2 1) (5 * n) 0 hZ = hAll (σ.2 11) G n 0 hZ := by
  have := hFlat_all (ρ.2 1) hT.2.1.2.1 n 0 hZ (fun i j _ h2 h3 h4 => by rw [h.2.2.1 i (by omega) j h4, if_neg (by omega)])
  rw [Nat.mul_zero] at this
  rw [this]
  exact hAll_congr n 0 hZ (fun i j _ h2 h3 => by rw [h.2.2.1 i (by omega) j (by have := hT.2.1.2.1; omega), if_pos h3])
theorem HR.okC {σ ρ : k_S} {G N m K : Nat} (hT : HT σ G N m K) (h : HR σ ρ G N m K) {g : Nat} (hg : g < 5) : hOk N (ρ.2 2 g) := by
  rw [h.2.2.2 g hg]
  split
  · exact hT.okC (by assumption)
  · exact .inl rfl
theorem HR.times {σ ρ : k_S} {G N m K n x : Nat} (hT : HT σ G N m K) (h : HR σ ρ G N m K) (hK : K ≤ 12) (hn : n ≤ K) (hx : x < N) : fL_times (ρ.2 1) (nI n) (nI x) = some ((hAll (σ.2 11) G n 0 hZ).1 x, ()) := by
  rw [ev_times (N := N) hT.2.1.2.2.1 (by have := hT.2.1.2.2.1; omega) (by omega) (fun k hk => HR.okB hT h (by omega)), HR.flat hT h hn]
theorem HR.last {σ ρ : k_S} {G N m K n x : Nat} (hT : HT σ G N m K) (h : HR σ ρ G N m K) (hK : K ≤ 12) (hn : n ≤ K) (hx : x < N) : fL_last (ρ.2 1) (nI n) (nI x) = some ((hAll (σ.2 11) G n 0 hZ).2 x, ()) := by
  rw [ev_last (N := N) hT.2.1.2.2.1 (by have := hT.2.1.2.2.1; omega) (by omega) (fun k hk => HR.okB hT h (by omega)), HR.flat hT h hn]
theorem HR.may {σ ρ : k_S} {G N m K x : Nat} (hT : HT σ G N m K) (h : HR σ ρ G N m K) (hK : K ≤ 12) (hx : x < N) : fL_may (ρ.2 0) (ρ.2 1) (nI x) = some (tMay σ x, ()) := by
  have hN : N ≤ 10 := hT.2.1.2.2.1
  have hm : m ≤ 99 := hT.2.1.2.2.2.1
  have hi := hT.hist (Nat.le_refl K) x (by omega)
  obtain ⟨e0, e1, e2, e3⟩ := h.1
  unfold fL_may
  rw [q_gd (by decide) (by decide), q_cl (by decide), e3, HR.last hT h hK (Nat.le_refl K) hx, q_oq, q_bn]
  unfold tMay pMay
  rw [hT.1.2.2.1, hT.1.2.2.2]
  have h89 := hT.2.2.2.2.2.2
  rw [show σ.2 8 = (hAll (σ.2 11) G K 0 hZ).1 from congrArg Prod.fst h89, show σ.2 9 = (hAll (σ.2 11) G K 0 hZ).2 from congrArg Prod.snd h89]
  rcases hi with ⟨q1, q2⟩ | ⟨t, l, h1, h2, h3, q1, q2⟩
  · rw [q1, q2, if_pos (by decide), if_pos (by decide)]
    rfl
  · rw [q1, q2, if_neg (by simp (disch := omega) only [q_bn, q_ob, q_z0, q_z1, q_gd, q_cl, q_add, q_mul, q_lt, q_eq, q_eq0, q_lt0, q_0lt, q_ngl, q_ngr, q_ng0, q_ngz, q_ngn, q_ngp, q_nlt]; exact not_false), if_neg (show ¬ nI t = 0 by simp (disch := omega) only [q_bn, q_ob, q_z0, q_z1, q_gd, q_cl, q_add, q_mul, q_lt, q_eq, q_eq0, q_lt0, q_0lt, q_ngl, q_ngr, q_ng0, q_ngz, q_ngn, q_ngp, q_nlt]; omega)]
    have e5 := (h.2.1 x hx).1
    simp (disch := omega) only [q_bn, q_ob, q_z0, q_z1, q_gd, q_cl, q_add, q_mul, q_lt, q_eq, q_eq0, q_lt0, q_0lt, q_ngl, q_ngr, q_ng0, q_ngz, q_ngn, q_ngp, q_nlt]
    rw [e5, e2, q_sub (by omega)]
    rcases (hT.2.2.1 x hx).1 with hk | hk | hk
    · rw [hk, if_pos (show nI 0 = (0 : Int32) by decide), if_neg (show ¬ nI 0 = nI 1 by decide), if_neg (show ¬ nI 0 = nI 2 by decide)]
      by_cases c : K < l + 1 + m
      · rw [if_neg (by simp (disch := omega) only [q_bn, q_ob, q_z0, q_z1, q_gd, q_cl, q_add, q_mul, q_lt, q_eq, q_eq0, q_lt0, q_0lt, q_ngl, q_ngr, q_ng0, q_ngz, q_ngn, q_ngp, q_nlt]; omega), if_pos c]
      · rw [if_pos (by simp (disch := omega) only [q_bn, q_ob, q_z0, q_z1, q_gd, q_cl, q_add, q_mul, q_lt, q_eq, q_eq0, q_lt0, q_0lt, q_ngl, q_ngr, q_ng0, q_ngz, q_ngn, q_ngp, q_nlt]; omega), if_neg c]
    · rw [hk, if_neg (by decide), if_pos rfl, if_pos rfl, q_sub (by omega)]
      by_cases c : l = K - 1
      · rw [if_neg (by simp (disch := omega) only [q_bn, q_ob, q_z0, q_z1, q_gd, q_cl, q_add, q_mul, q_lt, q_eq, q_eq0, q_lt0, q_0lt, q_ngl, q_ngr, q_ng0, q_ngz, q_ngn, q_ngp, q_nlt]; omega), if_pos (by rw [c])]
      · rw [if_pos (by simp (disch := omega) only [q_bn, q_ob, q_z0, q_z1, q_gd, q_cl, q_add, q_mul, q_lt, q_eq, q_eq0, q_lt0, q_0lt, q_ngl, q_ngr, q_ng0, q_ngz, q_ngn, q_ngp, q_nlt]; omega), if_neg (by simp (disch := omega) only [q_bn, q_ob, q_z0, q_z1, q_gd, q_cl, q_add, q_mul, q_lt, q_eq, q_eq0, q_lt0, q_0lt, q_ngl, q_ngr, q_ng0, q_ngz, q_ngn, q_ngp, q_nlt]; exact c)]
    · rw [hk, if_neg (by decide), if_neg (by decide), if_neg (by decide), if_pos (by decide)]
theorem HR.tall {σ ρ : k_S} {G N m K n x : Nat} (hT : HT σ G N m K) (h : HR σ ρ G N m K) (hK : K ≤ 12) (hn : n ≤ K) (hx : x < N) : fL_tall (ρ.2 0) (ρ.2 1) (nI n) (nI x) = some (hTl σ G n x, ()) := by
  have hN : N ≤ 10 := hT.2.1.2.2.1
  obtain ⟨e5, -, e7⟩ := h.2.1 x hx
  unfold fL_tall hTl pTall
  rw [HR.times hT h hK hn hx]
  simp (disch := omega) only [q_bn, q_ob, q_z0, q_z1, q_gd, q_cl, q_add, q_mul, q_lt, q_eq, q_eq0, q_lt0, q_0lt, q_ngl, q_ngr, q_ng0, q_ngz, q_ngn, q_ngp, q_nlt]
  rw [e5, e7]
  rcases (hT.2.2.1 x hx).1 with hk | hk | hk
  · rw [hk, if_neg (by decide), if_neg (by decide), if_neg (by decide), if_neg (by decide)]
    exact congrArg (fun z => some (z, ())) (Int32.add_zero _)
  · rw [hk, if_neg (by decide), if_pos rfl, if_pos rfl]
    rfl
  · rw [hk, if_pos rfl, if_neg (by decide), if_pos rfl]
theorem ev_place_loop {σ ρ : k_S} {G N m K n a w : Nat} {r : qA} (hT : HT σ G N m K) (h : HR σ ρ G N m K) (hK : K ≤ 12) (hn : n ≤ K) (ha : a + 5 ≤ 5) (hr : ∀ j, j < G → hOk N (r (a + j))) (hw : w < G) : ∀ (d k acc f : Nat), k + d = G → d < f → fL_place_c35 (ρ.2 0) (ρ.2 1) r f (nI n) (nI a) (nI w) (pCh (hTl σ G n) (r (a + w))) (nI acc) (nI k) = some (nI (pPl (fun j => pCh (hTl σ G n) (r (a + j))) w (pCh (hTl σ G n) (r (a + w))) d k acc), ()) := by
  have hG : G ≤ 5 := hT.2.1.2.1
  have hN : N ≤ 10 := hT.2.1.2.2.1
  intro d
  induction d with
  | zero =>
    intro k acc f h1 h2
    obtain ⟨f, rfl⟩ := q_fu 0 h2
    rw [fL_place_c35_s, q_gd (by decide) (by decide), q_cl (by decide), h.1.1, if_neg (by simp (disch := omega) only [q_bn, q_ob, q_z0, q_z1, q_gd, q_cl, q_add, q_mul, q_lt, q_eq, q_eq0, q_lt0, q_0lt, q_ngl, q_ngr, q_ng0, q_ngz, q_ngn, q_ngp, q_nlt]; omega)]
    rfl
  | succ d ih =>
    intro k acc f h1 h2
    obtain ⟨f, rfl⟩ := q_fu (d + 1) h2
    have fin : ∀ acc' : Nat, fL_place_c35 (ρ.2 0) (ρ.2 1) r f (nI n) (nI a) (nI w) (pCh (hTl σ G n) (r (a + w))) (nI acc') (nI (k + 1)) = some (nI (pPl (fun j => pCh (hTl σ G n) (r (a + j))) w (pCh (hTl σ G n) (r (a + w))) d (k + 1) acc'), ()) := fun acc' => ih (k + 1) acc' f (by omega) (by omega)
    have key : fL_place_c70 (ρ.2 0) (ρ.2 1) r (fL_place_c35 (ρ.2 0) (ρ.2 1) r f) (nI n) (nI a) (nI w) (pCh (hTl σ G n) (r (a + w))) (nI acc) (nI k) (pCh (hTl σ G n) (r (a + k))) = some (nI (pPl (fun j => pCh (hTl σ G n) (r (a + j))) w (pCh (hTl σ G n) (r (a + w))) (d + 1) k acc), ()) := by
      unfold fL_place_c70 fL_place_c95 fL_place_c99 fL_place_c100 pPl
      simp only [q_bn, q_add, Nat.add_zero]
      by_cases hkw : k = w
      · subst hkw
        rw [if_neg (by simp (disch := omega) only [q_bn, q_ob, q_z0, q_z1, q_gd, q_cl, q_add, q_mul, q_lt, q_eq, q_eq0, q_lt0, q_0lt, q_ngl, q_ngr, q_ng0, q_ngz, q_ngn, q_ngp, q_nlt]; exact not_false), if_pos rfl, if_neg (by simp (disch := omega) only [q_bn, q_ob, q_z0, q_z1, q_gd, q_cl, q_add, q_mul, q_lt, q_eq, q_eq0, q_lt0, q_0lt, q_ngl, q_ngr, q_ng0, q_ngz, q_ngn, q_ngp, q_nlt]; exact not_false), if_pos rfl]
        exact fin acc
      · rw [if_neg hkw]
        by_cases c1 : pCh (hTl σ G n) (r (a + w)) < pCh (hTl σ G n) (r (a + k))
        · rw [if_pos c1, if_pos c1]
          exact fin (acc + 1)
        · rw [if_neg c1, if_neg c1]
          by_cases c2 : pCh (hTl σ G n) (r (a + k)) = pCh (hTl σ G n) (r (a + w))
          · rw [if_pos c2, if_pos c2]
            by_cases c3 : k < w
            · rw [if_pos (nI_lt c3 (by omega)), if_pos c3]
              exact fin (acc + 1)
            · rw [if_neg (nI_nlt (by omega) (by omega)), if_neg c3]
              exact fin acc
          · rw [if_neg c2, if_neg c2]
            exact fin acc
    rw [fL_place_c35_s, q_gd (by decide) (by decide), q_cl (by decide), h.1.1, if_pos (nI_lt (by omega) (by omega)), q_add, q_gd (by omega) (by decide), q_cl (by omega)]
    rw [← key]
    rcases hr k (by omega) with q | ⟨x, hx, q⟩
    · rw [q, if_pos (by decide)]
      rfl
    · rw [q, if_neg (by simp (disch := omega) only [q_bn, q_ob, q_z0, q_z1, q_gd, q_cl, q_add, q_mul, q_lt, q_eq, q_eq0, q_lt0, q_0lt, q_ngl, q_ngr, q_ng0, q_ngz, q_ngn, q_ngp, q_nlt]; exact not_false), q_gd (by omega) (by decide), HR.tall hT h hK hn hx, q_oq]
      rw [show pCh (hTl σ G n) (nI x) = hTl σ G n x by unfold pCh; rw [if_neg (by simp (disch := omega) only [q_bn, q_ob, q_z0, q_z1, q_gd, q_cl, q_add, q_mul, q_lt, q_eq, q_eq0, q_lt0, q_0lt, q_ngl, q_ngr, q_ng0, q_ngz, q_ngn, q_ngp, q_nlt]; exact not_false), q_cl (by omega)]]
theorem HR.place {σ ρ : k_S} {G N m K n a w : Nat} {r : qA} (hT : HT σ G N m K) (h : HR σ ρ G N m K) (hK : K ≤ 12) (hn : n ≤ K) (ha : a + 5 ≤ 5) (hr : ∀ j, j < G → hOk N (r (a + j))) (hw : w < G) : fL_place (ρ.2 0) (ρ.2 1) r (nI n) (nI a) (nI w) = some (nI (qPlace G (fun j => pCh (hTl σ G n) (r (a + j))) w), ()) := by
  have hG : G ≤ 5 := hT.2.1.2.1
  have hN : N ≤ 10 := hT.2.1.2.2.1
  have key := ev_place_loop (a := a) (w := w) (r := r) hT h hK hn ha hr hw G 0 0 k_F (by omega) (q_kF (by omega))
  unfold fL_place
  rw [q_add, q_gd (by omega) (by decide), q_cl (by omega)]
  refine Eq.trans ?_ key
  rcases hr w hw with q | ⟨x, hx, q⟩
  · rw [q, if_pos (by decide)]
    rfl
  · rw [q, if_neg (by simp (disch := omega) only [q_bn, q_ob, q_z0, q_z1, q_gd, q_cl, q_add, q_mul, q_lt, q_eq, q_eq0, q_lt0, q_0lt, q_ngl, q_ngr, q_ng0, q_ngz, q_ngn, q_ngp, q_nlt]; exact not_false), q_gd (by omega) (by decide), HR.tall hT h hK hn hx, q_oq]
    rw [show pCh (hTl σ G n) (nI x) = hTl σ G n x by unfold pCh; rw [if_neg (by simp (disch := omega) only [q_bn, q_ob, q_z0, q_z1, q_gd, q_cl, q_add, q_mul, q_lt, q_eq, q_eq0, q_lt0, q_0lt, q_ngl, q_ngr, q_ng0, q_ngz, q_ngn, q_ngp, q_nlt]; exact not_false), q_cl (by omega)]]
    rfl
theorem ev_place_ab_loop {σ ρ : k_S} {G N m K n a w : Nat} (hT : HT σ G N m K) (h : HR σ ρ G N m K) (hK : K ≤ 12) (hn : n ≤ K) (ha : a + 5 ≤ 60) (hr : ∀ j, j < G → hOk N (ρ.2 1 (a + j))) (hw : w < G) : ∀ (d k acc f : Nat), k + d = G → d < f → fL_place_ab_c35 (ρ.2 0) (ρ.2 1) f (nI n) (nI a) (nI w) (pCh (hTl σ G n) (ρ.2 1 (a + w))) (nI acc) (nI k) = some (nI (pPl (fun j => pCh (hTl σ G n) (ρ.2 1 (a + j))) w (pCh (hTl σ G n) (ρ.2 1 (a + w))) d k acc), ()) := by
  have hG : G ≤ 5 := hT.2.1.2.1
  have hN : N ≤ 10 := hT.2.1.2.2.1
  intro d
  induction d with
  | zero =>
    intro k acc f h1 h2
    obtain ⟨f, rfl⟩ := q_fu 0 h2
    rw [fL_place_ab_c35_s, q_gd (by decide) (by decide), q_cl (by decide), h.1.1, if_neg (by simp (disch := omega) only [q_bn, q_ob, q_z0, q_z1, q_gd, q_cl, q_add, q_mul, q_lt, q_eq, q_eq0, q_lt0, q_0lt, q_ngl, q_ngr, q_ng0, q_ngz, q_ngn, q_ngp, q_nlt]; omega)]
    rfl
  | succ d ih =>
    intro k acc f h1 h2
    obtain ⟨f, rfl⟩ := q_fu (d + 1) h2
    have fin : ∀ acc' : Nat, fL_place_ab_c35 (ρ.2 0) (ρ.2 1) f (nI n) (nI a) (nI w) (pCh (hTl σ G n) (ρ.2 1 (a + w))) (nI acc') (nI (k + 1)) = some (nI (pPl (fun j => pCh (hTl σ G n) (ρ.2 1 (a + j))) w (pCh (hTl σ G n) (ρ.2 1 (a + w))) d (k + 1) acc'), ()) := fun acc' => ih (k + 1) acc' f (by omega) (by omega)
    have key : fL_place_ab_c70 (ρ.2 0) (ρ.2 1) (fL_place_ab_c35 (ρ.2 0) (ρ.2 1) f) (nI n) (nI a) (nI w) (pCh (hTl σ G n) (ρ.2 1 (a + w))) (nI acc) (nI k) (pCh (hTl σ G n) (ρ.2 1 (a + k))) = some (nI (pPl (fun j => pCh (hTl σ G n) (ρ.2 1 (a + j))) w (pCh (hTl σ G n) (ρ.2 1 (a + w))) (d + 1) k acc), ()) := by
      unfold fL_place_ab_c70 fL_place_ab_c95 fL_place_ab_c99 fL_place_ab_c100 pPl
      simp only [q_bn, q_add, Nat.add_zero]
      by_cases hkw : k = w
      · subst hkw
        rw [if_neg (by simp (disch := omega) only [q_bn, q_ob, q_z0, q_z1, q_gd, q_cl, q_add, q_mul, q_lt, q_eq, q_eq0, q_lt0, q_0lt, q_ngl, q_ngr, q_ng0, q_ngz, q_ngn, q_ngp, q_nlt]; exact not_false), if_pos rfl, if_neg (by simp (disch := omega) only [q_bn, q_ob, q_z0, q_z1, q_gd, q_cl, q_add, q_mul, q_lt, q_eq, q_eq0, q_lt0, q_0lt, q_ngl, q_ngr, q_ng0, q_ngz, q_ngn, q_ngp, q_nlt]; exact not_false), if_pos rfl]
        exact fin acc
      · rw [if_neg hkw]
        by_cases c1 : pCh (hTl σ G n) (ρ.2 1 (a + w)) < pCh (hTl σ G n) (ρ.2 1 (a + k))
        · rw [if_pos c1, if_pos c1]
          exact fin (acc + 1)
        · rw [if_neg c1, if_neg c1]
          by_cases c2 : pCh (hTl σ G n) (ρ.2 1 (a + k)) = pCh (hTl σ G n) (ρ.2 1 (a + w))
          · rw [if_pos c2, if_pos c2]
            by_cases c3 : k < w
            · rw [if_pos (nI_lt c3 (by omega)), if_pos c3]
              exact fin (acc + 1)
            · rw [if_neg (nI_nlt (by omega) (by omega)), if_neg c3]
              exact fin acc
          · rw [if_neg c2, if_neg c2]
            exact fin acc
    rw [fL_place_ab_c35_s, q_gd (by decide) (by decide), q_cl (by decide), h.1.1, if_pos (nI_lt (by omega) (by omega)), q_add, q_gd (by omega) (by decide), q_cl (by omega)]
    rw [← key]
    rcases hr k (by omega) with q | ⟨x, hx, q⟩
    · rw [q, if_pos (by decide)]
      rfl
    · rw [q, if_neg (by simp (disch := omega) only [q_bn, q_ob, q_z0, q_z1, q_gd, q_cl, q_add, q_mul, q_lt, q_eq, q_eq0, q_lt0, q_0lt, q_ngl, q_ngr, q_ng0, q_ngz, q_ngn, q_ngp, q_nlt]; exact not_false), q_gd (by omega) (by decide), HR.tall hT h hK hn hx, q_oq]
      rw [show pCh (hTl σ G n) (nI x) = hTl σ G n x by unfold pCh; rw [if_neg (by simp (disch := omega) only [q_bn, q_ob, q_z0, q_z1, q_gd, q_cl, q_add, q_mul, q_lt, q_eq, q_eq0, q_lt0, q_0lt, q_ngl, q_ngr, q_ng0, q_ngz, q_ngn, q_ngp, q_nlt]; exact not_false), q_cl (by omega)]]
theorem HR.place_ab {σ ρ : k_S} {G N m K n a w : Nat} (hT : HT σ G N m K) (h : HR σ ρ G N m K) (hK : K ≤ 12) (hn : n ≤ K) (ha : a + 5 ≤ 60) (hr : ∀ j, j < G → hOk N (ρ.2 1 (a + j))) (hw : w < G) : fL_place_ab (ρ.2 0) (ρ.2 1) (nI n) (nI a) (nI w) = some (nI (qPlace G (fun j => pCh (hTl σ G n) (ρ.2 1 (a + j))) w), ()) := by
  have hG : G ≤ 5 := hT.2.1.2.1
  have hN : N ≤ 10 := hT.2.1.2.2.1
  have key := ev_place_ab_loop (a := a) (w := w) hT h hK hn ha hr hw G 0 0 k_F (by omega) (q_kF (by omega))
  unfold fL_place_ab
  rw [q_add, q_gd (by omega) (by decide), q_cl (by omega)]
  refine Eq.trans ?_ key
  rcases hr w hw with q | ⟨x, hx, q⟩
  · rw [q, if_pos (by decide)]
    rfl
  · rw [q, if_neg (by simp (disch := omega) only [q_bn, q_ob, q_z0, q_z1, q_gd, q_cl, q_add, q_mul, q_lt, q_eq, q_eq0, q_lt0, q_0lt, q_ngl, q_ngr, q_ng0, q_ngz, q_ngn, q_ngp, q_nlt]; exact not_false), q_gd (by omega) (by decide), HR.tall hT h hK hn hx, q_oq]
    rw [show pCh (hTl σ G n) (nI x) = hTl σ G n x by unfold pCh; rw [if_neg (by simp (disch := omega) only [q_bn, q_ob, q_z0, q_z1, q_gd, q_cl, q_add, q_mul, q_lt, q_eq, q_eq0, q_lt0, q_0lt, q_ngl, q_ngr, q_ng0, q_ngz, q_ngn, q_ngp, q_nlt]; exact not_false), q_cl (by omega)]]
    rfl
