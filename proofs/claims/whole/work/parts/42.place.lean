/-! ===== talls, places, needs ===== -/
/-- places lo .. hi - 1 by f, else as it was -/
def pSet (f old : qA) (lo hi : Nat) : qA := fun j => if lo ≤ j ∧ j < hi then f j else old j
theorem pSet_in {f old : qA} {lo hi j : Nat} (h1 : lo ≤ j) (h2 : j < hi) : pSet f old lo hi j = f j := if_pos ⟨h1, h2⟩
theorem pSet_no (f old : qA) {lo hi : Nat} (h : hi ≤ lo) : pSet f old lo hi = old := funext fun j => if_neg (by omega)
theorem pSet_step (f old : qA) {lo hi : Nat} (h : lo < hi) : pSet f (upd old lo (f lo)) (lo + 1) hi = pSet f old lo hi := by
  funext j
  unfold pSet
  by_cases hj : j = lo
  · subst hj
    rw [if_neg (by omega), if_pos (by omega)]
    exact pk_us
  · by_cases h5 : lo ≤ j ∧ j < hi
    · rw [if_pos (by omega), if_pos h5]
    · rw [if_neg (by omega), if_neg h5]
      exact pk_un hj
def pCh (tl : Nat → Int32) (x : Int32) : Int32 := if x = k_ng 9 then nI 0 else tl x.toNatClampNeg
theorem T_talls {σ : k_S} {G N : Nat} (hG : σ.1 3 = nI G) (hG5 : G ≤ 5) (hN : σ.1 4 = nI N) (hN10 : N ≤ 10) (hc : ∀ g, g < G → hOk N (σ.2 10 g)) : fX0_tallsAsChosen σ = some ((), k_sA (k_sf σ 7 (nI G)) 14 (pSet (fun g => pCh (tTall σ) (σ.2 10 g)) (σ.2 14) 0 G)) := by
  have key : ∀ (d g f : Nat) (r : qA), g + d = G → d < f → fX0_tallsAsChosen_c10 f (k_sA (k_sf σ 7 (nI G)) 14 r) (nI g) = some ((), k_sA (k_sf σ 7 (nI G)) 14 (pSet (fun g => pCh (tTall σ) (σ.2 10 g)) r g G)) := by
    intro d
    induction d with
    | zero =>
      intro g f r h1 h2
      obtain ⟨f, rfl⟩ := q_fu 0 h2
      rw [fX0_tallsAsChosen_c10_s, show (k_sA (k_sf σ 7 (nI G)) 14 r).1 3 = nI G from hG, if_neg (by simp (disch := omega) only [q_bn, q_ob, q_z0, q_z1, q_gd, q_cl, q_add, q_mul, q_lt, q_eq, q_eq0, q_lt0, q_0lt, q_ngl, q_ngr, q_ng0, q_ngz, q_ngn, q_ngp, q_nlt]; omega), pSet_no _ _ (by omega)]
    | succ d ih =>
      intro g f r h1 h2
      obtain ⟨f, rfl⟩ := q_fu (d + 1) h2
      rw [fX0_tallsAsChosen_c10_s, show (k_sA (k_sf σ 7 (nI G)) 14 r).1 3 = nI G from hG, if_pos (by simp (disch := omega) only [q_bn, q_ob, q_z0, q_z1, q_gd, q_cl, q_add, q_mul, q_lt, q_eq, q_eq0, q_lt0, q_0lt, q_ngl, q_ngr, q_ng0, q_ngz, q_ngn, q_ngp, q_nlt]; omega)]
      unfold fX0_tallsAsChosen_c50
      have e : (k_sA (k_sf σ 7 (nI G)) 14 r).2 10 = σ.2 10 := rfl
      simp (disch := omega) only [q_bn, q_ob, q_z0, q_z1, q_gd, q_cl, q_add, q_mul, q_lt, q_eq, q_eq0, q_lt0, q_0lt, q_ngl, q_ngr, q_ng0, q_ngz, q_ngn, q_ngp, q_nlt, e]
      have hs : pSet (fun g => pCh (tTall σ) (σ.2 10 g)) r g G = pSet (fun g => pCh (tTall σ) (σ.2 10 g)) (upd r g (pCh (tTall σ) (σ.2 10 g))) (g + 1) G := (pSet_step (fun g => pCh (tTall σ) (σ.2 10 g)) r (show g < G by omega)).symm
      rcases hc g (by omega) with h | ⟨a, ha, h⟩
      · rw [h, T_hasTale_out (N := N) (show (k_sA (k_sf σ 7 (nI G)) 14 r).1 4 = nI N from hN) (.inl (by rw [q_ng0 (by decide) (by decide)]; trivial))]
        simp (disch := omega) only [q_bn, q_ob, q_z0, q_z1, q_gd, q_cl, q_add, q_mul, q_lt, q_eq, q_eq0, q_lt0, q_0lt, q_ngl, q_ngr, q_ng0, q_ngz, q_ngn, q_ngp, q_nlt, if_true, s_sa, s_sA2, s_AA]
        rw [ih (g + 1) f _ (by omega) (by omega), hs, h]
        rfl
      · have h0 : ¬ nI 1 = 0 := by decide
        have hp : pCh (tTall σ) (nI a) = tTall σ a := by
          unfold pCh
          rw [if_neg (by simp (disch := omega) only [q_bn, q_ob, q_z0, q_z1, q_gd, q_cl, q_add, q_mul, q_lt, q_eq, q_eq0, q_lt0, q_0lt, q_ngl, q_ngr, q_ng0, q_ngz, q_ngn, q_ngp, q_nlt]; exact not_false), q_cl (by omega)]
        rw [h, T_hasTale_in (show (k_sA (k_sf σ 7 (nI G)) 14 r).1 4 = nI N from hN) hN10 ha]
        simp (disch := omega) only [q_bn, q_ob, q_z0, q_z1, q_gd, q_cl, q_add, q_mul, q_lt, q_eq, q_eq0, q_lt0, q_0lt, q_ngl, q_ngr, q_ng0, q_ngz, q_ngn, q_ngp, q_nlt, if_false, h0, e, h]
        rw [T_tallOf _ (show a < 10 by omega)]
        simp (disch := omega) only [q_bn, q_ob, q_z0, q_z1, q_gd, q_cl, q_add, q_mul, q_lt, q_eq, q_eq0, q_lt0, q_0lt, q_ngl, q_ngr, q_ng0, q_ngz, q_ngn, q_ngp, q_nlt, s_sa, s_sA2, s_AA, if_true]
        rw [show tTall (k_sA (k_sf σ 7 (nI G)) 14 r) a = tTall σ a from rfl]
        rw [ih (g + 1) f _ (by omega) (by omega), hs, h, hp]
  unfold fX0_tallsAsChosen
  simp (disch := omega) only [q_bn, q_ob, q_z0, q_z1, q_gd, q_cl, q_add, q_mul, q_lt, q_eq, q_eq0, q_lt0, q_0lt, q_ngl, q_ngr, q_ng0, q_ngz, q_ngn, q_ngp, q_nlt, hG]
  have := key G 0 k_F (σ.2 14) (by omega) (q_kF (by omega))
  rw [show σ.2 14 = (k_sf σ 7 (nI G)).2 14 from rfl, s_Aid] at this
  exact this
theorem M_layTall {τ : k_S} {G N : Nat} (hG : τ.1 2 = nI G) (hG5 : G ≤ 5) (hN10 : N ≤ 10) (hc : ∀ g, g < G → hOk N (τ.2 11 g)) (hk : ∀ x, x < N → pKind (τ.2 3) x) : fX7_layTall τ = some ((), k_sA τ 14 (pSet (fun g => pCh (mTall τ) (τ.2 11 g)) (τ.2 14) 0 G)) := by
  have key : ∀ (d g f : Nat) (r : qA), g + d = G → d < f → fX7_layTall_c2 f (k_sA τ 14 r) (nI g) = some ((), k_sA τ 14 (pSet (fun g => pCh (mTall τ) (τ.2 11 g)) r g G)) := by
    intro d
    induction d with
    | zero =>
      intro g f r h1 h2
      obtain ⟨f, rfl⟩ := q_fu 0 h2
      rw [fX7_layTall_c2_s, show (k_sA τ 14 r).1 2 = nI G from hG, if_neg (by simp (disch := omega) only [q_bn, q_ob, q_z0, q_z1, q_gd, q_cl, q_add, q_mul, q_lt, q_eq, q_eq0, q_lt0, q_0lt, q_ngl, q_ngr, q_ng0, q_ngz, q_ngn, q_ngp, q_nlt]; omega), pSet_no _ _ (by omega)]
    | succ d ih =>
      intro g f r h1 h2
      obtain ⟨f, rfl⟩ := q_fu (d + 1) h2
      rw [fX7_layTall_c2_s, show (k_sA τ 14 r).1 2 = nI G from hG, if_pos (by simp (disch := omega) only [q_bn, q_ob, q_z0, q_z1, q_gd, q_cl, q_add, q_mul, q_lt, q_eq, q_eq0, q_lt0, q_0lt, q_ngl, q_ngr, q_ng0, q_ngz, q_ngn, q_ngp, q_nlt]; omega)]
      unfold fX7_layTall_c40
      have e : (k_sA τ 14 r).2 11 = τ.2 11 := rfl
      simp (disch := omega) only [q_bn, q_ob, q_z0, q_z1, q_gd, q_cl, q_add, q_mul, q_lt, q_eq, q_eq0, q_lt0, q_0lt, q_ngl, q_ngr, q_ng0, q_ngz, q_ngn, q_ngp, q_nlt, e]
      have hs : pSet (fun g => pCh (mTall τ) (τ.2 11 g)) r g G = pSet (fun g => pCh (mTall τ) (τ.2 11 g)) (upd r g (pCh (mTall τ) (τ.2 11 g))) (g + 1) G := (pSet_step (fun g => pCh (mTall τ) (τ.2 11 g)) r (show g < G by omega)).symm
      rcases hc g (by omega) with h | ⟨a, ha, h⟩
      · rw [h]
        simp (disch := omega) only [q_bn, q_ob, q_z0, q_z1, q_gd, q_cl, q_add, q_mul, q_lt, q_eq, q_eq0, q_lt0, q_0lt, q_ngl, q_ngr, q_ng0, q_ngz, q_ngn, q_ngp, q_nlt, if_true, s_sa, s_sA2, s_AA]
        rw [ih (g + 1) f _ (by omega) (by omega), hs, h]
        rfl
      · have hp : pCh (mTall τ) (nI a) = mTall τ a := by
          unfold pCh
          rw [if_neg (by simp (disch := omega) only [q_bn, q_ob, q_z0, q_z1, q_gd, q_cl, q_add, q_mul, q_lt, q_eq, q_eq0, q_lt0, q_0lt, q_ngl, q_ngr, q_ng0, q_ngz, q_ngn, q_ngp, q_nlt]; exact not_false), q_cl (by omega)]
        rw [h]
        simp (disch := omega) only [q_bn, q_ob, q_z0, q_z1, q_gd, q_cl, q_add, q_mul, q_lt, q_eq, q_eq0, q_lt0, q_0lt, q_ngl, q_ngr, q_ng0, q_ngz, q_ngn, q_ngp, q_nlt, if_false]
        rw [M_tallNow _ (show a < 10 by omega) (show pKind ((k_sA τ 14 r).2 3) a from hk a ha)]
        simp (disch := omega) only [q_bn, q_ob, q_z0, q_z1, q_gd, q_cl, q_add, q_mul, q_lt, q_eq, q_eq0, q_lt0, q_0lt, q_ngl, q_ngr, q_ng0, q_ngz, q_ngn, q_ngp, q_nlt, s_sa, s_sA2, s_AA, if_true]
        rw [show mTall (k_sA τ 14 r) a = mTall τ a from rfl]
        rw [ih (g + 1) f _ (by omega) (by omega), hs, h, hp]
  unfold fX7_layTall
  simp (disch := omega) only [q_bn, q_ob, q_z0, q_z1, q_gd, q_cl, q_add, q_mul, q_lt, q_eq, q_eq0, q_lt0, q_0lt, q_ngl, q_ngr, q_ng0, q_ngz, q_ngn, q_ngp, q_nlt]
  have := key G 0 k_F (τ.2 14) (by omega) (q_kF (by omega))
  rwa [s_Aid] at this
-- ---- places
def pPl (w : qA) (g : Nat) (t : Int32) : Nat → Nat → Nat → Nat
  | 0, _, acc => acc
  | d + 1, o, acc => pPl w g t d (o + 1) (if o = g then acc else if t < w o then acc + 1 else if w o = t then (if o < g then acc + 1 else acc) else acc)
theorem pPl_congr {v w : qA} {g : Nat} {t : Int32} : ∀ (d o acc : Nat), (∀ j, o ≤ j → j < o + d → j ≠ g → v j = w j) → pPl v g t d o acc = pPl w g t d o acc
  | 0, _, _, _ => rfl
  | d + 1, o, acc, h => by
    unfold pPl
    by_cases ho : o = g
    · rw [if_pos ho, if_pos ho]
      exact pPl_congr d (o + 1) _ (fun j h1 h2 h3 => h j (by omega) (by omega) h3)
    · rw [if_neg ho, if_neg ho, h o (Nat.le_refl o) (by omega) ho]
      exact pPl_congr d (o + 1) _ (fun j h1 h2 h3 => h j (by omega) (by omega) h3)
theorem pPl_le (w : qA) (g : Nat) (t : Int32) : ∀ (d o acc : Nat), pPl w g t d o acc ≤ acc + d
  | 0, _, acc => Nat.le_refl acc
  | d + 1, o, acc => by
    unfold pPl
    refine Nat.le_trans (pPl_le w g t d (o + 1) _) ?_
    repeat' split
    all_goals omega
theorem T_placeOf {σ : k_S} {G g : Nat} (hG : σ.1 7 = nI G) (hG5 : G ≤ 5) (hg : g < 5) (t : Int32) : fX3_placeOf σ (nI g) t = some (nI (pPl (σ.2 14) g t G 0 0), σ) := by
  have key : ∀ (d o acc f : Nat), o + d = G → d < f → fX3_placeOf_c5 f σ (nI g) t (nI acc) (nI o) = some (nI (pPl (σ.2 14) g t d o acc), σ) := by
    intro d
    induction d with
    | zero =>
      intro o acc f h1 h2
      obtain ⟨f, rfl⟩ := q_fu 0 h2
      rw [fX3_placeOf_c5_s, hG, if_neg (by simp (disch := omega) only [q_bn, q_ob, q_z0, q_z1, q_gd, q_cl, q_add, q_mul, q_lt, q_eq, q_eq0, q_lt0, q_0lt, q_ngl, q_ngr, q_ng0, q_ngz, q_ngn, q_ngp, q_nlt]; omega)]
      rfl
    | succ d ih =>
      intro o acc f h1 h2
      obtain ⟨f, rfl⟩ := q_fu (d + 1) h2
      rw [fX3_placeOf_c5_s, hG, if_pos (by simp (disch := omega) only [q_bn, q_ob, q_z0, q_z1, q_gd, q_cl, q_add, q_mul, q_lt, q_eq, q_eq0, q_lt0, q_0lt, q_ngl, q_ngr, q_ng0, q_ngz, q_ngn, q_ngp, q_nlt]; omega)]
      unfold fX3_placeOf_c51 fX3_placeOf_c54 pPl
      simp (disch := omega) only [q_bn, q_ob, q_z0, q_z1, q_gd, q_cl, q_add, q_mul, q_lt, q_eq, q_eq0, q_lt0, q_0lt, q_ngl, q_ngr, q_ng0, q_ngz, q_ngn, q_ngp, q_nlt]
      repeat' split
      all_goals exact ih (o + 1) _ f (by omega) (by omega)
  unfold fX3_placeOf
  simp (disch := omega) only [q_bn, q_ob, q_z0, q_z1, q_gd, q_cl, q_add, q_mul, q_lt, q_eq, q_eq0, q_lt0, q_0lt, q_ngl, q_ngr, q_ng0, q_ngz, q_ngn, q_ngp, q_nlt]
  exact key G 0 0 k_F (by omega) (q_kF (by omega))
theorem M_placeOf {τ : k_S} {G g : Nat} (hG : τ.1 2 = nI G) (hG5 : G ≤ 5) (hg : g < 5) : fX7_placeOf τ (nI g) = some (nI (pPl (τ.2 14) g (τ.2 14 g) G 0 0), τ) := by
  have key : ∀ (d o acc f : Nat), o + d = G → d < f → fX7_placeOf_c4 f τ (nI g) (nI acc) (nI o) = some (nI (pPl (τ.2 14) g (τ.2 14 g) d o acc), τ) := by
    intro d
    induction d with
    | zero =>
      intro o acc f h1 h2
      obtain ⟨f, rfl⟩ := q_fu 0 h2
      rw [fX7_placeOf_c4_s, hG, if_neg (by simp (disch := omega) only [q_bn, q_ob, q_z0, q_z1, q_gd, q_cl, q_add, q_mul, q_lt, q_eq, q_eq0, q_lt0, q_0lt, q_ngl, q_ngr, q_ng0, q_ngz, q_ngn, q_ngp, q_nlt]; omega)]
      rfl
    | succ d ih =>
      intro o acc f h1 h2
      obtain ⟨f, rfl⟩ := q_fu (d + 1) h2
      rw [fX7_placeOf_c4_s, hG, if_pos (by simp (disch := omega) only [q_bn, q_ob, q_z0, q_z1, q_gd, q_cl, q_add, q_mul, q_lt, q_eq, q_eq0, q_lt0, q_0lt, q_ngl, q_ngr, q_ng0, q_ngz, q_ngn, q_ngp, q_nlt]; omega)]
      unfold fX7_placeOf_c48 fX7_placeOf_c52 fX7_placeOf_c53 pPl
      by_cases ho : o = g
      · subst ho
        simp (disch := omega) only [q_bn, q_ob, q_z0, q_z1, q_gd, q_cl, q_add, q_mul, q_lt, q_eq, q_eq0, q_lt0, q_0lt, q_ngl, q_ngr, q_ng0, q_ngz, q_ngn, q_ngp, q_nlt, if_true, if_false, Nat.lt_irrefl, Nat.add_zero]
        exact ih (o + 1) _ f (by omega) (by omega)
      · simp (disch := omega) only [q_bn, q_ob, q_z0, q_z1, q_gd, q_cl, q_add, q_mul, q_lt, q_eq, q_eq0, q_lt0, q_0lt, q_ngl, q_ngr, q_ng0, q_ngz, q_ngn, q_ngp, q_nlt, ho, if_false, Nat.add_zero]
        repeat' split
        all_goals exact ih (o + 1) _ f (by omega) (by omega)
  unfold fX7_placeOf
  simp (disch := omega) only [q_bn, q_ob, q_z0, q_z1, q_gd, q_cl, q_add, q_mul, q_lt, q_eq, q_eq0, q_lt0, q_0lt, q_ngl, q_ngr, q_ng0, q_ngz, q_ngn, q_ngp, q_nlt]
  exact key G 0 0 k_F (by omega) (q_kF (by omega))
-- ---- needs
def pNd (w : Nat → Nat) (g : Nat) : Nat → Nat → Nat → Nat
  | 0, _, acc => acc
  | d + 1, o, acc => pNd w g d (o + 1) (if o = g then acc else if o < g then (if acc < w o + 1 then w o + 1 else acc) else (if acc < w o then w o else acc))
theorem q_mx {a b : Nat} (ha : a < 2 ^ 31) (hb : b < 2 ^ 31) : k_mx (nI a) (nI b) = nI (if a < b then b else a) := by
  unfold k_mx
  simp only [q_lt ha hb]
  split <;> rfl
theorem T_needOf {σ : k_S} {G g : Nat} {w : Nat → Nat} (hG : σ.1 7 = nI G) (hG5 : G ≤ 5) (hg : g < 5) (hw : ∀ o, o < G → σ.2 14 o = nI (w o) ∧ w o ≤ 10000) : fX3_needOf σ (nI g) = some (nI (pNd w g G 0 1), σ) := by
  have key : ∀ (d o acc f : Nat), o + d = G → d < f → acc ≤ 10001 → fX3_needOf_c4 f σ (nI g) (nI acc) (nI o) = some (nI (pNd w g d o acc), σ) := by
    intro d
    induction d with
    | zero =>
      intro o acc f h1 h2 _
      obtain ⟨f, rfl⟩ := q_fu 0 h2
      rw [fX3_needOf_c4_s, hG, if_neg (by simp (disch := omega) only [q_bn, q_ob, q_z0, q_z1, q_gd, q_cl, q_add, q_mul, q_lt, q_eq, q_eq0, q_lt0, q_0lt, q_ngl, q_ngr, q_ng0, q_ngz, q_ngn, q_ngp, q_nlt]; omega)]
      rfl
    | succ d ih =>
      intro o acc f h1 h2 h3
      obtain ⟨f, rfl⟩ := q_fu (d + 1) h2
      obtain ⟨e, hle⟩ := hw o (by omega)
      rw [fX3_needOf_c4_s, hG, if_pos (by simp (disch := omega) only [q_bn, q_ob, q_z0, q_z1, q_gd, q_cl, q_add, q_mul, q_lt, q_eq, q_eq0, q_lt0, q_0lt, q_ngl, q_ngr, q_ng0, q_ngz, q_ngn, q_ngp, q_nlt]; omega)]
      unfold fX3_needOf_c43 fX3_needOf_c47 pNd
      simp (disch := omega) only [q_bn, q_ob, q_z0, q_z1, q_gd, q_cl, q_add, q_mul, q_lt, q_eq, q_eq0, q_lt0, q_0lt, q_ngl, q_ngr, q_ng0, q_ngz, q_ngn, q_ngp, q_nlt, e, q_mx]
      repeat' split
      all_goals exact ih (o + 1) _ f (by omega) (by omega) (by omega)
  unfold fX3_needOf
  simp (disch := omega) only [q_bn, q_ob, q_z0, q_z1, q_gd, q_cl, q_add, q_mul, q_lt, q_eq, q_eq0, q_lt0, q_0lt, q_ngl, q_ngr, q_ng0, q_ngz, q_ngn, q_ngp, q_nlt]
  exact key G 0 1 k_F (by omega) (q_kF (by omega)) (by omega)
theorem M_need {τ : k_S} {G g : Nat} {w : Nat → Nat} (hG : τ.1 2 = nI G) (hG5 : G ≤ 5) (hg : g < 5) (hw : ∀ o, o < G → τ.2 14 o = nI (w o) ∧ w o ≤ 10000) : fX7_need τ (nI g) = some (nI (pNd w g G 0 1), τ) := by
  have key : ∀ (d o acc f : Nat), o + d = G → d < f → 1 ≤ acc → acc ≤ 10001 → fX7_need_c4 f τ (nI g) (nI acc) (nI o) = some (nI (pNd w g d o acc), τ) := by
    intro d
    induction d with
    | zero =>
      intro o acc f h1 h2 _ _
      obtain ⟨f, rfl⟩ := q_fu 0 h2
      rw [fX7_need_c4_s, hG, if_neg (by simp (disch := omega) only [q_bn, q_ob, q_z0, q_z1, q_gd, q_cl, q_add, q_mul, q_lt, q_eq, q_eq0, q_lt0, q_0lt, q_ngl, q_ngr, q_ng0, q_ngz, q_ngn, q_ngp, q_nlt]; omega)]
      rfl
    | succ d ih =>
      intro o acc f h1 h2 h3 h4
      obtain ⟨f, rfl⟩ := q_fu (d + 1) h2
      obtain ⟨e, hle⟩ := hw o (by omega)
      rw [fX7_need_c4_s, hG, if_pos (by simp (disch := omega) only [q_bn, q_ob, q_z0, q_z1, q_gd, q_cl, q_add, q_mul, q_lt, q_eq, q_eq0, q_lt0, q_0lt, q_ngl, q_ngr, q_ng0, q_ngz, q_ngn, q_ngp, q_nlt]; omega)]
      unfold fX7_need_c48 fX7_need_c62 fX7_need_c63 pNd
      simp (disch := omega) only [q_bn, q_ob, q_z0, q_z1, q_gd, q_cl, q_add, q_mul, q_lt, q_eq, q_eq0, q_lt0, q_0lt, q_ngl, q_ngr, q_ng0, q_ngz, q_ngn, q_ngp, q_nlt, e]
      by_cases ho : o = g
      · subst ho
        simp (disch := omega) only [q_bn, q_ob, q_z0, q_z1, q_gd, q_cl, q_add, q_mul, q_lt, q_eq, q_eq0, q_lt0, q_0lt, q_ngl, q_ngr, q_ng0, q_ngz, q_ngn, q_ngp, q_nlt, if_true]
        exact ih (o + 1) _ f (by omega) (by omega) (by omega) (by omega)
      · by_cases hz : 0 < w o
        · simp (disch := omega) only [q_bn, q_ob, q_z0, q_z1, q_gd, q_cl, q_add, q_mul, q_lt, q_eq, q_eq0, q_lt0, q_0lt, q_ngl, q_ngr, q_ng0, q_ngz, q_ngn, q_ngp, q_nlt, ho, hz, if_true, if_false]
          repeat' split
          all_goals exact ih (o + 1) _ f (by omega) (by omega) (by omega) (by omega)
        · simp (disch := omega) only [q_bn, q_ob, q_z0, q_z1, q_gd, q_cl, q_add, q_mul, q_lt, q_eq, q_eq0, q_lt0, q_0lt, q_ngl, q_ngr, q_ng0, q_ngz, q_ngn, q_ngp, q_nlt, ho, hz, if_true, if_false]
          rw [show (if o < g then if acc < w o + 1 then w o + 1 else acc else if acc < w o then w o else acc) = acc by
            repeat' split
            all_goals omega]
          exact ih (o + 1) _ f (by omega) (by omega) (by omega) (by omega)
  unfold fX7_need
  simp (disch := omega) only [q_bn, q_ob, q_z0, q_z1, q_gd, q_cl, q_add, q_mul, q_lt, q_eq, q_eq0, q_lt0, q_0lt, q_ngl, q_ngr, q_ng0, q_ngz, q_ngn, q_ngp, q_nlt]
  exact key G 0 1 k_F (by omega) (q_kF (by omega)) (by omega) (by omega)
-- ---- a bishop
def pBi (w : qA) (t : Int32) : Nat → Nat → Nat → Nat
  | 0, _, acc => acc
  | d + 1, o, acc => pBi w t d (o + 1) (if 0 < w o then (if w o < t then acc else acc + 1) else acc)
theorem T_noLess {σ : k_S} {G : Nat} (hG : σ.1 7 = nI G) (hG5 : G ≤ 5) (t : Int32) : fX3_noLessThan σ t = some (nI (pBi (σ.2 14) t G 0 0), σ) := by
  have key : ∀ (d o acc f : Nat), o + d = G → d < f → fX3_noLessThan_c4 f σ t (nI acc) (nI o) = some (nI (pBi (σ.2 14) t d o acc), σ) := by
    intro d
    induction d with
    | zero =>
      intro o acc f h1 h2
      obtain ⟨f, rfl⟩ := q_fu 0 h2
      rw [fX3_noLessThan_c4_s, hG, if_neg (by simp (disch := omega) only [q_bn, q_ob, q_z0, q_z1, q_gd, q_cl, q_add, q_mul, q_lt, q_eq, q_eq0, q_lt0, q_0lt, q_ngl, q_ngr, q_ng0, q_ngz, q_ngn, q_ngp, q_nlt]; omega)]
      rfl
    | succ d ih =>
      intro o acc f h1 h2
      obtain ⟨f, rfl⟩ := q_fu (d + 1) h2
      rw [fX3_noLessThan_c4_s, hG, if_pos (by simp (disch := omega) only [q_bn, q_ob, q_z0, q_z1, q_gd, q_cl, q_add, q_mul, q_lt, q_eq, q_eq0, q_lt0, q_0lt, q_ngl, q_ngr, q_ng0, q_ngz, q_ngn, q_ngp, q_nlt]; omega)]
      unfold fX3_noLessThan_c34 pBi
      simp (disch := omega) only [q_bn, q_ob, q_z0, q_z1, q_gd, q_cl, q_add, q_mul, q_lt, q_eq, q_eq0, q_lt0, q_0lt, q_ngl, q_ngr, q_ng0, q_ngz, q_ngn, q_ngp, q_nlt]
      repeat' split
      all_goals exact ih (o + 1) _ f (by omega) (by omega)
  unfold fX3_noLessThan
  simp (disch := omega) only [q_bn, q_ob, q_z0, q_z1, q_gd, q_cl, q_add, q_mul, q_lt, q_eq, q_eq0, q_lt0, q_0lt, q_ngl, q_ngr, q_ng0, q_ngz, q_ngn, q_ngp, q_nlt]
  exact key G 0 0 k_F (by omega) (q_kF (by omega))
theorem M_bishop_loop {τ : k_S} {G : Nat} (hG : τ.1 2 = nI G) (hG5 : G ≤ 5) (hz : ∀ o, o < G → ((0 < τ.2 14 o) = ¬ τ.2 11 o = k_ng 9)) (t : Int32) : ∀ (d o acc f : Nat), o + d = G → d < f → fX7_bishop_c32 f τ t (nI acc) (nI o) = some (nI (pBi (τ.2 14) t d o acc), τ) := by
  intro d
  induction d with
  | zero =>
    intro o acc f h1 h2
    obtain ⟨f, rfl⟩ := q_fu 0 h2
    rw [fX7_bishop_c32_s, hG, if_neg (by simp (disch := omega) only [q_bn, q_ob, q_z0, q_z1, q_gd, q_cl, q_add, q_mul, q_lt, q_eq, q_eq0, q_lt0, q_0lt, q_ngl, q_ngr, q_ng0, q_ngz, q_ngn, q_ngp, q_nlt]; omega)]
    rfl
  | succ d ih =>
    intro o acc f h1 h2
    obtain ⟨f, rfl⟩ := q_fu (d + 1) h2
    rw [fX7_bishop_c32_s, hG, if_pos (by simp (disch := omega) only [q_bn, q_ob, q_z0, q_z1, q_gd, q_cl, q_add, q_mul, q_lt, q_eq, q_eq0, q_lt0, q_0lt, q_ngl, q_ngr, q_ng0, q_ngz, q_ngn, q_ngp, q_nlt]; omega)]
    unfold fX7_bishop_c66 fX7_bishop_c67 pBi
    have := hz o (by omega)
    by_cases h9 : τ.2 11 o = k_ng 9
    · simp (disch := omega) only [q_bn, q_ob, q_z0, q_z1, q_gd, q_cl, q_add, q_mul, q_lt, q_eq, q_eq0, q_lt0, q_0lt, q_ngl, q_ngr, q_ng0, q_ngz, q_ngn, q_ngp, q_nlt, h9, this, if_true, if_false, Nat.add_zero, not_true]
      exact ih (o + 1) _ f (by omega) (by omega)
    · simp (disch := omega) only [q_bn, q_ob, q_z0, q_z1, q_gd, q_cl, q_add, q_mul, q_lt, q_eq, q_eq0, q_lt0, q_0lt, q_ngl, q_ngr, q_ng0, q_ngz, q_ngn, q_ngp, q_nlt, h9, this, if_true, if_false, Nat.add_zero, not_false_eq_true]
      repeat' split
      all_goals exact ih (o + 1) _ f (by omega) (by omega)
-- ---- nights that are over
theorem T_tallsOfNight {σ : k_S} {G n : Nat} (hG : σ.1 3 = nI G) (hG5 : G ≤ 5) (hn : n < 60) : fX0_tallsOfNight σ (nI n) = some ((), k_sA (k_sf σ 7 (nI G)) 14 (pSet (fun g => σ.2 13 (5 * n + g)) (σ.2 14) 0 G)) := by
  have key : ∀ (d g f : Nat) (r : qA), g + d = G → d < f → fX0_tallsOfNight_c10 f (k_sA (k_sf σ 7 (nI G)) 14 r) (nI n) (nI g) = some ((), k_sA (k_sf σ 7 (nI G)) 14 (pSet (fun g => σ.2 13 (5 * n + g)) r g G)) := by
    intro d
    induction d with
    | zero =>
      intro g f r h1 h2
      obtain ⟨f, rfl⟩ := q_fu 0 h2
      rw [fX0_tallsOfNight_c10_s, show (k_sA (k_sf σ 7 (nI G)) 14 r).1 3 = nI G from hG, if_neg (by simp (disch := omega) only [q_bn, q_ob, q_z0, q_z1, q_gd, q_cl, q_add, q_mul, q_lt, q_eq, q_eq0, q_lt0, q_0lt, q_ngl, q_ngr, q_ng0, q_ngz, q_ngn, q_ngp, q_nlt]; omega), pSet_no _ _ (by omega)]
    | succ d ih =>
      intro g f r h1 h2
      obtain ⟨f, rfl⟩ := q_fu (d + 1) h2
      rw [fX0_tallsOfNight_c10_s, show (k_sA (k_sf σ 7 (nI G)) 14 r).1 3 = nI G from hG, if_pos (by simp (disch := omega) only [q_bn, q_ob, q_z0, q_z1, q_gd, q_cl, q_add, q_mul, q_lt, q_eq, q_eq0, q_lt0, q_0lt, q_ngl, q_ngr, q_ng0, q_ngz, q_ngn, q_ngp, q_nlt]; omega)]
      simp (disch := omega) only [q_bn, q_ob, q_z0, q_z1, q_gd, q_cl, q_add, q_mul, q_lt, q_eq, q_eq0, q_lt0, q_0lt, q_ngl, q_ngr, q_ng0, q_ngz, q_ngn, q_ngp, q_nlt, s_sa, s_sA2, s_AA, if_true]
      rw [ih (g + 1) f _ (by omega) (by omega), ← pSet_step _ r (show g < G by omega)]
      rw [show n * 5 + g = 5 * n + g by omega]
      rfl
  unfold fX0_tallsOfNight
  simp (disch := omega) only [q_bn, q_ob, q_z0, q_z1, q_gd, q_cl, q_add, q_mul, q_lt, q_eq, q_eq0, q_lt0, q_0lt, q_ngl, q_ngr, q_ng0, q_ngz, q_ngn, q_ngp, q_nlt, hG]
  have := key G 0 k_F (σ.2 14) (by omega) (q_kF (by omega))
  rw [show σ.2 14 = (k_sf σ 7 (nI G)).2 14 from rfl, s_Aid] at this
  exact this
theorem M_layNight {τ : k_S} {G n : Nat} (hG : τ.1 2 = nI G) (hG5 : G ≤ 5) (hn : n < 60) : fX7_layNight τ (nI n) = some ((), k_sA τ 14 (pSet (fun g => τ.2 10 (5 * n + g)) (τ.2 14) 0 G)) := by
  have key : ∀ (d g f : Nat) (r : qA), g + d = G → d < f → fX7_layNight_c2 f (k_sA τ 14 r) (nI n) (nI g) = some ((), k_sA τ 14 (pSet (fun g => τ.2 10 (5 * n + g)) r g G)) := by
    intro d
    induction d with
    | zero =>
      intro g f r h1 h2
      obtain ⟨f, rfl⟩ := q_fu 0 h2
      rw [fX7_layNight_c2_s, show (k_sA τ 14 r).1 2 = nI G from hG, if_neg (by simp (disch := omega) only [q_bn, q_ob, q_z0, q_z1, q_gd, q_cl, q_add, q_mul, q_lt, q_eq, q_eq0, q_lt0, q_0lt, q_ngl, q_ngr, q_ng0, q_ngz, q_ngn, q_ngp, q_nlt]; omega), pSet_no _ _ (by omega)]
    | succ d ih =>
      intro g f r h1 h2
      obtain ⟨f, rfl⟩ := q_fu (d + 1) h2
      rw [fX7_layNight_c2_s, show (k_sA τ 14 r).1 2 = nI G from hG, if_pos (by simp (disch := omega) only [q_bn, q_ob, q_z0, q_z1, q_gd, q_cl, q_add, q_mul, q_lt, q_eq, q_eq0, q_lt0, q_0lt, q_ngl, q_ngr, q_ng0, q_ngz, q_ngn, q_ngp, q_nlt]; omega)]
      simp (disch := omega) only [q_bn, q_ob, q_z0, q_z1, q_gd, q_cl, q_add, q_mul, q_lt, q_eq, q_eq0, q_lt0, q_0lt, q_ngl, q_ngr, q_ng0, q_ngz, q_ngn, q_ngp, q_nlt, s_sa, s_sA2, s_AA, if_true]
      rw [ih (g + 1) f _ (by omega) (by omega), ← pSet_step _ r (show g < G by omega)]
      rfl
  unfold fX7_layNight
  simp (disch := omega) only [q_bn, q_ob, q_z0, q_z1, q_gd, q_cl, q_add, q_mul, q_lt, q_eq, q_eq0, q_lt0, q_0lt, q_ngl, q_ngr, q_ng0, q_ngz, q_ngn, q_ngp, q_nlt]
  have := key G 0 k_F (τ.2 14) (by omega) (q_kF (by omega))
  rwa [s_Aid] at this
def pNa (p : Nat → Int32) (x : Int32) : Nat → Nat → Nat → Nat
  | 0, _, acc => acc
  | d + 1, n, acc => pNa p x d (n + 1) (if p n = x then acc + 1 else acc)
theorem pNa_congr {p q : Nat → Int32} {x : Int32} : ∀ (d n acc : Nat), (∀ j, n ≤ j → j < n + d → p j = q j) → pNa p x d n acc = pNa q x d n acc
  | 0, _, _, _ => rfl
  | d + 1, n, acc, h => by
    unfold pNa
    rw [h n (Nat.le_refl n) (by omega)]
    exact pNa_congr d (n + 1) _ (fun j h1 h2 => h j (by omega) (by omega))
theorem T_nightsAt {σ : k_S} {K g : Nat} (hK : σ.1 6 = nI K) (hK60 : K ≤ 60) (hg : g < 5) (x : Int32) : fX0_nightsAt σ (nI g) x = some (nI (pNa (fun n => σ.2 12 (5 * n + g)) x K 0 0), σ) := by
  have key : ∀ (d n acc f : Nat), n + d = K → d < f → fX0_nightsAt_c5 f σ (nI g) x (nI acc) (nI n) = some (nI (pNa (fun n => σ.2 12 (5 * n + g)) x d n acc), σ) := by
    intro d
    induction d with
    | zero =>
      intro o acc f h1 h2
      obtain ⟨f, rfl⟩ := q_fu 0 h2
      rw [fX0_nightsAt_c5_s, hK, if_neg (by simp (disch := omega) only [q_bn, q_ob, q_z0, q_z1, q_gd, q_cl, q_add, q_mul, q_lt, q_eq, q_eq0, q_lt0, q_0lt, q_ngl, q_ngr, q_ng0, q_ngz, q_ngn, q_ngp, q_nlt]; omega)]
      rfl
    | succ d ih =>
      intro o acc f h1 h2
      obtain ⟨f, rfl⟩ := q_fu (d + 1) h2
      rw [fX0_nightsAt_c5_s, hK, if_pos (by simp (disch := omega) only [q_bn, q_ob, q_z0, q_z1, q_gd, q_cl, q_add, q_mul, q_lt, q_eq, q_eq0, q_lt0, q_0lt, q_ngl, q_ngr, q_ng0, q_ngz, q_ngn, q_ngp, q_nlt]; omega)]
      unfold fX0_nightsAt_c32 pNa
      simp (disch := omega) only [q_bn, q_ob, q_z0, q_z1, q_gd, q_cl, q_add, q_mul, q_lt, q_eq, q_eq0, q_lt0, q_0lt, q_ngl, q_ngr, q_ng0, q_ngz, q_ngn, q_ngp, q_nlt]
      rw [show o * 5 + g = 5 * o + g by omega]
      split
      all_goals exact ih (o + 1) _ f (by omega) (by omega)
  unfold fX0_nightsAt
  simp (disch := omega) only [q_bn, q_ob, q_z0, q_z1, q_gd, q_cl, q_add, q_mul, q_lt, q_eq, q_eq0, q_lt0, q_0lt, q_ngl, q_ngr, q_ng0, q_ngz, q_ngn, q_ngp, q_nlt]
  exact key K 0 0 k_F (by omega) (q_kF (by omega))
/-- a guest's place in a row of talls -/
def qPlace (G : Nat) (row : qA) (g : Nat) : Nat := pPl row g (row g) G 0 0
theorem qPlace_congr {G : Nat} {v w : qA} {g : Nat} (hg : g < G) (h : ∀ j, j < G → v j = w j) : qPlace G v g = qPlace G w g := by
  unfold qPlace
  rw [h g hg]
  exact pPl_congr G 0 0 (fun j _ h2 _ => h j (by omega))
theorem M_lay_loop {τ0 : k_S} {G K g : Nat} (hG : τ0.1 2 = nI G) (hG5 : G ≤ 5) (hK : τ0.1 8 = nI K) (hK60 : K ≤ 60) (hg : g < G) (x : Int32) : ∀ (d n acc f : Nat) (r : qA), n + d = K → d < f → ∃ r', fX7_lay_c23 f (k_sA τ0 14 r) (nI g) x (nI acc) (nI n) = some (nI (pNa (fun n => nI (qPlace G (fun o => τ0.2 10 (5 * n + o)) g)) x d n acc), k_sA τ0 14 r') := by
  intro d
  induction d with
  | zero =>
    intro n acc f r h1 h2
    obtain ⟨f, rfl⟩ := q_fu 0 h2
    exact ⟨r, by rw [fX7_lay_c23_s, show (k_sA τ0 14 r).1 8 = nI K from hK, if_neg (by simp (disch := omega) only [q_bn, q_ob, q_z0, q_z1, q_gd, q_cl, q_add, q_mul, q_lt, q_eq, q_eq0, q_lt0, q_0lt, q_ngl, q_ngr, q_ng0, q_ngz, q_ngn, q_ngp, q_nlt]; omega)]; rfl⟩
  | succ d ih =>
    intro n acc f r h1 h2
    obtain ⟨f, rfl⟩ := q_fu (d + 1) h2
    have e : fX7_layNight (k_sA τ0 14 r) (nI n) = some ((), k_sA τ0 14 (pSet (fun g => τ0.2 10 (5 * n + g)) r 0 G)) := by
      have := M_layNight (τ := k_sA τ0 14 r) hG hG5 (show n < 60 by omega)
      rw [s_AA] at this
      exact this
    have ep : fX7_placeOf (k_sA τ0 14 (pSet (fun g => τ0.2 10 (5 * n + g)) r 0 G)) (nI g) = some (nI (qPlace G (fun o => τ0.2 10 (5 * n + o)) g), k_sA τ0 14 (pSet (fun g => τ0.2 10 (5 * n + g)) r 0 G)) := by
      rw [M_placeOf (τ := k_sA τ0 14 _) hG hG5 (by omega)]
      have := qPlace_congr (G := G) (v := pSet (fun g => τ0.2 10 (5 * n + g)) r 0 G) (w := fun o => τ0.2 10 (5 * n + o)) hg (fun j hj => pSet_in (Nat.zero_le j) hj)
      rw [← this]
      rfl
    obtain ⟨r', hr⟩ := ih (n + 1) (if nI (qPlace G (fun o => τ0.2 10 (5 * n + o)) g) = x then acc + 1 else acc) f (pSet (fun g => τ0.2 10 (5 * n + g)) r 0 G) (by omega) (by omega)
    refine ⟨r', ?_⟩
    rw [fX7_lay_c23_s, show (k_sA τ0 14 r).1 8 = nI K from hK, if_pos (by simp (disch := omega) only [q_bn, q_ob, q_z0, q_z1, q_gd, q_cl, q_add, q_mul, q_lt, q_eq, q_eq0, q_lt0, q_0lt, q_ngl, q_ngr, q_ng0, q_ngz, q_ngn, q_ngp, q_nlt]; omega), e]
    unfold fX7_lay_c53 pNa
    simp (disch := omega) only [q_bn, q_ob, q_z0, q_z1, q_gd, q_cl, q_add, q_mul, q_lt, q_eq, q_eq0, q_lt0, q_0lt, q_ngl, q_ngr, q_ng0, q_ngz, q_ngn, q_ngp, q_nlt]
    rw [ep]
    simp (disch := omega) only [q_bn, q_ob, q_z0, q_z1, q_gd, q_cl, q_add, q_mul, q_lt, q_eq, q_eq0, q_lt0, q_0lt, q_ngl, q_ngr, q_ng0, q_ngz, q_ngn, q_ngp, q_nlt, Nat.add_zero]
    rw [← hr]
    split <;> rfl
