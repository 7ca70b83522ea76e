/-! ===== a winter: the search -/
def t0 (σ : k_S) (x : Nat) : Nat := (σ.2 8 x).toNatClampNeg
def wWin (σ : k_S) (g K : Nat) (num : Nat → Int32) (q : Nat) (r : qN) (v : Nat) : Bool := decide (σ.2 6 v = nI g) && (decide (¬ pMay (σ.2 5) (σ.1 5) v (nI (toR (t0 σ v) r v q)) (laR (σ.2 9 v) K r v q) (nI (K + q)) = 0) && decide (num q < pTall (σ.2 5) (σ.2 7) v (nI (toR (t0 σ v) r v q))))
def wOk (σ : k_S) (g K N : Nat) (num : Nat → Int32) (q : Nat) (r : qN) (v : Nat) : Bool := decide (v = 10) || (decide (v < N) && wWin σ g K num q r v)
theorem wOk_10 {σ : k_S} {g K N : Nat} {num : Nat → Int32} (q : Nat) (r : qN) : wOk σ g K N num q r 10 = true := rfl
theorem wOk_in {σ : k_S} {g K N : Nat} {num : Nat → Int32} {q : Nat} {r : qN} {v : Nat} (hv : v < N) (hN : N ≤ 10) : wOk σ g K N num q r v = wWin σ g K num q r v := by
  unfold wOk
  rw [decide_eq_false (show ¬ v = 10 by omega), decide_eq_true hv, Bool.false_or, Bool.true_and]
theorem wOk_no {σ : k_S} {g K N : Nat} {num : Nat → Int32} {q : Nat} {r : qN} {v : Nat} (h1 : N ≤ v) (h2 : v < 10) : wOk σ g K N num q r v = false := by
  unfold wOk
  rw [decide_eq_false (show ¬ v = 10 by omega), decide_eq_false (show ¬ v < N by omega)]
  rfl
theorem wOk_win {σ : k_S} {g K N : Nat} {num : Nat → Int32} {q : Nat} {r : qN} {v : Nat} (h : wOk σ g K N num q r v = true) : v = 10 ∨ (v < N ∧ wWin σ g K num q r v = true) := by
  unfold wOk at h
  rw [Bool.or_eq_true, Bool.and_eq_true, decide_eq_true_iff, decide_eq_true_iff] at h
  exact h
def e10 (v : Nat) : Int32 := if v = 10 then k_ng 9 else nI v
def tW (σ S : k_S) (g n K : Nat) (num : Nat → Int32) (U : Nat → Nat) (r : qN) (q : Nat) (B : qB) : Prop :=
  kT σ S ∧ S.1 9 = nI g ∧ S.1 10 = nI n ∧ S.1 11 = encB (k_ng 1) B.1 ∧ (∀ j, j < n → S.2 17 j = num j) ∧ (∀ j, j ≤ n → S.2 18 j = nI (U j)) ∧ (∀ x, x < 10 → S.2 19 x = nI (toR (t0 σ x) r x q)) ∧ (∀ x, x < 10 → S.2 20 x = laR (σ.2 9 x) K r x q) ∧ (∀ j, j < q → S.2 21 j = e10 (r j)) ∧ (0 < B.1 → ∀ j, j < n → S.2 22 j = e10 (B.2 j))
theorem tW_back {σ S : k_S} {g n K : Nat} {num : Nat → Int32} {U : Nat → Nat} {r : qN} {q : Nat} {B : qB} (h : tW σ S g n K num U (nUp r q 10) (q + 1) B) : tW σ S g n K num U r q B := by
  obtain ⟨a1, a2, a3, a4, a5, a6, a7, a8, a9, a10⟩ := h
  refine ⟨a1, a2, a3, a4, a5, a6, fun x hx => ?_, fun x hx => ?_, fun j hj => ?_, a10⟩
  · rw [a7 x hx, toR_up, if_neg (by omega), Nat.add_zero]
  · rw [a8 x hx, laR_up, if_neg (by omega)]
  · rw [a9 j (by omega), nUp_n (by omega)]
theorem T_wins {σ S : k_S} {g n K N q x : Nat} {num : Nat → Int32} {U : Nat → Nat} {r : qN} {B : qB} (h : tW σ S g n K num U r q B) (hq : q < n) (hn : n ≤ 6) (hK : σ.1 6 = nI K) (hx : x < 10) : fX5_wins S (nI x) (nI q) = some (bI (wWin σ g K num q r x), S) := by
  obtain ⟨a1, a2, a3, a4, a5, a6, a7, a8, a9, a10⟩ := h
  obtain ⟨⟨⟨b1, b2, b3, b4⟩, b5, b6, b7, -⟩, -⟩ := a1
  unfold fX5_wins wWin
  rw [q_gd (by omega) (by decide), q_gd (by omega) (by decide), q_gd (by omega) (by decide), q_cl (by omega), T_mayBeTold S hx, q_ob, q_gd (by omega) (by decide), T_tallWhenTold S hx, q_ob, q_gd (by omega) (by decide), q_cl (by omega), b6, a2, b4, hK, q_add, a7 x hx, a8 x hx, a5 q hq, b5, b7, b3]
  by_cases h1 : σ.2 6 x = nI g
  · rw [if_pos h1, decide_eq_true h1, Bool.true_and]
    by_cases h2 : pMay (σ.2 5) (σ.1 5) x (nI (toR (t0 σ x) r x q)) (laR (σ.2 9 x) K r x q) (nI (K + q)) = 0
    · rw [if_pos h2, decide_eq_false (fun h => h h2), Bool.false_and]
      rfl
    · rw [if_neg h2, decide_eq_true h2, Bool.true_and]
      by_cases h3 : num q < pTall (σ.2 5) (σ.2 7) x (nI (toR (t0 σ x) r x q))
      · rw [if_pos h3, decide_eq_true h3]; rfl
      · rw [if_neg h3, decide_eq_false h3]; rfl
  · rw [if_neg h1, decide_eq_false h1, Bool.false_and]
    rfl
-- ---- what is within reach
def sAny (p : Nat → Bool) : Nat → Nat → Bool
  | 0, _ => false
  | d + 1, x => if p x then true else sAny p d (x + 1)
theorem sAny_of {p : Nat → Bool} {y : Nat} (hy : p y = true) : ∀ (d x : Nat), x ≤ y → y < x + d → sAny p d x = true
  | 0, x, h1, h2 => by omega
  | d + 1, x, h1, h2 => by
    unfold sAny
    by_cases hx : p x = true
    · rw [if_pos hx]
    · rw [if_neg hx]
      refine sAny_of hy d (x + 1) ?_ (by omega)
      by_cases hxy : x = y
      · rw [hxy] at hx; exact absurd hy hx
      · omega
def wRp (σ : k_S) (g : Nat) (num : Nat → Int32) (q x : Nat) : Bool := decide (σ.2 6 x = nI g) && decide (num q < pTall (σ.2 5) (σ.2 7) x (nI (t0 σ x + q / 2)))
theorem T_reach {σ S : k_S} {g n N q : Nat} {num : Nat → Int32} (a1 : kT σ S) (a2 : S.1 9 = nI g) (a5 : ∀ j, j < n → S.2 17 j = num j) (a7 : ∀ x, x < 10 → S.2 19 x = nI (t0 σ x)) (hq : q < n) (hn : n ≤ 6) (hN4 : σ.1 4 = nI N) (hN : N ≤ 10) : fX5_isWithinReach S (nI q) = some (bI (sAny (wRp σ g num q) N 0), S) := by
  obtain ⟨⟨⟨b1, b2, b3, b4⟩, b5, b6, b7, -⟩, -⟩ := a1
  have key : ∀ (d x f : Nat), x + d = N → d < f → fX5_isWithinReach_c2 f S (nI q) (nI x) = some (bI (sAny (wRp σ g num q) d x), S) := by
    intro d
    induction d with
    | zero =>
      intro x f h1 h2
      obtain ⟨f, rfl⟩ := q_fu 0 h2
      rw [fX5_isWithinReach_c2_s, b2, hN4, if_neg (nI_nlt (by omega) (by omega))]
      rfl
    | succ d ih =>
      intro x f h1 h2
      obtain ⟨f, rfl⟩ := q_fu (d + 1) h2
      have hn : fX5_isWithinReach_c58 (fX5_isWithinReach_c2 f) S (nI q) (nI x) = some (bI (sAny (wRp σ g num q) d (x + 1)), S) := by
        unfold fX5_isWithinReach_c58
        rw [q_bn, q_add]
        exact ih (x + 1) f (by omega) (by omega)
      rw [fX5_isWithinReach_c2_s, b2, hN4, if_pos (nI_lt (by omega) (by omega)), q_gd (by omega) (by decide), q_gd (by omega) (by decide), q_cl (by omega), T_tallWhenTold S (by omega), q_ob, q_gd (by omega) (by decide), q_cl (by omega), hn, b6, a2, a7 x (by omega), a5 q hq, b5, b7, pk_div (by omega) (by decide) (by decide), q_add]
      show _ = some (bI (if wRp σ g num q x = true then true else sAny (wRp σ g num q) d (x + 1)), S)
      unfold wRp
      by_cases h3 : σ.2 6 x = nI g
      · rw [if_pos h3, decide_eq_true h3, Bool.true_and]
        by_cases h4 : num q < pTall (σ.2 5) (σ.2 7) x (nI (t0 σ x + q / 2))
        · rw [if_pos h4, decide_eq_true h4]; rfl
        · rw [if_neg h4, decide_eq_false h4]; rfl
      · rw [if_neg h3, decide_eq_false h3]; rfl
  unfold fX5_isWithinReach
  rw [q_bn]
  exact key N 0 k_F (by omega) (q_kF (by omega))
/-- how many nights from q on could be won at most -/
def aU (rb : Nat → Bool) : Nat → Nat → Nat
  | 0, _ => 0
  | d + 1, q => aU rb d (q + 1) + if rb q then 1 else 0
theorem aU_le (rb : Nat → Bool) : ∀ (d q : Nat), aU rb d q ≤ d
  | 0, _ => Nat.le_refl 0
  | d + 1, q => by
    unfold aU
    have := aU_le rb d (q + 1)
    split <;> omega
/-- a grown tale is told every other night at most -/
def wInv (σ : k_S) (K : Nat) (r : qN) (q : Nat) : Prop := ∀ x, x < 10 → σ.2 5 x = nI 1 → toR (t0 σ x) r x q ≤ t0 σ x + (q + 1) / 2 ∧ (¬ laR (σ.2 9 x) K r x q = nI (K + q) - nI 1 → toR (t0 σ x) r x q ≤ t0 σ x + q / 2)
theorem wWin_told {σ : k_S} {g K q v : Nat} {num : Nat → Int32} {r : qN} (hi : wInv σ K r q) (hv : v < 10) (ht : t0 σ v ≤ 300) (hq : q ≤ 6) (h : wWin σ g K num q r v = true) : σ.2 6 v = nI g ∧ num q < pTall (σ.2 5) (σ.2 7) v (nI (toR (t0 σ v) r v q)) ∧ (σ.2 5 v = nI 1 → toR (t0 σ v) r v q ≤ t0 σ v + q / 2) := by
  unfold wWin at h
  rw [Bool.and_eq_true, Bool.and_eq_true, decide_eq_true_iff, decide_eq_true_iff, decide_eq_true_iff] at h
  obtain ⟨h1, h2, h3⟩ := h
  refine ⟨h1, h3, fun hk => ?_⟩
  have hle := toR_le (t0 := t0 σ v) (x := v) (r := r) q
  by_cases h0 : toR (t0 σ v) r v q = 0
  · omega
  · refine (hi v hv hk).2 fun e => h2 ?_
    unfold pMay
    rw [if_neg (by rw [q_eq0 (by omega)]; exact h0), if_pos hk, if_pos e]
    rfl
theorem wInv_up {σ : k_S} {g K N n q v : Nat} {num : Nat → Int32} {r : qN} (hN : N ≤ 10) (ht : ∀ x, x < 10 → t0 σ x ≤ 300) (hK : K ≤ 60) (hn : n ≤ 6) (hh : ∀ x, x < N → ∃ h, h ≤ 99 ∧ σ.2 7 x = nI h) (hq : q < n) (hi : wInv σ K r q) (hv : wOk σ g K N num q r v = true) : wInv σ K (nUp r q v) (q + 1) ∧ aU (fun q => sAny (wRp σ g num q) N 0) (n - (q + 1)) (q + 1) + (if v = 10 then 0 else 1) ≤ aU (fun q => sAny (wRp σ g num q) N 0) (n - q) q := by
  have hw := wOk_win hv
  constructor
  · intro x hx hk
    rw [toR_up, laR_up]
    have h1 := hi x hx hk
    by_cases hvx : v = x
    · subst hvx
      rw [if_pos rfl, if_pos rfl]
      obtain ⟨h2, h3⟩ := hw.resolve_left (by omega)
      have := (wWin_told hi hx (ht v hx) (by omega) h3).2.2 hk
      refine ⟨by omega, fun h => absurd ?_ h⟩
      rw [q_sub (by omega), show K + (q + 1) - 1 = K + q by omega]
    · rw [if_neg hvx, if_neg hvx]
      exact ⟨by omega, fun _ => by omega⟩
  · rw [show n - q = n - (q + 1) + 1 by omega]
    show _ ≤ aU _ (n - (q + 1)) (q + 1) + if sAny (wRp σ g num q) N 0 = true then 1 else 0
    by_cases h10 : v = 10
    · rw [if_pos h10]
      omega
    · rw [if_neg h10]
      obtain ⟨h2, h3⟩ := hw.resolve_left h10
      obtain ⟨h4, h5, h6⟩ := wWin_told hi (by omega) (ht v (by omega)) (by omega) h3
      rw [if_pos]
      · exact Nat.le_refl _
      · refine sAny_of (y := v) ?_ N 0 (Nat.zero_le v) (by omega)
        unfold wRp
        rw [decide_eq_true h4, Bool.true_and, decide_eq_true_iff]
        have := ht v (by omega)
        have hle := toR_le (t0 := t0 σ v) (x := v) (r := r) q
        obtain ⟨hh, hh1, hh2⟩ := hh v h2
        unfold pTall at h5 ⊢
        by_cases hk : σ.2 5 v = nI 1
        · rw [if_pos hk, hh2, q_mul, q_add] at h5 ⊢
          have := h6 hk
          rw [Int32.lt_iff_toInt_lt, nI_toInt (by omega)] at h5 ⊢
          omega
        · rw [if_neg hk] at h5 ⊢
          exact h5
