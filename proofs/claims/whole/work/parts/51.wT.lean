/-! ===== a winter: the search -/
def t0 (σ : k_S) (x : Nat) : Nat := (σ.2 8 x).toNatClampNeg
def wWin (σ : k_S) (g K : Nat) (num : Nat → Int32) (q : Nat) (r : qN) (v : Nat) : Bool := decide (σ.2 6 v = nI g) && (decide (¬ pMay (σ.2 5) (σ.1 5) v (nI (toR (t0 σ v) r v q)) (laR (σ.2 9 v) K r v q) (nI (K + q)) = 0) && decide (num q < pTall (σ.2 5) (σ.2 7) v (nI (toR (t0 σ v) r v q))))
def wOk (σ : k_S) (g K N : Nat) (num : Nat → Int32) (q : Nat) (r : qN) (v : Nat) : Bool := decide (v = 10) || (decide (v < N) && wWin σ g K num q r v)
theorem wOk_10 {σ : k_S} {g K N : Nat} {num : Nat → Int32} (q : Nat) (r : qN) : wOk σ g K N num q r 10 = true := rfl
theorem wOk_in {σ : k_S} {g K N : Nat} {num : Nat → Int32} {q : Nat} {r : qN} {v : Nat} (hv : v < N) (hN : N ≤ 10) : wOk σ g K N num q r v = wWin σ g K num q r v := by
  unfold wOk
  rw [decide_eq_false (show ¬ v = 10 by omega), decide_eq_true hv, Bool.false_or, Bool.true_and]
theorem wOk_no {σ : k_S} {g K N : Nat} {num : Nat → Int32} {q : Nat} {r : qN} {v : Nat} (h1 : N ≤ v) (h2 : v < 10) : wOk σ g K N num q r v = false := by
  unfold wOk
  rw [decide_eq_false (show ¬ v = 10 by omega), decide_eq_false (show ¬ v < N by omega)]
  rfl
theorem wOk_win {σ : k_S} {g K N : Nat} {num : Nat → Int32} {q : Nat} {r : qN} {v : Nat} (h : wOk σ g K N num q r v = true) : v = 10 ∨ (v < N ∧ wWin σ g K num q r v = true) := by
  unfold wOk at h
  rw [Bool.or_eq_true, Bool.and_eq_true, decide_eq_true_iff, decide_eq_true_iff] at h
  exact h
def e10 (v : Nat) : Int32 := if v = 10 then k_ng 9 else nI v
def tW (σ S : k_S) (g n K : Nat) (num : Nat → Int32) (U : Nat → Nat) (r : qN) (q : Nat) (B : qB) : Prop :=
  kT σ S ∧ S.1 9 = nI g ∧ S.1 10 = nI n ∧ S.1 11 = encB (k_ng 1) B.1 ∧ (∀ j, j < n → S.2 17 j = num j) ∧ (∀ j, j ≤ n → S.2 18 j = nI (U j)) ∧ (∀ x, x < 10 → S.2 19 x = nI (toR (t0 σ x) r x q)) ∧ (∀ x, x < 10 → S.2 20 x = laR (σ.2 9 x) K r x q) ∧ (∀ j, j < q → S.2 21 j = e10 (r j)) ∧ (0 < B.1 → ∀ j, j < n → S.2 22 j = e10 (B.2 j))
theorem tW_back {σ S : k_S} {g n K : Nat} {num : Nat → Int32} {U : Nat → Nat} {r : qN} {q : Nat} {B : qB} (h : tW σ S g n K num U (nUp r q 10) (q + 1) B) : tW σ S g n K num U r q B := by
  obtain ⟨a1, a2, a3, a4, a5, a6, a7, a8, a9, a10⟩ := h
  refine ⟨a1, a2, a3, a4, a5, a6, fun x hx => ?_, fun x hx => ?_, fun j hj => ?_, a10⟩
  · rw [a7 x hx, toR_up, if_neg (by omega), Nat.add_zero]
  · rw [a8 x hx, laR_up, if_neg (by omega)]
  · rw [a9 j (by omega), nUp_n (by omega)]
theorem T_wins {σ S : k_S} {g n K q x : Nat} {num : Nat → Int32} {U : Nat → Nat} {r : qN} {B : qB} (h : tW σ S g n K num U r q B) (hq : q < n) (hn : n ≤ 6) (hK : σ.1 6 = nI K) (hx : x < 10) : fX5_wins S (nI x) (nI q) = some (bI (wWin σ g K num q r x), S) := by
  obtain ⟨a1, a2, a3, a4, a5, a6, a7, a8, a9, a10⟩ := h
  obtain ⟨⟨⟨b1, b2, b3, b4⟩, b5, b6, b7, -⟩, -⟩ := a1
  unfold fX5_wins wWin
  rw [q_gd (by omega) (by decide), q_gd (by omega) (by decide), q_gd (by omega) (by decide), q_cl (by omega), T_mayBeTold S hx, q_ob, q_gd (by omega) (by decide), T_tallWhenTold S hx, q_ob, q_gd (by omega) (by decide), q_cl (by omega), b6, a2, b4, hK, q_add, a7 x hx, a8 x hx, a5 q hq, b5, b7, b3]
  by_cases h1 : σ.2 6 x = nI g
  · rw [if_pos h1, decide_eq_true h1, Bool.true_and]
    by_cases h2 : pMay (σ.2 5) (σ.1 5) x (nI (toR (t0 σ x) r x q)) (laR (σ.2 9 x) K r x q) (nI (K + q)) = 0
    · rw [if_pos h2, decide_eq_false (fun h => h h2), Bool.false_and]
      rfl
    · rw [if_neg h2, decide_eq_true h2, Bool.true_and]
      by_cases h3 : num q < pTall (σ.2 5) (σ.2 7) x (nI (toR (t0 σ x) r x q))
      · rw [if_pos h3, decide_eq_true h3]; rfl
      · rw [if_neg h3, decide_eq_false h3]; rfl
  · rw [if_neg h1, decide_eq_false h1, Bool.false_and]
    rfl
-- ---- what is within reach
def sAny (p : Nat → Bool) : Nat → Nat → Bool
  | 0, _ => false
  | d + 1, x => if p x then true else sAny p d (x + 1)
theorem sAny_of {p : Nat → Bool} {y : Nat} (hy : p y = true) : ∀ (d x : Nat), x ≤ y → y < x + d → sAny p d x = true
  | 0, x, h1, h2 => by omega
  | d + 1, x, h1, h2 => by
    unfold sAny
    by_cases hx : p x = true
    · rw [if_pos hx]
    · rw [if_neg hx]
      refine sAny_of hy d (x + 1) ?_ (by omega)
      by_cases hxy : x = y
      · rw [hxy] at hx; exact absurd hy hx
      · omega
def wRp (σ : k_S) (g : Nat) (num : Nat → Int32) (q x : Nat) : Bool := decide (σ.2 6 x = nI g) && decide (num q < pTall (σ.2 5) (σ.2 7) x (nI (t0 σ x + q / 2)))
theorem T_reach {σ S : k_S} {g n N q : Nat} {num : Nat → Int32} (a1 : kT σ S) (a2 : S.1 9 = nI g) (a5 : ∀ j, j < n → S.2 17 j = num j) (a7 : ∀ x, x < 10 → S.2 19 x = nI (t0 σ x)) (hq : q < n) (hn : n ≤ 6) (hN4 : σ.1 4 = nI N) (hN : N ≤ 10) : fX5_isWithinReach S (nI q) = some (bI (sAny (wRp σ g num q) N 0), S) := by
  obtain ⟨⟨⟨b1, b2, b3, b4⟩, b5, b6, b7, -⟩, -⟩ := a1
  have key : ∀ (d x f : Nat), x + d = N → d < f → fX5_isWithinReach_c2 f S (nI q) (nI x) = some (bI (sAny (wRp σ g num q) d x), S) := by
    intro d
    induction d with
    | zero =>
      intro x f h1 h2
      obtain ⟨f, rfl⟩ := q_fu 0 h2
      rw [fX5_isWithinReach_c2_s, b2, hN4, if_neg (nI_nlt (by omega) (by omega))]
      rfl
    | succ d ih =>
      intro x f h1 h2
      obtain ⟨f, rfl⟩ := q_fu (d + 1) h2
      have hn : fX5_isWithinReach_c58 (fX5_isWithinReach_c2 f) S (nI q) (nI x) = some (bI (sAny (wRp σ g num q) d (x + 1)), S) := by
        unfold fX5_isWithinReach_c58
        rw [q_bn, q_add]
        exact ih (x + 1) f (by omega) (by omega)
      rw [fX5_isWithinReach_c2_s, b2, hN4, if_pos (nI_lt (by omega) (by omega)), q_gd (by omega) (by decide), q_gd (by omega) (by decide), q_cl (by omega), T_tallWhenTold S (by omega), q_ob, q_gd (by omega) (by decide), q_cl (by omega), hn, b6, a2, a7 x (by omega), a5 q hq, b5, b7, pk_div (by omega) (by decide) (by decide), q_add]
      show _ = some (bI (if wRp σ g num q x = true then true else sAny (wRp σ g num q) d (x + 1)), S)
      unfold wRp
      by_cases h3 : σ.2 6 x = nI g
      · rw [if_pos h3, decide_eq_true h3, Bool.true_and]
        by_cases h4 : num q < pTall (σ.2 5) (σ.2 7) x (nI (t0 σ x + q / 2))
        · rw [if_pos h4, decide_eq_true h4]; rfl
        · rw [if_neg h4, decide_eq_false h4]; rfl
      · rw [if_neg h3, decide_eq_false h3]; rfl
  unfold fX5_isWithinReach
  rw [q_bn]
  exact key N 0 k_F (by omega) (q_kF (by omega))
/-- how many nights from q on could be won at most -/
def aU (rb : Nat → Bool) : Nat → Nat → Nat
  | 0, _ => 0
  | d + 1, q => aU rb d (q + 1) + if rb q then 1 else 0
theorem aU_le (rb : Nat → Bool) : ∀ (d q : Nat), aU rb d q ≤ d
  | 0, _ => Nat.le_refl 0
  | d + 1, q => by
    unfold aU
    have := aU_le rb d (q + 1)
    split <;> omega
/-- a grown tale is told every other night at most -/
def wInv (σ : k_S) (K : Nat) (r : qN) (q : Nat) : Prop := ∀ x, x < 10 → σ.2 5 x = nI 1 → toR (t0 σ x) r x q ≤ t0 σ x + (q + 1) / 2 ∧ (¬ laR (σ.2 9 x) K r x q = nI (K + q) - nI 1 → toR (t0 σ x) r x q ≤ t0 σ x + q / 2)
theorem wWin_told {σ : k_S} {g K q v : Nat} {num : Nat → Int32} {r : qN} (hi : wInv σ K r q) (hv : v < 10) (ht : t0 σ v ≤ 300) (hq : q ≤ 6) (h : wWin σ g K num q r v = true) : σ.2 6 v = nI g ∧ num q < pTall (σ.2 5) (σ.2 7) v (nI (toR (t0 σ v) r v q)) ∧ (σ.2 5 v = nI 1 → toR (t0 σ v) r v q ≤ t0 σ v + q / 2) := by
  unfold wWin at h
  rw [Bool.and_eq_true, Bool.and_eq_true, decide_eq_true_iff, decide_eq_true_iff, decide_eq_true_iff] at h
  obtain ⟨h1, h2, h3⟩ := h
  refine ⟨h1, h3, fun hk => ?_⟩
  have hle := toR_le (t0 := t0 σ v) (x := v) (r := r) q
  by_cases h0 : toR (t0 σ v) r v q = 0
  · omega
  · refine (hi v hv hk).2 fun e => h2 ?_
    unfold pMay
    rw [if_neg (by rw [q_eq0 (by omega)]; exact h0), if_pos hk, if_pos e]
    rfl
theorem wInv_up {σ : k_S} {g K N n q v : Nat} {num : Nat → Int32} {r : qN} (hN : N ≤ 10) (ht : ∀ x, x < 10 → t0 σ x ≤ 300) (hK : K ≤ 60) (hn : n ≤ 6) (hh : ∀ x, x < N → ∃ h, h ≤ 99 ∧ σ.2 7 x = nI h) (hq : q < n) (hi : wInv σ K r q) (hv : wOk σ g K N num q r v = true) : wInv σ K (nUp r q v) (q + 1) ∧ aU (fun q => sAny (wRp σ g num q) N 0) (n - (q + 1)) (q + 1) + (if v = 10 then 0 else 1) ≤ aU (fun q => sAny (wRp σ g num q) N 0) (n - q) q := by
  have hw := wOk_win hv
  constructor
  · intro x hx hk
    rw [toR_up, laR_up]
    have h1 := hi x hx hk
    by_cases hvx : v = x
    · subst hvx
      rw [if_pos rfl, if_pos rfl]
      obtain ⟨h2, h3⟩ := hw.resolve_left (by omega)
      have := (wWin_told hi hx (ht v hx) (by omega) h3).2.2 hk
      refine ⟨by omega, fun h => absurd ?_ h⟩
      rw [q_sub (by omega), show K + (q + 1) - 1 = K + q by omega]
    · rw [if_neg hvx, if_neg hvx]
      exact ⟨by omega, fun _ => by omega⟩
  · rw [show n - q = n - (q + 1) + 1 by omega]
    show _ ≤ aU _ (n - (q + 1)) (q + 1) + if sAny (wRp σ g num q) N 0 = true then 1 else 0
    by_cases h10 : v = 10
    · rw [if_pos h10]
      omega
    · rw [if_neg h10]
      obtain ⟨h2, h3⟩ := hw.resolve_left h10
      obtain ⟨h4, h5, h6⟩ := wWin_told hi (by omega) (ht v (by omega)) (by omega) h3
      rw [if_pos]
      · exact Nat.le_refl _
      · refine sAny_of (y := v) ?_ N 0 (Nat.zero_le v) (by omega)
        unfold wRp
        rw [decide_eq_true h4, Bool.true_and, decide_eq_true_iff]
        have := ht v (by omega)
        have hle := toR_le (t0 := t0 σ v) (x := v) (r := r) q
        obtain ⟨hh, hh1, hh2⟩ := hh v h2
        unfold pTall at h5 ⊢
        by_cases hk : σ.2 5 v = nI 1
        · rw [if_pos hk, hh2, q_mul, q_add] at h5 ⊢
          have := h6 hk
          rw [Int32.lt_iff_toInt_lt, nI_toInt (by omega)] at h5 ⊢
          omega
        · rw [if_neg hk] at h5 ⊢
          exact h5
-- ---- the search, night by night
def wU (σ : k_S) (g N n : Nat) (num : Nat → Int32) (q : Nat) : Nat := aU (fun q => sAny (wRp σ g num q) N 0) (n - q) q
def wF (σ : k_S) (g K N n : Nat) (num : Nat → Int32) (d q : Nat) (r : qN) (v : Nat) (C : qB) : qB := sS (wOk σ g K N num) n d (q + 1) (nUp r q v) C
theorem T_search_loop {σ : k_S} {g n K N d q : Nat} {num : Nat → Int32} {r : qN} (fr : k_S → Int32 → Int32 → Option (Unit × k_S)) (hN4 : σ.1 4 = nI N) (hN : N ≤ 10) (hK6 : σ.1 6 = nI K) (hK : K ≤ 60) (ht : ∀ x, x < 10 → t0 σ x ≤ 300) (hh : ∀ x, x < N → ∃ h, h ≤ 99 ∧ σ.2 7 x = nI h) (hn : n ≤ 6) (hq : q < n) (hi : wInv σ K r q)
    (hfr : ∀ (r' : qN) (B : qB) (S : k_S), wInv σ K r' (q + 1) → B.1 ≤ n + 1 → tW σ S g n K num (wU σ g N n num) r' (q + 1) B → ∃ S', fr S (nI (q + 1)) (nI (wonR r' (q + 1))) = some ((), S') ∧ tW σ S' g n K num (wU σ g N n num) r' (q + 1) (sS (wOk σ g K N num) n d (q + 1) r' B)) : ∀ (e x f : Nat) (B : qB) (S : k_S), x + e = N → e < f → B.1 ≤ n + 1 → tW σ S g n K num (wU σ g N n num) r q B → ∃ S', fX5_search_c32 fr f S (nI q) (nI (wonR r q)) (nI x) = some ((), S') ∧ tW σ S' g n K num (wU σ g N n num) r q (sA (wF σ g K N n num d q r) (wOk σ g K N num q r) (11 - x) x B) := by
  have hwo := wonR_le r q
  intro e
  induction e with
  | zero =>
    intro x f B S h1 h2 hB hW
    obtain ⟨f, rfl⟩ := q_fu 0 h2
    have ex : x = N := by omega
    subst ex
    obtain ⟨a1, a2, a3, a4, a5, a6, a7, a8, a9, a10⟩ := hW
    rw [fX5_search_c32_s, a1.1.1.2.1, hN4, if_neg (nI_nlt (by omega) (by omega)), q_gd (by omega) (by decide), q_bn, s_sa, q_cl (by omega), q_add]
    have hW' : tW σ (k_sA S 21 (upd (S.2 21) q (k_ng 9))) g n K num (wU σ g x n num) (nUp r q 10) (q + 1) B := by
      refine ⟨a1.tr ⟨⟨⟨rfl, rfl, rfl, rfl⟩, rfl, rfl, rfl, rfl, rfl, rfl, rfl, rfl, rfl⟩, ⟨rfl, rfl, rfl⟩, rfl, rfl⟩, a2, a3, a4, a5, a6, fun y hy => ?_, fun y hy => ?_, fun j hj => ?_, a10⟩
      · rw [toR_up, if_neg (by omega)]; exact a7 y hy
      · rw [laR_up, if_neg (by omega)]; exact a8 y hy
      · show upd (S.2 21) q (k_ng 9) j = _
        by_cases hjq : j = q
        · subst hjq
          rw [pk_us, nUp_s]
          rfl
        · rw [pk_un hjq, nUp_n hjq]
          exact a9 j (by omega)
    have hi' := (wInv_up (g := g) (N := x) (num := num) hN ht hK hn hh hq hi (wOk_10 q r)).1
    obtain ⟨S', e1, e2⟩ := hfr (nUp r q 10) B _ hi' hB hW'
    rw [show wonR (nUp r q 10) (q + 1) = wonR r q by rw [wonR_up]; rfl] at e1
    rw [e1, q_ob]
    refine ⟨S', rfl, ?_⟩
    rw [show 11 - x = (10 - x) + 1 by omega, sA_skip (10 - x) 1 x B (fun j h3 h4 => wOk_no h3 (by omega)), show x + (10 - x) = 10 by omega, sA_s, if_pos (wOk_10 q r)]
    exact tW_back e2
  | succ e ih =>
    intro x f B S h1 h2 hB hW
    obtain ⟨f, rfl⟩ := q_fu (e + 1) h2
    have hW0 := hW
    obtain ⟨a1, a2, a3, a4, a5, a6, a7, a8, a9, a10⟩ := hW
    rw [fX5_search_c32_s, a1.1.1.2.1, hN4, if_pos (nI_lt (by omega) (by omega)), T_wins hW0 hq hn hK6 (by omega), q_ob, q_bi, show 11 - x = (11 - (x + 1)) + 1 by omega, sA_s, wOk_in (by omega) hN]
    by_cases hw : wWin σ g K num q r x = true
    · have hok : wOk σ g K N num q r x = true := by rw [wOk_in (by omega) hN]; exact hw
      have hi' := (wInv_up (g := g) (N := N) (num := num) hN ht hK hn hh hq hi hok).1
      have hto : toR (t0 σ x) r x q ≤ 306 := by
        have := toR_le (t0 := t0 σ x) (x := x) (r := r) q
        have := ht x (by omega)
        omega
      rw [if_pos hw, if_pos hw, q_gd (by omega) (by decide), q_bn, q_gd (by omega) (by decide), q_gd (by omega) (by decide), q_cl (by omega), a7 x (by omega), q_add, q_bn, s_sa, q_cl (by omega), q_gd (by omega) (by decide), q_bn, s_sa, q_cl (by omega), q_gd (by omega) (by decide), q_bn, s_sa, q_cl (by omega), q_add, q_add]
      rw [show (k_sA S 19 (upd (S.2 19) x (nI (toR (t0 σ x) r x q + 1)))).1 6 = nI K from (a1.1.1.2.2.2).trans hK6, q_add]
      let S1 : k_S := k_sA S 19 (upd (S.2 19) x (nI (toR (t0 σ x) r x q + 1)))
      let S2 : k_S := k_sA S1 20 (upd (S1.2 20) x (nI (K + q)))
      let S3 : k_S := k_sA S2 21 (upd (S2.2 21) q (nI x))
      have hW' : tW σ S3 g n K num (wU σ g N n num) (nUp r q x) (q + 1) B := by
        refine ⟨a1.tr ⟨⟨⟨rfl, rfl, rfl, rfl⟩, rfl, rfl, rfl, rfl, rfl, rfl, rfl, rfl, rfl⟩, ⟨rfl, rfl, rfl⟩, rfl, rfl⟩, a2, a3, a4, a5, a6, fun y hy => ?_, fun y hy => ?_, fun j hj => ?_, a10⟩
        · show upd (S.2 19) x (nI (toR (t0 σ x) r x q + 1)) y = _
          rw [toR_up]
          by_cases hyx : y = x
          · subst hyx
            rw [pk_us, if_pos rfl]
          · rw [pk_un hyx, if_neg (fun h => hyx h.symm)]; exact a7 y hy
        · show upd (S.2 20) x (nI (K + q)) y = _
          rw [laR_up]
          by_cases hyx : y = x
          · subst hyx
            rw [pk_us, if_pos rfl]
          · rw [pk_un hyx, if_neg (fun h => hyx h.symm)]; exact a8 y hy
        · show upd (S.2 21) q (nI x) j = _
          by_cases hjq : j = q
          · subst hjq
            rw [pk_us, nUp_s]
            unfold e10
            rw [if_neg (by omega)]
          · rw [pk_un hjq, nUp_n hjq]
            exact a9 j (by omega)
      obtain ⟨S', e1, e2⟩ := hfr (nUp r q x) B S3 hi' hB hW'
      rw [wonR_up, if_neg (by omega)] at e1
      show ∃ S', k_ob (fr S3 (nI (q + 1)) (nI (wonR r q + 1))) _ = _ ∧ _
      have hB' := (sS_le (ok := wOk σ g K N num) (n := n) d (q + 1) (nUp r q x) B hB).1
      obtain ⟨c1, c2, c3, c4, c5, c6, c7, c8, c9, c10⟩ := e2
      have c7x : S'.2 19 x = nI (toR (t0 σ x) r x q + 1) := by rw [c7 x (by omega), toR_up, if_pos rfl]
      rw [e1, q_ob, q_gd (by omega) (by decide), q_gd (by omega) (by decide), c7x, q_sub (by omega), q_bn, s_sa, q_cl (by omega), q_gd (by omega) (by decide), q_bn, s_sa, q_cl (by omega)]
      unfold fX5_search_c123
      rw [q_bn, q_add]
      refine ih (x + 1) f _ _ (by omega) (by omega) hB' ⟨c1.tr ⟨⟨⟨rfl, rfl, rfl, rfl⟩, rfl, rfl, rfl, rfl, rfl, rfl, rfl, rfl, rfl⟩, ⟨rfl, rfl, rfl⟩, rfl, rfl⟩, c2, c3, c4, c5, c6, fun y hy => ?_, fun y hy => ?_, fun j hj => ?_, c10⟩
      · show upd (S'.2 19) x _ y = _
        by_cases hyx : y = x
        · subst hyx
          rw [pk_us, show toR (t0 σ y) r y q + 1 - 1 = toR (t0 σ y) r y q by omega]
        · rw [pk_un hyx, c7 y hy, toR_up, if_neg (fun h => hyx h.symm), Nat.add_zero]
      · show upd (S'.2 20) x (S.2 20 x) y = _
        by_cases hyx : y = x
        · subst hyx
          rw [pk_us]; exact a8 y hy
        · rw [pk_un hyx, c8 y hy, laR_up, if_neg (fun h => hyx h.symm)]
      · show S'.2 21 j = _
        rw [c9 j (by omega), nUp_n (by omega)]
    · rw [if_neg hw, if_neg hw]
      unfold fX5_search_c123
      rw [q_bn, q_add]
      exact ih (x + 1) f B S (by omega) (by omega) hB hW0
theorem T_search {σ : k_S} {g n K N : Nat} {num : Nat → Int32} (hN4 : σ.1 4 = nI N) (hN : N ≤ 10) (hK6 : σ.1 6 = nI K) (hK : K ≤ 60) (ht : ∀ x, x < 10 → t0 σ x ≤ 300) (hh : ∀ x, x < N → ∃ h, h ≤ 99 ∧ σ.2 7 x = nI h) (hn : n ≤ 6) : ∀ (d q fu : Nat) (r : qN) (B : qB) (S : k_S), q + d = n → d < fu → wInv σ K r q → B.1 ≤ n + 1 → tW σ S g n K num (wU σ g N n num) r q B → ∃ S', fX5_search fu S (nI q) (nI (wonR r q)) = some ((), S') ∧ tW σ S' g n K num (wU σ g N n num) r q (sS (wOk σ g K N num) n d q r B) := by
  intro d
  induction d with
  | zero =>
    intro q fu r B S h1 h2 hi hB hW
    obtain ⟨fu, rfl⟩ := q_fu 0 h2
    have eq : q = n := by omega
    subst eq
    have hwo := wonR_le r q
    obtain ⟨a1, a2, a3, a4, a5, a6, a7, a8, a9, a10⟩ := hW
    rw [fX5_search_s]
    show ∃ S', (if nI q < S.1 10 then _ else _) = _ ∧ tW _ _ _ _ _ _ _ _ _ (sLeaf q r B)
    rw [a3, if_neg (nI_nlt (Nat.le_refl q) (by omega))]
    unfold fX5_keep sLeaf
    rw [a4]
    by_cases hlt : B.1 < wonR r q + 1
    · rw [if_pos hlt, if_pos (show encB (k_ng 1) B.1 < nI (wonR r q) by rw [encB_lt (by decide) (by decide) (by omega) (by omega)]; exact hlt), q_bn]
      unfold k_gc
      simp (disch := omega) only [q_bn, q_ob, q_z0, q_z1, q_gd, q_cl, q_add, q_mul, q_lt, q_eq, q_eq0, q_lt0, q_0lt, q_ngl, q_ngr, q_ng0, q_ngz, q_ngn, q_ngp, q_nlt, s_sc]
      rw [if_neg (by simp only [false_or]; omega), q_ob]
      refine ⟨_, rfl, a1.tr ⟨⟨⟨rfl, rfl, rfl, rfl⟩, rfl, rfl, rfl, rfl, rfl, rfl, rfl, rfl, rfl⟩, ⟨rfl, rfl, rfl⟩, rfl, rfl⟩, a2, a3, ?_, a5, a6, a7, a8, a9, fun _ j hj => ?_⟩
      · show nI (wonR r q) = encB (k_ng 1) (wonR r q + 1)
        unfold encB
        rw [if_neg (by omega), Nat.add_sub_cancel]
      · show va_cpy (S.2 21) (S.2 22) 0 0 6 j = e10 (r j)
        unfold va_cpy
        rw [if_pos (by omega), Nat.zero_add, Nat.sub_zero]
        exact a9 j hj
    · rw [if_neg hlt, if_neg (show ¬ encB (k_ng 1) B.1 < nI (wonR r q) by rw [encB_lt (by decide) (by decide) (by omega) (by omega)]; exact hlt), q_ob]
      exact ⟨S, rfl, a1, a2, a3, a4, a5, a6, a7, a8, a9, a10⟩
  | succ d ih =>
    intro q fu r B S h1 h2 hi hB hW
    obtain ⟨fu, rfl⟩ := q_fu (d + 1) h2
    have hwo := wonR_le r q
    have hW0 := hW
    obtain ⟨a1, a2, a3, a4, a5, a6, a7, a8, a9, a10⟩ := hW
    have hUle : wU σ g N n num q ≤ n - q := aU_le _ _ _
    rw [fX5_search_s]
    show ∃ S', (if nI q < S.1 10 then _ else _) = _ ∧ _
    rw [a3, if_pos (nI_lt (by omega) (by omega)), q_gd (by omega) (by decide), q_cl (by omega), a4, a6 q (by omega), q_add]
    by_cases hlt : B.1 < wonR r q + wU σ g N n num q + 1
    · rw [if_pos (show encB (k_ng 1) B.1 < nI (wonR r q + wU σ g N n num q) by rw [encB_lt (by decide) (by decide) (by omega) (by omega)]; exact hlt), q_bn]
      exact T_search_loop (d := d) (fX5_search fu) hN4 hN hK6 hK ht hh hn (by omega) hi (fun r' B' S' hi' hB' hW' => ih (q + 1) fu r' B' S' (by omega) (by omega) hi' hB' hW') N 0 k_F B S (by omega) (q_kF (by omega)) hB hW0
    · rw [if_neg (show ¬ encB (k_ng 1) B.1 < nI (wonR r q + wU σ g N n num q) by rw [encB_lt (by decide) (by decide) (by omega) (by omega)]; exact hlt)]
      refine ⟨S, rfl, ?_⟩
      rw [sS_keep (U := wU σ g N n num) (Good := fun r q => wInv σ K r q) (fun q r v hq hi hv => wInv_up hN ht hK hn hh hq hi hv) (d + 1) q r B h1 hi (by omega)]
      exact hW0
def wBest (σ : k_S) (g K N n : Nat) (num : Nat → Int32) : qB := sS (wOk σ g K N num) n n 0 (fun _ => 0) (0, fun _ => 0)
theorem T_find {σ : k_S} {g n K N : Nat} {num : Nat → Int32} (hN4 : σ.1 4 = nI N) (hN : N ≤ 10) (hK6 : σ.1 6 = nI K) (hK : K ≤ 60) (ht : ∀ x, x < 10 → t0 σ x ≤ 300 ∧ σ.2 8 x = nI (t0 σ x)) (hh : ∀ x, x < N → ∃ h, h ≤ 99 ∧ σ.2 7 x = nI h) (hn : n ≤ 6) (hnum : ∀ j, j < n → σ.2 17 j = num j) : ∃ S', fX5_find σ (nI g) (nI n) = some ((), S') ∧ kT σ S' ∧ S'.1 11 = encB (k_ng 1) (wBest σ g K N n num).1 ∧ (0 < (wBest σ g K N n num).1 → ∀ j, j < n → S'.2 22 j = e10 ((wBest σ g K N n num).2 j)) := by
  have ht1 : ∀ x, x < 10 → t0 σ x ≤ 300 := fun x hx => (ht x hx).1
  have key : ∀ (q f : Nat) (S : k_S), q ≤ n → q < f → kT σ S → S.1 9 = nI g → S.1 10 = nI n → S.1 11 = k_ng 1 → (∀ j, j < n → S.2 17 j = num j) → (∀ j, q ≤ j → j ≤ n → S.2 18 j = nI (wU σ g N n num j)) → (∀ x, x < 10 → S.2 19 x = nI (t0 σ x)) → (∀ x, x < 10 → S.2 20 x = σ.2 9 x) → ∃ S', fX5_find_c62 f S (q1m q) = some ((), S') ∧ kT σ S' ∧ S'.1 11 = encB (k_ng 1) (wBest σ g K N n num).1 ∧ (0 < (wBest σ g K N n num).1 → ∀ j, j < n → S'.2 22 j = e10 ((wBest σ g K N n num).2 j)) := by
    intro q
    induction q with
    | zero =>
      intro f S h1 h2 a1 a2 a3 a4 a5 a6 a7 a8
      obtain ⟨f, rfl⟩ := q_fu 0 h2
      rw [fX5_find_c62_s, if_pos (show q1m 0 < 0 by decide)]
      obtain ⟨S', e1, e2⟩ := T_search (σ := σ) (g := g) (num := num) hN4 hN hK6 hK ht1 hh hn n 0 10 (fun _ => 0) (0, fun _ => 0) S (by omega) (by omega) (fun x hx _ => ⟨Nat.le_add_right _ _, fun _ => Nat.le_add_right _ _⟩) (Nat.zero_le _) ⟨a1, a2, a3, a4, a5, fun j hj => a6 j (Nat.zero_le j) hj, a7, a8, fun j hj => by omega, fun h => absurd h (by decide)⟩
      have e1 : fX5_search 10 S (nI 0) (nI 0) = some ((), S') := e1
      rw [e1, q_ob]
      obtain ⟨b1, b2, b3, b4, b5, b6, b7, b8, b9, b10⟩ := e2
      exact ⟨S', rfl, b1, b4, b10⟩
    | succ q ih =>
      intro f S h1 h2 a1 a2 a3 a4 a5 a6 a7 a8
      obtain ⟨f, rfl⟩ := q_fu (q + 1) h2
      rw [fX5_find_c62_s, show q1m (q + 1) = nI q from rfl, if_neg (nI_pos (by omega)), q_add, q_gd (by omega) (by decide), q_cl (by omega), T_reach (n := n) (num := num) a1 a2 a5 a7 (by omega) hn hN4 hN, q_ob, q_bi, a6 (q + 1) (Nat.le_refl _) h1]
      have hU : ∀ b : Bool, sAny (wRp σ g num q) N 0 = b → wU σ g N n num q = wU σ g N n num (q + 1) + if b = true then 1 else 0 := fun b hb => by
        unfold wU
        rw [show n - q = n - (q + 1) + 1 by omega, ← hb]
        rfl
      have go : ∀ b : Bool, sAny (wRp σ g num q) N 0 = b → ∃ S', fX5_find_c92 (fX5_find_c62 f) S (nI q) (nI q) (nI (wU σ g N n num (q + 1))) (nI (if b = true then 1 else 0)) = some ((), S') ∧ kT σ S' ∧ S'.1 11 = encB (k_ng 1) (wBest σ g K N n num).1 ∧ (0 < (wBest σ g K N n num).1 → ∀ j, j < n → S'.2 22 j = e10 ((wBest σ g K N n num).2 j)) := fun b hb => by
        unfold fX5_find_c92
        rw [q_gd (by omega) (by decide), q_add, q_bn, s_sa, q_cl (by omega), q_bn, q1m_s, ← hU b hb]
        refine ih f _ (by omega) (by omega) (a1.tr ⟨⟨⟨rfl, rfl, rfl, rfl⟩, rfl, rfl, rfl, rfl, rfl, rfl, rfl, rfl, rfl⟩, ⟨rfl, rfl, rfl⟩, rfl, rfl⟩) a2 a3 a4 a5 (fun j h3 h4 => ?_) a7 a8
        show upd (S.2 18) q _ j = _
        by_cases hjq : j = q
        · subst hjq
          exact pk_us
        · rw [pk_un hjq]
          exact a6 j (by omega) h4
      cases hb : sAny (wRp σ g num q) N 0 with
      | true => rw [if_pos rfl]; exact go true hb
      | false => rw [if_neg (show ¬ false = true by decide)]; exact go false hb
  unfold fX5_find k_gc
  simp (disch := omega) only [q_bn, q_ob, q_z0, q_z1, q_gd, q_cl, q_add, q_mul, q_lt, q_eq, q_eq0, q_lt0, q_0lt, q_ngl, q_ngr, q_ng0, q_ngz, q_ngn, q_ngp, q_nlt, s_sc]
  rw [if_neg (by simp only [false_or]; omega)]
  obtain ⟨S', e⟩ := key n k_F (k_sA (k_sA (k_sA (k_sf (k_sf (k_sf σ 9 (nI g)) 10 (nI n)) 11 (k_ng 1)) 19 (va_cpy (σ.2 8) (σ.2 19) 0 0 10)) 20 (va_cpy (σ.2 9) (σ.2 20) 0 0 10)) 18 (upd (σ.2 18) n (nI 0))) (Nat.le_refl n) (q_kF (by omega)) ⟨⟨⟨rfl, rfl, rfl, rfl⟩, rfl, rfl, rfl, rfl, rfl, rfl, rfl, rfl, rfl⟩, ⟨rfl, rfl, rfl⟩, rfl, rfl⟩ rfl rfl rfl hnum (fun j h1 h2 => by
    have e : j = n := by omega
    subst e
    show upd (σ.2 18) j (nI 0) j = _
    rw [pk_us]
    unfold wU
    rw [Nat.sub_self]
    rfl) (fun x hx => by
    show va_cpy (σ.2 8) (σ.2 19) 0 0 10 x = _
    unfold va_cpy
    rw [if_pos (by omega), Nat.zero_add, Nat.sub_zero]
    exact (ht x hx).2) (fun x hx => by
    show va_cpy (σ.2 9) (σ.2 20) 0 0 10 x = _
    unfold va_cpy
    rw [if_pos (by omega), Nat.zero_add, Nat.sub_zero])
  have q1n : nI n - nI 1 = q1m n := by
    cases n with
    | zero => decide
    | succ n => exact q_sub (by omega)
  rw [q1n, s_sa, q_cl (by omega)]
  exact ⟨S', e⟩
