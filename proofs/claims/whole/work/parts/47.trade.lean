/-! ===== trades; what one can have told ===== -/
def qTl (σ : k_S) (x : Nat) : Nat := (tTall σ x).toNatClampNeg
theorem RH.tl {σ τ : k_S} {G N m K : Nat} (h : RH σ τ G N m K) {x : Nat} (hx : x < N) : tTall σ x = nI (qTl σ x) ∧ 1 ≤ qTl σ x ∧ qTl σ x ≤ 5000 := by
  obtain ⟨t, h1, h2, h3⟩ := h.tallN hx
  unfold qTl
  rw [h3, q_cl (by omega)]
  exact ⟨rfl, h1, h2⟩
def sMost (own may : Nat → Bool) (tl : Nat → Nat) : Nat → Nat → Nat → Nat
  | 0, _, acc => acc
  | d + 1, x, acc => sMost own may tl d (x + 1) (if own x then acc else if may x then (if acc < tl x then tl x else acc) else acc)
def sCnt (own may : Nat → Bool) (tl : Nat → Nat) (most : Nat) : Nat → Nat → Nat → Nat
  | 0, _, acc => acc
  | d + 1, x, acc => sCnt own may tl most d (x + 1) (if own x then (if may x then (if most < tl x then acc + 1 else acc) else acc) else acc)
theorem sMost_le {own may : Nat → Bool} {tl : Nat → Nat} {N : Nat} (ht : ∀ x, x < N → tl x ≤ 5000) : ∀ (d x acc : Nat), x + d ≤ N → acc ≤ 5000 → sMost own may tl d x acc ≤ 5000
  | 0, _, _, _, h => h
  | d + 1, x, acc, h1, h => by
    unfold sMost
    refine sMost_le ht d (x + 1) _ (by omega) ?_
    have := ht x (by omega)
    repeat' split
    all_goals omega
def qOwn (ow : Nat → Int32) (g : Nat) (x : Nat) : Bool := decide (ow x = nI g)
def qMayB (σ : k_S) (x : Nat) : Bool := decide (¬ tMay σ x = 0)
/-- whose each is behind a trade -/
def qOA (ow : Nat → Int32) (x y t : Nat) : Int32 := if t = x then ow y else if t = y then ow x else ow t
theorem T_owner {σ : k_S} {t x y : Nat} (ht : t < 10) (hx : x < 10) (hy : y < 10) : fX0_ownerAfter σ (nI t) (nI x) (nI y) = some (qOA (σ.2 6) x y t, σ) := by
  unfold fX0_ownerAfter qOA
  simp (disch := omega) only [q_bn, q_ob, q_z0, q_z1, q_gd, q_cl, q_add, q_mul, q_lt, q_eq, q_eq0, q_lt0, q_0lt, q_ngl, q_ngr, q_ng0, q_ngz, q_ngn, q_ngp, q_nlt]
  repeat' split
  all_goals rfl
theorem T_strong {σ : k_S} {N g x y : Nat} (hN4 : σ.1 4 = nI N) (hN : N ≤ 10) (hx : x < 10) (hy : y < 10) (htl : ∀ t, t < N → tTall σ t = nI (qTl σ t) ∧ 1 ≤ qTl σ t ∧ qTl σ t ≤ 5000) : fX0_strongAfter σ (nI g) (nI x) (nI y) = some (nI (sCnt (qOwn (qOA (σ.2 6) x y) g) (qMayB σ) (qTl σ) (sMost (qOwn (qOA (σ.2 6) x y) g) (qMayB σ) (qTl σ) N 0 0) N 0 0), σ) := by
  have k2 : ∀ (d t f acc most : Nat), t + d = N → d < f → most ≤ 5000 → fX0_strongAfter_c61 f σ (nI g) (nI x) (nI y) (nI most) (nI acc) (nI t) = some (nI (sCnt (qOwn (qOA (σ.2 6) x y) g) (qMayB σ) (qTl σ) most d t acc), σ) := by
    intro d
    induction d with
    | zero =>
      intro t f acc most h1 h2 _
      obtain ⟨f, rfl⟩ := q_fu 0 h2
      rw [fX0_strongAfter_c61_s, hN4, if_neg (by simp (disch := omega) only [q_bn, q_ob, q_z0, q_z1, q_gd, q_cl, q_add, q_mul, q_lt, q_eq, q_eq0, q_lt0, q_0lt, q_ngl, q_ngr, q_ng0, q_ngz, q_ngn, q_ngp, q_nlt]; omega)]
      rfl
    | succ d ih =>
      intro t f acc most h1 h2 h3
      obtain ⟨f, rfl⟩ := q_fu (d + 1) h2
      have ht : t < N := by omega
      obtain ⟨e, e1, e2⟩ := htl t ht
      rw [fX0_strongAfter_c61_s, hN4, if_pos (by simp (disch := omega) only [q_bn, q_ob, q_z0, q_z1, q_gd, q_cl, q_add, q_mul, q_lt, q_eq, q_eq0, q_lt0, q_0lt, q_ngl, q_ngr, q_ng0, q_ngz, q_ngn, q_ngp, q_nlt]; omega), T_isTellable σ (show t < 10 by omega), q_ob]
      unfold fX0_strongAfter_c105 sCnt
      by_cases hm : tMay σ t = 0
      · rw [if_pos hm, q_bn, q_add, ih (t + 1) f acc most (by omega) (by omega) h3]
        rw [show qMayB σ t = false from decide_eq_false (fun q => q hm)]
        simp
      · rw [if_neg hm, T_owner (show t < 10 by omega) hx hy, q_ob]
        rw [show qMayB σ t = true from decide_eq_true hm]
        by_cases ho : qOA (σ.2 6) x y t = nI g
        · rw [if_pos ho, T_tallOf σ (show t < 10 by omega), q_ob, e, show qOwn (qOA (σ.2 6) x y) g t = true from decide_eq_true ho]
          simp (disch := omega) only [q_bn, q_ob, q_z0, q_z1, q_gd, q_cl, q_add, q_mul, q_lt, q_eq, q_eq0, q_lt0, q_0lt, q_ngl, q_ngr, q_ng0, q_ngz, q_ngn, q_ngp, q_nlt, if_true]
          split
          all_goals exact ih (t + 1) f _ most (by omega) (by omega) h3
        · rw [if_neg ho, q_bn, q_add, ih (t + 1) f acc most (by omega) (by omega) h3, show qOwn (qOA (σ.2 6) x y) g t = false from decide_eq_false ho]
          simp
  have k1 : ∀ (d t f acc : Nat), t + d = N → d < f → acc ≤ 5000 → fX0_strongAfter_c6 f σ (nI g) (nI x) (nI y) (nI acc) (nI t) = some (nI (sCnt (qOwn (qOA (σ.2 6) x y) g) (qMayB σ) (qTl σ) (sMost (qOwn (qOA (σ.2 6) x y) g) (qMayB σ) (qTl σ) d t acc) N 0 0), σ) := by
    intro d
    induction d with
    | zero =>
      intro t f acc h1 h2 h3
      obtain ⟨f, rfl⟩ := q_fu 0 h2
      rw [fX0_strongAfter_c6_s, hN4, if_neg (by simp (disch := omega) only [q_bn, q_ob, q_z0, q_z1, q_gd, q_cl, q_add, q_mul, q_lt, q_eq, q_eq0, q_lt0, q_0lt, q_ngl, q_ngr, q_ng0, q_ngz, q_ngn, q_ngp, q_nlt]; omega), q_bn, q_bn]
      exact k2 N 0 k_F 0 acc (by omega) (q_kF (by omega)) h3
    | succ d ih =>
      intro t f acc h1 h2 h3
      obtain ⟨f, rfl⟩ := q_fu (d + 1) h2
      have ht : t < N := by omega
      obtain ⟨e, e1, e2⟩ := htl t ht
      rw [fX0_strongAfter_c6_s, hN4, if_pos (by simp (disch := omega) only [q_bn, q_ob, q_z0, q_z1, q_gd, q_cl, q_add, q_mul, q_lt, q_eq, q_eq0, q_lt0, q_0lt, q_ngl, q_ngr, q_ng0, q_ngz, q_ngn, q_ngp, q_nlt]; omega), T_isTellable σ (show t < 10 by omega), q_ob]
      unfold fX0_strongAfter_c49 sMost
      by_cases hm : tMay σ t = 0
      · rw [if_pos hm, q_bn, q_add, ih (t + 1) f acc (by omega) (by omega) h3]
        rw [show qMayB σ t = false from decide_eq_false (fun q => q hm)]
        simp
      · rw [if_neg hm, T_owner (show t < 10 by omega) hx hy, q_ob]
        rw [show qMayB σ t = true from decide_eq_true hm]
        by_cases ho : qOA (σ.2 6) x y t = nI g
        · rw [if_pos ho, q_bn, q_add, ih (t + 1) f acc (by omega) (by omega) h3, show qOwn (qOA (σ.2 6) x y) g t = true from decide_eq_true ho]
          simp
        · rw [if_neg ho, T_tallOf σ (show t < 10 by omega), q_ob, e, show qOwn (qOA (σ.2 6) x y) g t = false from decide_eq_false ho]
          simp (disch := omega) only [q_bn, q_ob, q_z0, q_z1, q_gd, q_cl, q_add, q_mul, q_lt, q_eq, q_eq0, q_lt0, q_0lt, q_ngl, q_ngr, q_ng0, q_ngz, q_ngn, q_ngp, q_nlt, q_mx, if_true, Bool.false_eq_true, if_false]
          exact ih (t + 1) f _ (by omega) (by omega) (by split <;> omega)
  unfold fX0_strongAfter
  simp (disch := omega) only [q_bn, q_ob, q_z0, q_z1, q_gd, q_cl, q_add, q_mul, q_lt, q_eq, q_eq0, q_lt0, q_0lt, q_ngl, q_ngr, q_ng0, q_ngz, q_ngn, q_ngp, q_nlt]
  exact k1 N 0 k_F 0 (by omega) (q_kF (by omega)) (by omega)
def encM (a : Nat) : Int32 := if a = 0 then k_ng 1 else nI a
theorem encM_lt {a t : Nat} (ha : a ≤ 5000) (h1 : 1 ≤ t) (h2 : t ≤ 5000) : (encM a < nI t) = (a < t) := by
  unfold encM
  split
  · next h => rw [q_ngp (by decide) (by decide) (by omega)]; exact (eq_true (by omega)).symm
  · exact q_lt (by omega) (by omega)
theorem encM_t {t : Nat} (h1 : 1 ≤ t) : nI t = encM t := by
  unfold encM
  rw [if_neg (by omega)]
theorem M_strong {τ : k_S} {N g : Nat} (hN3 : τ.1 3 = nI N) (hN : N ≤ 10) (hk : ∀ x, x < N → pKind (τ.2 3) x) (may : Nat → Bool) (hmay : ∀ t, t < N → may t = decide (¬ mMay τ t = 0)) (tl : Nat → Nat) (htl : ∀ t, t < N → mTall τ t = nI (tl t) ∧ 1 ≤ tl t ∧ tl t ≤ 5000) : fX7_strong τ (nI g) = some (nI (sCnt (qOwn (τ.2 4) g) may tl (sMost (qOwn (τ.2 4) g) may tl N 0 0) N 0 0), τ) := by
  have k2 : ∀ (d t f acc most : Nat), t + d = N → d < f → most ≤ 5000 → fX7_strong_c60 f τ (nI g) (encM most) (nI acc) (nI t) = some (nI (sCnt (qOwn (τ.2 4) g) may tl most d t acc), τ) := by
    intro d
    induction d with
    | zero =>
      intro t f acc most h1 h2 _
      obtain ⟨f, rfl⟩ := q_fu 0 h2
      rw [fX7_strong_c60_s, hN3, if_neg (by simp (disch := omega) only [q_bn, q_ob, q_z0, q_z1, q_gd, q_cl, q_add, q_mul, q_lt, q_eq, q_eq0, q_lt0, q_0lt, q_ngl, q_ngr, q_ng0, q_ngz, q_ngn, q_ngp, q_nlt]; omega)]
      rfl
    | succ d ih =>
      intro t f acc most h1 h2 h3
      obtain ⟨f, rfl⟩ := q_fu (d + 1) h2
      have ht : t < N := by omega
      obtain ⟨e, e1, e2⟩ := htl t ht
      rw [fX7_strong_c60_s, hN3, if_pos (by simp (disch := omega) only [q_bn, q_ob, q_z0, q_z1, q_gd, q_cl, q_add, q_mul, q_lt, q_eq, q_eq0, q_lt0, q_0lt, q_ngl, q_ngr, q_ng0, q_ngz, q_ngn, q_ngp, q_nlt]; omega), q_gd (by omega) (by decide), q_cl (by omega)]
      unfold fX7_strong_c104 fX7_strong_c105 sCnt
      simp only [q_bn, q_add, Nat.add_zero]
      by_cases ho : τ.2 4 t = nI g
      · rw [if_pos ho, M_mayNow τ (show t < 10 by omega) (hk t ht), q_ob, show qOwn (τ.2 4) g t = true from decide_eq_true ho, hmay t ht]
        by_cases hm : mMay τ t = 0
        · rw [if_pos hm, ih (t + 1) f acc most (by omega) (by omega) h3, decide_eq_false (fun q => q hm)]
          simp
        · rw [if_neg hm, M_tallNow τ (show t < 10 by omega) (hk t ht), q_ob, e, decide_eq_true hm]
          simp only [encM_lt h3 e1 e2, if_true]
          split
          all_goals exact ih (t + 1) f _ most (by omega) (by omega) h3
      · rw [if_neg ho, ih (t + 1) f acc most (by omega) (by omega) h3, show qOwn (τ.2 4) g t = false from decide_eq_false ho]
        simp
  have k1 : ∀ (d t f acc : Nat), t + d = N → d < f → acc ≤ 5000 → fX7_strong_c4 f τ (nI g) (encM acc) (nI t) = some (nI (sCnt (qOwn (τ.2 4) g) may tl (sMost (qOwn (τ.2 4) g) may tl d t acc) N 0 0), τ) := by
    intro d
    induction d with
    | zero =>
      intro t f acc h1 h2 h3
      obtain ⟨f, rfl⟩ := q_fu 0 h2
      rw [fX7_strong_c4_s, hN3, if_neg (by simp (disch := omega) only [q_bn, q_ob, q_z0, q_z1, q_gd, q_cl, q_add, q_mul, q_lt, q_eq, q_eq0, q_lt0, q_0lt, q_ngl, q_ngr, q_ng0, q_ngz, q_ngn, q_ngp, q_nlt]; omega), q_bn, q_bn]
      exact k2 N 0 k_F 0 acc (by omega) (q_kF (by omega)) h3
    | succ d ih =>
      intro t f acc h1 h2 h3
      obtain ⟨f, rfl⟩ := q_fu (d + 1) h2
      have ht : t < N := by omega
      obtain ⟨e, e1, e2⟩ := htl t ht
      rw [fX7_strong_c4_s, hN3, if_pos (by simp (disch := omega) only [q_bn, q_ob, q_z0, q_z1, q_gd, q_cl, q_add, q_mul, q_lt, q_eq, q_eq0, q_lt0, q_0lt, q_ngl, q_ngr, q_ng0, q_ngz, q_ngn, q_ngp, q_nlt]; omega), q_gd (by omega) (by decide), q_cl (by omega)]
      unfold fX7_strong_c47 fX7_strong_c48 sMost
      simp only [q_bn, q_add]
      by_cases ho : τ.2 4 t = nI g
      · rw [if_pos ho, ih (t + 1) f acc (by omega) (by omega) h3, show qOwn (τ.2 4) g t = true from decide_eq_true ho]
        simp
      · rw [if_neg ho, M_mayNow τ (show t < 10 by omega) (hk t ht), q_ob, show qOwn (τ.2 4) g t = false from decide_eq_false ho, hmay t ht]
        by_cases hm : mMay τ t = 0
        · rw [if_pos hm, ih (t + 1) f acc (by omega) (by omega) h3, decide_eq_false (fun q => q hm)]
          simp
        · rw [if_neg hm, M_tallNow τ (show t < 10 by omega) (hk t ht), q_ob, M_tallNow τ (show t < 10 by omega) (hk t ht), q_ob, e, decide_eq_true hm]
          simp only [encM_lt h3 e1 e2, if_true, Bool.false_eq_true, if_false]
          split
          · rw [encM_t e1]
            exact ih (t + 1) f _ (by omega) (by omega) (by omega)
          · exact ih (t + 1) f _ (by omega) (by omega) h3
  unfold fX7_strong
  rw [q_bn, q_bn]
  exact k1 N 0 k_F 0 (by omega) (q_kF (by omega)) (by omega)
theorem s_upd4 (w : qA) {x y : Nat} {a b : Int32} (hx : w x = a) (hy : w y = b) : upd (upd (upd (upd w x b) y a) x a) y b = w := by
  funext j
  by_cases h1 : j = y
  · rw [h1, pk_us, hy]
  · rw [pk_un h1]
    by_cases h2 : j = x
    · rw [h2, pk_us, hx]
    · rw [pk_un h2, pk_un h1, pk_un h2]
theorem pu_trade {σ τ : k_S} (h : RR σ τ) (u v : Int32) : qOk (fX6_trade σ u v) (fX7_trade τ u v) := by
  obtain ⟨⟨G, N, m, K, hH⟩, hS, h0, h1⟩ := id h
  have hH' := hH
  have hMay := hH.may
  have hTall := hH.tall
  obtain ⟨⟨g1, g2⟩, ⟨n1, n2⟩, ⟨m1, m2⟩, ⟨k1, k2⟩, ⟨hG, hN, hm, hK, hz⟩, ⟨a5, a6, a7, a8, a9, a10⟩, ht, hc, hnn, hzz, hl, hh⟩ := hH
  unfold fX6_trade fX7_trade
  rcases q_ix u (n := N) (by omega) with ⟨x, hx, rfl⟩ | hx
  · rw [T_hasTale_in n1 hN hx, M_isTale_in n2 hN hx, q_ob, q_ob, if_neg q_n1, if_neg q_n1]
    rcases q_ix v (n := N) (by omega) with ⟨y, hy, rfl⟩ | hy
    · rw [T_hasTale_in n1 hN hy, M_isTale_in n2 hN hy, q_ob, q_ob, if_neg q_n1, if_neg q_n1]
      obtain ⟨-, ⟨g, hg, eg⟩, -⟩ := ht x hx
      obtain ⟨-, ⟨o, ho, eo⟩, -⟩ := ht y hy
      have eg' : τ.2 4 x = nI g := by rw [← a6]; exact eg
      have eo' : τ.2 4 y = nI o := by rw [← a6]; exact eo
      have hkd : ∀ x, x < N → pKind (τ.2 3) x := fun x hx => hH'.kindM hx
      have htl : ∀ t, t < N → mTall τ t = nI (qTl σ t) ∧ 1 ≤ qTl σ t ∧ qTl σ t ≤ 5000 := fun t ht => by rw [← hTall]; exact hH'.tl ht
      have hmy : ∀ t, t < N → qMayB σ t = decide (¬ mMay τ t = 0) := fun t _ => by unfold qMayB; rw [hMay]
      simp (disch := omega) only [q_bn, q_ob, q_z0, q_z1, q_gd, q_cl, q_add, q_mul, q_lt, q_eq, q_eq0, q_lt0, q_0lt, q_ngl, q_ngr, q_ng0, q_ngz, q_ngn, q_ngp, q_nlt, eg, eo, eg', eo', s_sa]
      by_cases hgo : g = o
      · rw [if_pos hgo, if_pos hgo]
        exact ⟨k_ng 3, σ, τ, rfl, rfl, h⟩
      rw [if_neg hgo, if_neg hgo]
      have hxy : x ≠ y := fun e => by
        rw [e, eo, nI_eq (by omega) (by omega)] at eg
        exact hgo eg.symm
      rw [T_strong n1 hN (show x < 10 by omega) (show y < 10 by omega) (fun t ht => hH'.tl ht), q_ob, T_strong n1 hN (show x < 10 by omega) (show x < 10 by omega) (fun t ht => hH'.tl ht), q_ob]
      rw [M_strong (τ := τ) n2 hN hkd (qMayB σ) hmy (qTl σ) htl, q_ob]
      rw [M_strong (τ := k_sA (k_sA τ 4 (upd (τ.2 4) x (nI o))) 4 (upd ((k_sA τ 4 (upd (τ.2 4) x (nI o))).2 4) y (nI g))) n2 hN hkd (qMayB σ) hmy (qTl σ) htl, q_ob]
      have f1 : qOA (σ.2 6) x x = τ.2 4 := by
        funext t
        unfold qOA
        rw [a6]
        by_cases e : t = x
        · rw [if_pos e, e]
        · rw [if_neg e, if_neg e]
      have f2 : qOA (σ.2 6) x y = (k_sA (k_sA τ 4 (upd (τ.2 4) x (nI o))) 4 (upd ((k_sA τ 4 (upd (τ.2 4) x (nI o))).2 4) y (nI g))).2 4 := by
        funext t
        show qOA (σ.2 6) x y t = upd (upd (τ.2 4) x (nI o)) y (nI g) t
        unfold qOA
        by_cases e : t = x
        · rw [if_pos e, eo, e, pk_un hxy, pk_us]
        · rw [if_neg e]
          by_cases e2 : t = y
          · rw [if_pos e2, eg, e2, pk_us]
          · rw [if_neg e2, a6, pk_un e2, pk_un e]
      rw [f1, f2]
      refine ⟨_, σ, _, rfl, rfl, h.keep kT.rf ⟨⟨⟨rfl, rfl, rfl, rfl⟩, rfl, ?_, rfl, rfl, rfl, rfl, rfl, rfl⟩, ⟨rfl, rfl, rfl⟩, rfl, rfl⟩⟩
      exact s_upd4 (τ.2 4) eg' eo'
    · have hx' := q_out (by omega) hy
      rw [T_hasTale_out n1 hx', M_isTale_out n2 hx']
      exact ⟨k_ng 1, σ, τ, rfl, rfl, h⟩
  · have hx' := q_out (by omega) hx
    rw [T_hasTale_out n1 hx', M_isTale_out n2 hx']
    exact ⟨k_ng 1, σ, τ, rfl, rfl, h⟩
-- ---- told by
theorem T_hasGuestB {σ : k_S} {G : Nat} (hG : σ.1 3 = nI G) (hG5 : G ≤ 5) (x : Int32) : (∃ g, g < G ∧ x = nI g ∧ fX0_hasGuest σ x = some (nI 1, σ)) ∨ ((¬ ∃ g, g < G ∧ x = nI g) ∧ fX0_hasGuest σ x = some (nI 0, σ)) := by
  rcases q_ix x (n := G) (by omega) with ⟨g, hg, rfl⟩ | hx
  · exact .inl ⟨g, hg, rfl, T_hasGuest_in hG hG5 hg⟩
  · have hx' := q_out (by omega) hx
    refine .inr ⟨?_, T_hasGuest_out hG hx'⟩
    rintro ⟨g, hg, rfl⟩
    rcases hx' with q | ⟨-, q⟩
    · rw [q_lt0 (by omega)] at q; exact q
    · exact q (nI_lt hg (by omega))
theorem M_isGuestB {τ : k_S} {G : Nat} (hG : τ.1 2 = nI G) (hG5 : G ≤ 5) (x : Int32) : (∃ g, g < G ∧ x = nI g ∧ fX7_isGuest τ x = some (nI 1, τ)) ∨ ((¬ ∃ g, g < G ∧ x = nI g) ∧ fX7_isGuest τ x = some (nI 0, τ)) := by
  rcases q_ix x (n := G) (by omega) with ⟨g, hg, rfl⟩ | hx
  · exact .inl ⟨g, hg, rfl, M_isGuest_in hG hG5 hg⟩
  · have hx' := q_out (by omega) hx
    refine .inr ⟨?_, M_isGuest_out hG hx'⟩
    rintro ⟨g, hg, rfl⟩
    rcases hx' with q | ⟨-, q⟩
    · rw [q_lt0 (by omega)] at q; exact q
    · exact q (nI_lt hg (by omega))
/-- both sides of a row of guests: the same answer, and if it is yes all are guests -/
theorem q_rowAll {σ τ : k_S} {G s : Nat} (hG3 : σ.1 3 = nI G) (hG2 : τ.1 2 = nI G) (hG : G ≤ 5) (hs : s + G ≤ 240) (hv : ∀ j, j < G → σ.2 0 j = τ.2 2 (s + j)) : ∀ (d j f1 f2 : Nat) (set : Int32), j + d = G → d < f1 → d < f2 → ∃ b : Bool, fX0_isRowOfAll_c4 f1 σ set (nI j) = some (bI b, σ) ∧ fX7_areAllGuests_c4 f2 τ (nI s) set (nI j) = some (bI b, τ) ∧ (b = true → ∀ i, j ≤ i → i < G → ∃ g, g < G ∧ σ.2 0 i = nI g) := by
  intro d
  induction d with
  | zero =>
    intro j f1 f2 set h1 h2 h3
    obtain ⟨f1, rfl⟩ := q_fu 0 h2
    obtain ⟨f2, rfl⟩ := q_fu 0 h3
    have hh : ¬ nI j < nI G := nI_nlt (by omega) (by omega)
    rw [fX0_isRowOfAll_c4_s, fX7_areAllGuests_c4_s, hG3, hG2, if_neg hh, if_neg hh]
    by_cases hset : set = (nI 1 <<< (nI G &&& 31)) - nI 1
    · rw [if_pos hset, if_pos hset]
      exact ⟨true, rfl, rfl, fun _ i h4 h5 => by omega⟩
    · rw [if_neg hset, if_neg hset]
      exact ⟨false, rfl, rfl, fun q => by cases q⟩
  | succ d ih =>
    intro j f1 f2 set h1 h2 h3
    obtain ⟨f1, rfl⟩ := q_fu (d + 1) h2
    obtain ⟨f2, rfl⟩ := q_fu (d + 1) h3
    have hh : nI j < nI G := nI_lt (by omega) (by omega)
    rw [fX0_isRowOfAll_c4_s, fX7_areAllGuests_c4_s, hG3, hG2, if_pos hh, if_pos hh]
    simp (disch := omega) only [q_bn, q_ob, q_z0, q_z1, q_gd, q_cl, q_add, q_mul, q_lt, q_eq, q_eq0, q_lt0, q_0lt, q_ngl, q_ngr, q_ng0, q_ngz, q_ngn, q_ngp, q_nlt]
    rw [← hv j (by omega)]
    rcases T_hasGuestB hG3 hG (σ.2 0 j) with ⟨g, hg, e, r⟩ | ⟨hno, r⟩
    · rcases M_isGuestB hG2 hG (σ.2 0 j) with ⟨g', hg', e', r'⟩ | ⟨hno', r'⟩
      · rw [r, r', q_ob, q_ob, if_neg q_n1, if_neg q_n1, ← hv j (by omega)]
        obtain ⟨b, b1, b2, b3⟩ := ih (j + 1) f1 f2 (set ||| (nI 1 <<< (σ.2 0 j &&& 31))) (by omega) (by omega) (by omega)
        refine ⟨b, b1, b2, fun hb i h4 h5 => ?_⟩
        by_cases hij : i = j
        · rw [hij]; exact ⟨g, hg, e⟩
        · exact b3 hb i (by omega) h5
      · exact absurd ⟨g, hg, e⟩ hno'
    · rcases M_isGuestB hG2 hG (σ.2 0 j) with ⟨g', hg', e', r'⟩ | ⟨hno', r'⟩
      · exact absurd ⟨g', hg', e'⟩ hno
      · rw [r, r', q_ob, q_ob, if_pos q_0i, if_pos q_0i]
        exact ⟨false, rfl, rfl, fun q => by cases q⟩
def pLie (w : qA) (v : Nat → Nat) (G : Nat) : Nat → Nat → Bool
  | 0, _ => true
  | d + 1, p => if qPlace G w (v p) = p then pLie w v G d (p + 1) else false
theorem pLie_congr {a b : qA} {v : Nat → Nat} {G : Nat} (hv : ∀ p, p < G → v p < G) (h : ∀ j, j < G → a j = b j) : ∀ (d p : Nat), p + d = G → pLie a v G d p = pLie b v G d p
  | 0, _, _ => rfl
  | d + 1, p, h1 => by
    unfold pLie
    rw [qPlace_congr (hv p (by omega)) h, pLie_congr hv h d (p + 1) (by omega)]
theorem T_layAs {σ : k_S} {G : Nat} (hG7 : σ.1 7 = nI G) (hG : G ≤ 5) (v : Nat → Nat) (hv : ∀ p, p < G → v p < G ∧ σ.2 0 p = nI (v p)) : fX3_layAs σ = some (bI (pLie (σ.2 14) v G G 0), σ) := by
  have key : ∀ (d p f : Nat), p + d = G → d < f → fX3_layAs_c2 f σ (nI p) = some (bI (pLie (σ.2 14) v G d p), σ) := by
    intro d
    induction d with
    | zero =>
      intro p f h1 h2
      obtain ⟨f, rfl⟩ := q_fu 0 h2
      rw [fX3_layAs_c2_s, hG7, if_neg (by simp (disch := omega) only [q_bn, q_ob, q_z0, q_z1, q_gd, q_cl, q_add, q_mul, q_lt, q_eq, q_eq0, q_lt0, q_0lt, q_ngl, q_ngr, q_ng0, q_ngz, q_ngn, q_ngp, q_nlt]; omega)]
      rfl
    | succ d ih =>
      intro p f h1 h2
      obtain ⟨f, rfl⟩ := q_fu (d + 1) h2
      obtain ⟨hv1, hv2⟩ := hv p (by omega)
      rw [fX3_layAs_c2_s, hG7, if_pos (by simp (disch := omega) only [q_bn, q_ob, q_z0, q_z1, q_gd, q_cl, q_add, q_mul, q_lt, q_eq, q_eq0, q_lt0, q_0lt, q_ngl, q_ngr, q_ng0, q_ngz, q_ngn, q_ngp, q_nlt]; omega)]
      simp (disch := omega) only [q_bn, q_ob, q_z0, q_z1, q_gd, q_cl, q_add, q_mul, q_lt, q_eq, q_eq0, q_lt0, q_0lt, q_ngl, q_ngr, q_ng0, q_ngz, q_ngn, q_ngp, q_nlt, hv2]
      rw [T_placeOf hG7 hG (show v p < 5 by omega), q_ob]
      have hle := pPl_le (σ.2 14) (v p) (σ.2 14 (v p)) G 0 0
      show (if nI (qPlace G (σ.2 14) (v p)) = nI p then _ else _) = _
      unfold pLie
      have hle2 : qPlace G (σ.2 14) (v p) ≤ 5 := by unfold qPlace; omega
      simp only [q_eq (show qPlace G (σ.2 14) (v p) < 2 ^ 31 by omega) (show p < 2 ^ 31 by omega)]
      by_cases hq : qPlace G (σ.2 14) (v p) = p
      · rw [if_pos hq, if_pos hq]
        exact ih (p + 1) f (by omega) (by omega)
      · rw [if_neg hq, if_neg hq]; rfl
  unfold fX3_layAs
  rw [q_bn]
  exact key G 0 k_F (by omega) (q_kF (by omega))
theorem M_doLie {τ : k_S} {G s : Nat} (hG2 : τ.1 2 = nI G) (hG : G ≤ 5) (hs : s + G ≤ 240) (v : Nat → Nat) (hv : ∀ p, p < G → v p < G ∧ τ.2 2 (s + p) = nI (v p)) : fX7_doLie τ (nI s) = some (bI (pLie (τ.2 14) v G G 0), τ) := by
  have key : ∀ (d p f : Nat), p + d = G → d < f → fX7_doLie_c2 f τ (nI s) (nI p) = some (bI (pLie (τ.2 14) v G d p), τ) := by
    intro d
    induction d with
    | zero =>
      intro p f h1 h2
      obtain ⟨f, rfl⟩ := q_fu 0 h2
      rw [fX7_doLie_c2_s, hG2, if_neg (by simp (disch := omega) only [q_bn, q_ob, q_z0, q_z1, q_gd, q_cl, q_add, q_mul, q_lt, q_eq, q_eq0, q_lt0, q_0lt, q_ngl, q_ngr, q_ng0, q_ngz, q_ngn, q_ngp, q_nlt]; omega)]
      rfl
    | succ d ih =>
      intro p f h1 h2
      obtain ⟨f, rfl⟩ := q_fu (d + 1) h2
      obtain ⟨hv1, hv2⟩ := hv p (by omega)
      rw [fX7_doLie_c2_s, hG2, if_pos (by simp (disch := omega) only [q_bn, q_ob, q_z0, q_z1, q_gd, q_cl, q_add, q_mul, q_lt, q_eq, q_eq0, q_lt0, q_0lt, q_ngl, q_ngr, q_ng0, q_ngz, q_ngn, q_ngp, q_nlt]; omega)]
      simp (disch := omega) only [q_bn, q_ob, q_z0, q_z1, q_gd, q_cl, q_add, q_mul, q_lt, q_eq, q_eq0, q_lt0, q_0lt, q_ngl, q_ngr, q_ng0, q_ngz, q_ngn, q_ngp, q_nlt, hv2]
      rw [M_placeOf hG2 hG (show v p < 5 by omega), q_ob]
      show (if nI (qPlace G (τ.2 14) (v p)) = nI p then _ else _) = _
      unfold pLie
      have hle := pPl_le (τ.2 14) (v p) (τ.2 14 (v p)) G 0 0
      have hle2 : qPlace G (τ.2 14) (v p) ≤ 5 := by unfold qPlace; omega
      simp only [q_eq (show qPlace G (τ.2 14) (v p) < 2 ^ 31 by omega) (show p < 2 ^ 31 by omega)]
      by_cases hq : qPlace G (τ.2 14) (v p) = p
      · rw [if_pos hq, if_pos hq]
        exact ih (p + 1) f (by omega) (by omega)
      · rw [if_neg hq, if_neg hq]; rfl
  unfold fX7_doLie
  rw [q_bn]
  exact key G 0 k_F (by omega) (q_kF (by omega))
-- how often told ahead of a night
def cN (nT : qA) (o : Nat) (x : Int32) : Nat → Nat → Nat → Nat
  | 0, _, acc => acc
  | d + 1, n, acc => cN nT o x d (n + 1) (if nT (5 * n + o) = x then acc + 1 else acc)
def cF (mT : qA) (x : Int32) : Nat → Nat → Nat → Nat
  | 0, _, acc => acc
  | d + 1, k, acc => cF mT x d (k + 1) (if mT k = x then acc + 1 else acc)
theorem cF_add (mT : qA) (x : Int32) : ∀ (d e k acc : Nat), cF mT x (d + e) k acc = cF mT x e (k + d) (cF mT x d k acc)
  | 0, e, k, acc => by simp [cF]
  | d + 1, e, k, acc => by
    rw [show d + 1 + e = (d + e) + 1 by omega]
    show cF mT x (d + e) (k + 1) _ = _
    rw [cF_add mT x d e (k + 1)]
    rw [show k + 1 + d = k + (d + 1) by omega]
    rfl
theorem cF_five {mT nT : qA} {x : Int32} {n o : Nat} (ho : o < 5) (h : ∀ j, j < 5 → (mT (5 * n + j) = x ↔ j = o ∧ nT (5 * n + o) = x)) (acc : Nat) : cF mT x 5 (5 * n) acc = if nT (5 * n + o) = x then acc + 1 else acc := by
  have h0 := h 0 (by omega)
  have h1 := h 1 (by omega)
  have h2 := h 2 (by omega)
  have h3 := h 3 (by omega)
  have h4 := h 4 (by omega)
  rw [Nat.add_zero] at h0
  show (if mT (5 * n + 1 + 1 + 1 + 1) = x then (if mT (5 * n + 1 + 1 + 1) = x then (if mT (5 * n + 1 + 1) = x then (if mT (5 * n + 1) = x then (if mT (5 * n) = x then acc + 1 else acc) + 1 else (if mT (5 * n) = x then acc + 1 else acc)) + 1 else (if mT (5 * n + 1) = x then (if mT (5 * n) = x then acc + 1 else acc) + 1 else (if mT (5 * n) = x then acc + 1 else acc))) + 1 else (if mT (5 * n + 1 + 1) = x then (if mT (5 * n + 1) = x then (if mT (5 * n) = x then acc + 1 else acc) + 1 else (if mT (5 * n) = x then acc + 1 else acc)) + 1 else (if mT (5 * n + 1) = x then (if mT (5 * n) = x then acc + 1 else acc) + 1 else (if mT (5 * n) = x then acc + 1 else acc)))) + 1 else (if mT (5 * n + 1 + 1 + 1) = x then (if mT (5 * n + 1 + 1) = x then (if mT (5 * n + 1) = x then (if mT (5 * n) = x then acc + 1 else acc) + 1 else (if mT (5 * n) = x then acc + 1 else acc)) + 1 else (if mT (5 * n + 1) = x then (if mT (5 * n) = x then acc + 1 else acc) + 1 else (if mT (5 * n) = x then acc + 1 else acc))) + 1 else (if mT (5 * n + 1 + 1) = x then (if mT (5 * n + 1) = x then (if mT (5 * n) = x then acc + 1 else acc) + 1 else (if mT (5 * n) = x then acc + 1 else acc)) + 1 else (if mT (5 * n + 1) = x then (if mT (5 * n) = x then acc + 1 else acc) + 1 else (if mT (5 * n) = x then acc + 1 else acc))))) = _
  simp only [Nat.add_assoc, Nat.reduceAdd, h0, h1, h2, h3, h4]
  by_cases hc : nT (5 * n + o) = x
  · simp only [hc, and_true, if_true]
    rcases (show o = 0 ∨ o = 1 ∨ o = 2 ∨ o = 3 ∨ o = 4 by omega) with rfl | rfl | rfl | rfl | rfl <;> simp
  · simp [hc]
theorem cF_all {mT nT : qA} {x : Int32} {o : Nat} (ho : o < 5) : ∀ (d n acc : Nat), (∀ i, n ≤ i → i < n + d → ∀ j, j < 5 → (mT (5 * i + j) = x ↔ j = o ∧ nT (5 * i + o) = x)) → cF mT x (5 * d) (5 * n) acc = cN nT o x d n acc
  | 0, _, _, _ => rfl
  | d + 1, n, acc, h => by
    rw [show 5 * (d + 1) = 5 + 5 * d by omega, cF_add, cF_five ho (h n (Nat.le_refl n) (by omega)), show 5 * n + 5 = 5 * (n + 1) by omega]
    exact cF_all ho d (n + 1) _ (fun i h1 h2 => h i (by omega) (by omega))
theorem T_times {σ : k_S} {x o n : Nat} (hx : x < 10) (ho : σ.2 6 x = nI o) (ho5 : o < 5) (hn : n ≤ 60) : fX0_timesToldBefore σ (nI x) (nI n) = some (nI (cN (σ.2 11) o (nI x) n 0 0), σ) := by
  have key : ∀ (d i acc f : Nat), i + d = n → d < f → fX0_timesToldBefore_c5 f σ (nI x) (nI n) (nI acc) (nI i) = some (nI (cN (σ.2 11) o (nI x) d i acc), σ) := by
    intro d
    induction d with
    | zero =>
      intro i acc f h1 h2
      obtain ⟨f, rfl⟩ := q_fu 0 h2
      rw [fX0_timesToldBefore_c5_s, if_neg (by simp (disch := omega) only [q_bn, q_ob, q_z0, q_z1, q_gd, q_cl, q_add, q_mul, q_lt, q_eq, q_eq0, q_lt0, q_0lt, q_ngl, q_ngr, q_ng0, q_ngz, q_ngn, q_ngp, q_nlt]; omega)]
      rfl
    | succ d ih =>
      intro i acc f h1 h2
      obtain ⟨f, rfl⟩ := q_fu (d + 1) h2
      rw [fX0_timesToldBefore_c5_s, if_pos (by simp (disch := omega) only [q_bn, q_ob, q_z0, q_z1, q_gd, q_cl, q_add, q_mul, q_lt, q_eq, q_eq0, q_lt0, q_0lt, q_ngl, q_ngr, q_ng0, q_ngz, q_ngn, q_ngp, q_nlt]; omega)]
      unfold fX0_timesToldBefore_c34 cN
      simp (disch := omega) only [q_bn, q_ob, q_z0, q_z1, q_gd, q_cl, q_add, q_mul, q_lt, q_eq, q_eq0, q_lt0, q_0lt, q_ngl, q_ngr, q_ng0, q_ngz, q_ngn, q_ngp, q_nlt, ho]
      rw [show i * 5 + o = 5 * i + o by omega]
      split
      all_goals exact ih (i + 1) _ f (by omega) (by omega)
  unfold fX0_timesToldBefore
  simp (disch := omega) only [q_bn, q_ob, q_z0, q_z1, q_gd, q_cl, q_add, q_mul, q_lt, q_eq, q_eq0, q_lt0, q_0lt, q_ngl, q_ngr, q_ng0, q_ngz, q_ngn, q_ngp, q_nlt]
  exact key n 0 0 k_F (by omega) (q_kF (by omega))
theorem M_times {τ : k_S} {n : Nat} (hn : n ≤ 60) (x : Int32) : fX7_timesBefore τ x (nI n) = some (nI (cF (τ.2 9) x (5 * n) 0 0), τ) := by
  have key : ∀ (d k acc f : Nat), k + d = 5 * n → d < f → fX7_timesBefore_c5 f τ x (nI n) (nI acc) (nI k) = some (nI (cF (τ.2 9) x d k acc), τ) := by
    intro d
    induction d with
    | zero =>
      intro k acc f h1 h2
      obtain ⟨f, rfl⟩ := q_fu 0 h2
      rw [fX7_timesBefore_c5_s, if_neg (by simp (disch := omega) only [q_bn, q_ob, q_z0, q_z1, q_gd, q_cl, q_add, q_mul, q_lt, q_eq, q_eq0, q_lt0, q_0lt, q_ngl, q_ngr, q_ng0, q_ngz, q_ngn, q_ngp, q_nlt]; omega)]
      rfl
    | succ d ih =>
      intro k acc f h1 h2
      obtain ⟨f, rfl⟩ := q_fu (d + 1) h2
      rw [fX7_timesBefore_c5_s, if_pos (by simp (disch := omega) only [q_bn, q_ob, q_z0, q_z1, q_gd, q_cl, q_add, q_mul, q_lt, q_eq, q_eq0, q_lt0, q_0lt, q_ngl, q_ngr, q_ng0, q_ngz, q_ngn, q_ngp, q_nlt]; omega)]
      unfold fX7_timesBefore_c30 cF
      simp (disch := omega) only [q_bn, q_ob, q_z0, q_z1, q_gd, q_cl, q_add, q_mul, q_lt, q_eq, q_eq0, q_lt0, q_0lt, q_ngl, q_ngr, q_ng0, q_ngz, q_ngn, q_ngp, q_nlt, Nat.add_zero]
      split
      all_goals exact ih (k + 1) _ f (by omega) (by omega)
  unfold fX7_timesBefore
  simp (disch := omega) only [q_bn, q_ob, q_z0, q_z1, q_gd, q_cl, q_add, q_mul, q_lt, q_eq, q_eq0, q_lt0, q_0lt, q_ngl, q_ngr, q_ng0, q_ngz, q_ngn, q_ngp, q_nlt]
  exact key (5 * n) 0 0 k_F (by omega) (q_kF (by omega))
theorem q_or0 (x : Int32) : x ||| nI 0 = x := by
  rw [nI_0]
  exact Int32.or_zero
/-- the set of what can have told, from x on -/
def pCan (own : Nat → Bool) (ok : Nat → Bool) : Nat → Nat → Int32 → Int32
  | 0, _, acc => acc
  | d + 1, x, acc => pCan own ok d (x + 1) (if own x then (if ok x then acc ||| (nI 1 <<< (nI x &&& 31)) else acc) else acc)
theorem T_can_loop {σ0 : k_S} {G N g n : Nat} (hG7 : σ0.1 7 = nI G) (hG : G ≤ 5) (hg : g < G) (hN4 : σ0.1 4 = nI N) (hN : N ≤ 10) (hn : n ≤ 60) (v : Nat → Nat) (hv : ∀ p, p < G → v p < G ∧ σ0.2 0 p = nI (v p)) (how : ∀ x, x < N → ∃ o, o < G ∧ σ0.2 6 x = nI o) (w : qA) (hw : ∀ j, j < G → σ0.2 14 j = w j) (own ok : Nat → Bool) (hown : ∀ x, x < N → own x = decide (σ0.2 6 x = nI g)) (hok : ∀ x, x < N → σ0.2 6 x = nI g → ok x = pLie (upd w g (pTall (σ0.2 5) (σ0.2 7) x (nI (cN (σ0.2 11) g (nI x) n 0 0)))) v G G 0) : ∀ (d x f : Nat) (acc : Int32) (r : qA), x + d = N → d < f → (∀ j, j < G → j ≠ g → r j = w j) → ∃ r', fX6_canHaveTold_c17 f (k_sA σ0 14 r) (nI n) (nI g) acc (nI x) = some (if pLie (upd w g (nI 0)) v G G 0 then pCan own ok d x acc ||| nI 1024 else pCan own ok d x acc, k_sA σ0 14 r') := by
  have hlie : ∀ (r : qA) (t : Int32), (∀ j, j < G → j ≠ g → r j = w j) → fX3_layAs (k_sA σ0 14 (upd r g t)) = some (bI (pLie (upd w g t) v G G 0), k_sA σ0 14 (upd r g t)) := by
    intro r t hr
    rw [T_layAs (σ := k_sA σ0 14 (upd r g t)) hG7 hG v hv]
    have : pLie (upd r g t) v G G 0 = pLie (upd w g t) v G G 0 := pLie_congr (fun p hp => (hv p hp).1) (fun j hj => by
      by_cases e : j = g
      · rw [e, pk_us, pk_us]
      · rw [pk_un e, pk_un e]; exact hr j hj e) G 0 (by omega)
    show some (bI (pLie (upd r g t) v G G 0), _) = _
    rw [this]
  intro d
  induction d with
  | zero =>
    intro x f acc r h1 h2 hr
    obtain ⟨f, rfl⟩ := q_fu 0 h2
    rw [fX6_canHaveTold_c17_s, show (k_sA σ0 14 r).1 4 = nI N from hN4, if_neg (by simp (disch := omega) only [q_bn, q_ob, q_z0, q_z1, q_gd, q_cl, q_add, q_mul, q_lt, q_eq, q_eq0, q_lt0, q_0lt, q_ngl, q_ngr, q_ng0, q_ngz, q_ngn, q_ngp, q_nlt]; omega)]
    simp (disch := omega) only [q_bn, q_ob, q_z0, q_z1, q_gd, q_cl, q_add, q_mul, q_lt, q_eq, q_eq0, q_lt0, q_0lt, q_ngl, q_ngr, q_ng0, q_ngz, q_ngn, q_ngp, q_nlt, s_sa, s_sA2, s_AA, if_true]
    rw [hlie r (nI 0) hr, q_ob]
    simp only [bI_0]
    unfold pCan
    cases pLie (upd w g (nI 0)) v G G 0 with
    | true => exact ⟨_, rfl⟩
    | false => exact ⟨_, rfl⟩
  | succ d ih =>
    intro x f acc r h1 h2 hr
    obtain ⟨f, rfl⟩ := q_fu (d + 1) h2
    have hx : x < N := by omega
    rw [fX6_canHaveTold_c17_s, show (k_sA σ0 14 r).1 4 = nI N from hN4, if_pos (by simp (disch := omega) only [q_bn, q_ob, q_z0, q_z1, q_gd, q_cl, q_add, q_mul, q_lt, q_eq, q_eq0, q_lt0, q_0lt, q_ngl, q_ngr, q_ng0, q_ngz, q_ngn, q_ngp, q_nlt]; omega)]
    unfold fX6_canHaveTold_c95 pCan
    simp only [q_bn, q_add]
    rw [q_gd (by omega) (by decide), q_cl (by omega), show (k_sA σ0 14 r).2 6 = σ0.2 6 from rfl, hown x hx]
    by_cases ho : σ0.2 6 x = nI g
    · rw [if_pos ho, decide_eq_true ho]
      rw [T_times (σ := k_sA σ0 14 r) (show x < 10 by omega) ho (by omega) hn, q_ob, T_tallWhenTold (k_sA σ0 14 r) (show x < 10 by omega), q_ob]
      rw [q_gd (by omega) (by decide)]
      have e1 : ∀ t, k_sa (k_sA σ0 14 r) 14 (nI g) t = k_sA σ0 14 (upd r g t) := fun t => by
        rw [s_sa, q_cl (by omega), s_AA]; rfl
      rw [e1]
      have e2 : pTall ((k_sA σ0 14 r).2 5) ((k_sA σ0 14 r).2 7) x (nI (cN ((k_sA σ0 14 r).2 11) g (nI x) n 0 0)) = pTall (σ0.2 5) (σ0.2 7) x (nI (cN (σ0.2 11) g (nI x) n 0 0)) := rfl
      rw [e2, hlie r _ hr, q_ob, ← hok x hx ho]
      simp only [bI_0]
      have hr2 : ∀ t j, j < G → j ≠ g → upd r g t j = w j := fun t j h5 h6 => by rw [pk_un h6]; exact hr j h5 h6
      cases ok x with
      | true =>
        rw [if_neg (by decide)]
        exact ih (x + 1) f _ _ (by omega) (by omega) (hr2 _)
      | false =>
        rw [if_pos rfl]
        exact ih (x + 1) f _ _ (by omega) (by omega) (hr2 _)
    · rw [if_neg ho, decide_eq_false ho]
      exact ih (x + 1) f _ _ (by omega) (by omega) hr
theorem M_can_loop {τ0 : k_S} {G N g n s : Nat} (hG2 : τ0.1 2 = nI G) (hG : G ≤ 5) (hg : g < G) (hN3 : τ0.1 3 = nI N) (hN : N ≤ 10) (hn : n ≤ 60) (hs : s + G ≤ 240) (hk : ∀ x, x < N → pKind (τ0.2 3) x) (v : Nat → Nat) (hv : ∀ p, p < G → v p < G ∧ τ0.2 2 (s + p) = nI (v p)) (w : qA) (own ok : Nat → Bool) (hown : ∀ x, x < N → own x = decide (τ0.2 4 x = nI g)) (hok : ∀ x, x < N → τ0.2 4 x = nI g → ok x = pLie (upd w g (pTall (τ0.2 3) (τ0.2 5) x (nI (cF (τ0.2 9) (nI x) (5 * n) 0 0)))) v G G 0) : ∀ (d x f : Nat) (acc : Int32) (r : qA), x + d = N → d < f → (∀ j, j < G → j ≠ g → r j = w j) → ∃ r', fX7_toldBy_c100 f (k_sA τ0 14 r) (nI n) (nI g) (nI s) acc (nI x) = some (if pLie (upd w g (nI 0)) v G G 0 then pCan own ok d x acc ||| nI 1024 else pCan own ok d x acc, k_sA τ0 14 r') := by
  have hlie : ∀ (r : qA) (t : Int32), (∀ j, j < G → j ≠ g → r j = w j) → fX7_doLie (k_sA τ0 14 (upd r g t)) (nI s) = some (bI (pLie (upd w g t) v G G 0), k_sA τ0 14 (upd r g t)) := by
    intro r t hr
    rw [M_doLie (τ := k_sA τ0 14 (upd r g t)) hG2 hG hs v hv]
    have : pLie (upd r g t) v G G 0 = pLie (upd w g t) v G G 0 := pLie_congr (fun p hp => (hv p hp).1) (fun j hj => by
      by_cases e : j = g
      · rw [e, pk_us, pk_us]
      · rw [pk_un e, pk_un e]; exact hr j hj e) G 0 (by omega)
    show some (bI (pLie (upd r g t) v G G 0), _) = _
    rw [this]
  intro d
  induction d with
  | zero =>
    intro x f acc r h1 h2 hr
    obtain ⟨f, rfl⟩ := q_fu 0 h2
    rw [fX7_toldBy_c100_s, show (k_sA τ0 14 r).1 3 = nI N from hN3, if_neg (by simp (disch := omega) only [q_bn, q_ob, q_z0, q_z1, q_gd, q_cl, q_add, q_mul, q_lt, q_eq, q_eq0, q_lt0, q_0lt, q_ngl, q_ngr, q_ng0, q_ngz, q_ngn, q_ngp, q_nlt]; omega)]
    simp (disch := omega) only [q_bn, q_ob, q_z0, q_z1, q_gd, q_cl, q_add, q_mul, q_lt, q_eq, q_eq0, q_lt0, q_0lt, q_ngl, q_ngr, q_ng0, q_ngz, q_ngn, q_ngp, q_nlt, s_sa, s_sA2, s_AA, if_true]
    rw [hlie r (nI 0) hr, q_ob]
    simp only [bI_0, q_or0]
    unfold pCan
    cases pLie (upd w g (nI 0)) v G G 0 with
    | true => exact ⟨_, rfl⟩
    | false => exact ⟨_, rfl⟩
  | succ d ih =>
    intro x f acc r h1 h2 hr
    obtain ⟨f, rfl⟩ := q_fu (d + 1) h2
    have hx : x < N := by omega
    rw [fX7_toldBy_c100_s, show (k_sA τ0 14 r).1 3 = nI N from hN3, if_pos (by simp (disch := omega) only [q_bn, q_ob, q_z0, q_z1, q_gd, q_cl, q_add, q_mul, q_lt, q_eq, q_eq0, q_lt0, q_0lt, q_ngl, q_ngr, q_ng0, q_ngz, q_ngn, q_ngp, q_nlt]; omega)]
    unfold fX7_toldBy_c158 fX7_toldBy_c161 pCan
    simp only [q_bn, q_add, q_or0]
    rw [q_gd (by omega) (by decide), q_cl (by omega), show (k_sA τ0 14 r).2 4 = τ0.2 4 from rfl, hown x hx]
    by_cases ho : τ0.2 4 x = nI g
    · rw [if_pos ho, decide_eq_true ho]
      rw [M_times (τ := k_sA τ0 14 r) hn, q_ob, M_tallBy (k_sA τ0 14 r) (show x < 10 by omega) (hk x hx), q_ob]
      rw [q_gd (by omega) (by decide)]
      have e1 : ∀ t, k_sa (k_sA τ0 14 r) 14 (nI g) t = k_sA τ0 14 (upd r g t) := fun t => by
        rw [s_sa, q_cl (by omega), s_AA]; rfl
      rw [e1]
      have e2 : pTall ((k_sA τ0 14 r).2 3) ((k_sA τ0 14 r).2 5) x (nI (cF ((k_sA τ0 14 r).2 9) (nI x) (5 * n) 0 0)) = pTall (τ0.2 3) (τ0.2 5) x (nI (cF (τ0.2 9) (nI x) (5 * n) 0 0)) := rfl
      rw [e2, hlie r _ hr, q_ob, ← hok x hx ho]
      simp only [bI_0]
      have hr2 : ∀ t j, j < G → j ≠ g → upd r g t j = w j := fun t j h5 h6 => by rw [pk_un h6]; exact hr j h5 h6
      cases ok x with
      | true =>
        rw [if_neg (by decide)]
        exact ih (x + 1) f _ _ (by omega) (by omega) (hr2 _)
      | false =>
        rw [if_pos rfl]
        exact ih (x + 1) f _ _ (by omega) (by omega) (hr2 _)
    · rw [if_neg ho, decide_eq_false ho]
      exact ih (x + 1) f _ _ (by omega) (by omega) hr
theorem pu_toldBy {σ τ : k_S} (h : RR σ τ) (x y z u t : Int32) : qOk (fX6_toldBy σ x y z u t) (fX7_toldBy τ x y z u t) := by
  have hf := h.fault (nI 0)
  unfold fX6_toldBy fX7_toldBy
  rw [q_bn, q_bn]
  generalize hσ : k_sf σ 1 (nI 0) = σ1 at hf ⊢
  generalize hτ : k_sf τ 0 (nI 0) = τ1 at hf ⊢
  clear h
  obtain ⟨⟨G, N, m, K, hH⟩, hS, h0, h1⟩ := id hf
  have hH' := hH
  obtain ⟨⟨g1, g2⟩, ⟨n1, n2⟩, ⟨m1, m2⟩, ⟨k1, k2⟩, ⟨hG, hN, hm, hK, hz⟩, ⟨a5, a6, a7, a8, a9, a10⟩, ht, hc, hnn, hzz, hl, hh⟩ := hH
  rcases q_ix x (n := K) (by omega) with ⟨n, hn, rfl⟩ | hx
  case inr =>
    have hx' := q_out (by omega) hx
    rw [T_hasNight_out k1 hx', M_isNight_out k2 hx']
    exact ⟨k_ng 1, σ1, τ1, rfl, rfl, hf⟩
  rw [T_hasNight_in k1 hK hn, M_isNight_in k2 hK hn, q_ob, q_ob, if_neg q_n1, if_neg q_n1]
  rcases q_ix y (n := G) (by omega) with ⟨g, hg, rfl⟩ | hx
  case inr =>
    have hx' := q_out (by omega) hx
    rw [T_hasGuest_out g1 hx', M_isGuest_out g2 hx']
    exact ⟨k_ng 1, σ1, τ1, rfl, rfl, hf⟩
  rw [T_hasGuest_in g1 hG hg, M_isGuest_in g2 hG hg, q_ob, q_ob, if_neg q_n1, if_neg q_n1]
  rw [T_isSheet, M_isSheet, q_ob, q_ob]
  by_cases hzz' : z < nI 0 ∨ nI 3 < z
  · rw [if_pos hzz', if_pos q_0i, if_pos q_0i]
    exact ⟨_, σ1, τ1, rfl, rfl, hf⟩
  rw [if_neg hzz', if_neg q_n1, if_neg q_n1, T_isSort, M_isSort, q_ob, q_ob]
  by_cases hu : u < nI 0 ∨ nI 2 < u
  · rw [if_pos hu, if_pos q_0i, if_pos q_0i]
    exact ⟨_, σ1, τ1, rfl, rfl, hf⟩
  rw [if_neg hu, if_neg q_n1, if_neg q_n1]
  obtain ⟨k, hk, rfl⟩ := q_pass (by decide) hzz'
  have hk4 : k < 4 := by omega
  rw [g1, g2]
  obtain ⟨c, hc5, e1, e2, e3⟩ := hS.against hk4 u t (nI G)
  rw [e1, e2, q_ob, q_ob, q_bn, q_bn]
  by_cases hc0 : ¬ c = 0
  · rw [if_neg (by rw [q_eq0 (by omega)]; exact hc0), if_neg (by rw [q_eq0 (by omega)]; exact hc0)]
    exact ⟨_, _, _, rfl, rfl, hf.fault _⟩
  have hc0 := Decidable.not_not.mp hc0
  obtain ⟨len, a, b, q1, rfl, q3, q4, q5⟩ := e3 hc0
  rw [nI_eq (by omega) (by omega)] at q3
  subst hc0
  rw [if_pos q_0i, if_pos q_0i, q_bn, g1]
  unfold fX2_take_a7 k_gc
  simp (disch := omega) only [q_bn, q_ob, q_z0, q_z1, q_gd, q_cl, q_add, q_mul, q_lt, q_eq, q_eq0, q_lt0, q_0lt, q_ngl, q_ngr, q_ng0, q_ngz, q_ngn, q_ngp, q_nlt, s_sc]
  rw [if_neg (by simp only [false_or]; omega), q_ob]
  let σ2 : k_S := k_sA σ1 0 (va_cpy (σ1.2 1) (σ1.2 0) (k * 60 + a) 0 G)
  have hv : ∀ j, j < G → σ2.2 0 j = τ1.2 2 (60 * k + a + j) := fun j hj => by
    show va_cpy (σ1.2 1) (σ1.2 0) (k * 60 + a) 0 G j = _
    unfold va_cpy
    rw [if_pos (by omega), show k * 60 + a + (j - 0) = 60 * k + (a + j) by omega, q5 (a + j) (by omega), Nat.add_assoc]
  obtain ⟨bb, r1, r2, r3⟩ := q_rowAll (σ := σ2) (τ := τ1) (G := G) (s := 60 * k + a) g1 g2 hG (by omega) hv G 0 k_F k_F (nI 0) (by omega) (q_kF (by omega)) (q_kF (by omega))
  have hkT2 : kT σ1 σ2 := ⟨⟨⟨rfl, rfl, rfl, rfl⟩, rfl, rfl, rfl, rfl, rfl, rfl, rfl, rfl, rfl⟩, ⟨rfl, rfl, rfl⟩, rfl, rfl⟩
  have e4 : fX0_isRowOfAll σ2 = some (bI bb, σ2) := r1
  have e5 : fX7_areAllGuests τ1 (nI (60 * k + a)) = some (bI bb, τ1) := r2
  show qOk (k_ob (fX0_isRowOfAll σ2) _) (k_ob (fX7_areAllGuests τ1 (nI (60 * k + a))) _)
  rw [e4, e5, q_ob, q_ob]
  simp only [bI_0]
  cases bb with
  | false =>
    rw [if_pos rfl, if_pos rfl]
    exact ⟨k_ng 2, σ2, τ1, rfl, rfl, hf.keep hkT2 kM.rf⟩
  | true =>
    rw [if_neg (by decide), if_neg (by decide)]
    have hvv : ∀ p, p < G → (τ1.2 2 (60 * k + a + p)).toNatClampNeg < G ∧ τ1.2 2 (60 * k + a + p) = nI (τ1.2 2 (60 * k + a + p)).toNatClampNeg := fun p hp => by
      obtain ⟨g', h5, h6⟩ := r3 rfl p (Nat.zero_le p) hp
      rw [← hv p hp, h6, q_cl (by omega)]
      exact ⟨h5, rfl⟩
    unfold fX6_canHaveTold
    rw [T_tallsOfNight (σ := σ2) g1 hG (show n < 60 by omega), q_ob, M_layNight g2 hG (show n < 60 by omega), q_ob]
    simp only [q_bn]
    let v : Nat → Nat := fun p => (τ1.2 2 (60 * k + a + p)).toNatClampNeg
    let w : qA := fun j => σ1.2 13 (5 * n + j)
    let own : Nat → Bool := fun x => decide (σ1.2 6 x = nI g)
    let ok : Nat → Bool := fun x => pLie (upd w g (pTall (σ1.2 5) (σ1.2 7) x (nI (cN (σ1.2 11) g (nI x) n 0 0)))) v G G 0
    obtain ⟨rT, eT⟩ := T_can_loop (σ0 := k_sA (k_sf σ2 7 (nI G)) 14 (pSet (fun g => σ2.2 13 (5 * n + g)) (σ2.2 14) 0 G)) (G := G) (N := N) (g := g) (n := n) rfl hG hg n1 hN (by omega) v (fun p hp => ⟨(hvv p hp).1, (hv p hp).trans (hvv p hp).2⟩) (fun x hx => (ht x hx).2.1) w (fun j hj => show pSet (fun g => σ2.2 13 (5 * n + g)) (σ2.2 14) 0 G j = w j from pSet_in (Nat.zero_le j) hj) own ok (fun x hx => rfl) (fun x hx _ => rfl) N 0 k_F (nI 0) (pSet (fun g => σ2.2 13 (5 * n + g)) (σ2.2 14) 0 G) (by omega) (q_kF (by omega)) (fun j hj _ => pSet_in (Nat.zero_le j) hj)
    obtain ⟨rM, eM⟩ := M_can_loop (τ0 := τ1) (G := G) (N := N) (g := g) (n := n) (s := 60 * k + a) g2 hG hg n2 hN (by omega) (by omega) (fun x hx => hH'.kindM hx) v (fun p hp => hvv p hp) w own ok (fun x hx => by show decide (σ1.2 6 x = nI g) = _; rw [a6]) (fun x hx ho => by
      show pLie (upd w g (pTall (σ1.2 5) (σ1.2 7) x (nI (cN (σ1.2 11) g (nI x) n 0 0)))) v G G 0 = _
      rw [a5, a7]
      have hcc := cF_all (mT := τ1.2 9) (nT := σ1.2 11) (x := nI x) (o := g) (by omega) n 0 0 (fun i _ hi j hj => by
        by_cases hjG : j < G
        · obtain ⟨b1, -, b3, -⟩ := hnn i (by omega) j hjG
          rw [← b1]
          constructor
          · intro he
            rcases b3 with b3 | ⟨x', hx', c1, c2⟩
            · rw [b3] at he
              have : (k_ng 9 = nI x) = False := q_ngl (by decide) (by decide) (by omega)
              rw [this] at he
              exact he.elim
            · rw [he, nI_eq (by omega) (by omega)] at c1
              subst c1
              rw [a6, ho, nI_eq (by omega) (by omega)] at c2
              subst c2
              exact ⟨rfl, he⟩
          · rintro ⟨rfl, he⟩
            exact he
        · rw [hzz i (by omega) j (by omega) hj]
          constructor
          · intro he
            have : (k_ng 9 = nI x) = False := q_ngl (by decide) (by decide) (by omega)
            rw [this] at he
            exact he.elim
          · rintro ⟨rfl, -⟩
            omega)
      rw [Nat.mul_zero] at hcc
      rw [hcc]) N 0 k_F (nI 0) (pSet (fun g => τ1.2 10 (5 * n + g)) (τ1.2 14) 0 G) (by omega) (q_kF (by omega)) (fun j hj _ => by
        rw [pSet_in (Nat.zero_le j) hj]
        exact (hnn n hn j hj).2.1.symm)
    rw [s_AA, s_AA] at eT
    rw [eT, eM, q_ob]
    refine ⟨_, _, _, rfl, rfl, hf.keep (hkT2.tr (kT.talls _)) (kM.tall _)⟩
