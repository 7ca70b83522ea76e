/-! ===== the pure part: tools ===== -/
theorem q_bn {α β : Type} (x : α) (k : α → β) : k_bn x k = k x := rfl
theorem q_ob {α β γ : Type} (a : α) (b : β) (k : α → β → Option γ) : k_ob (some (a, b)) k = k a b := rfl
theorem q_z0 {α : Type} (o : Option α) : k_z (nI 0) o = o := rfl
theorem q_z1 {α : Type} (o : Option α) : k_z (nI 1) o = o := rfl
theorem q_gd {α : Type} {a n : Nat} {o : Option α} (h : a < n) (hn : n < 2 ^ 31) : k_gd (nI a) n o = o := k_gd_in (vp_in_nI h hn)
theorem q_cl {a : Nat} (h : a < 2 ^ 31) : Int32.toNatClampNeg (nI a) = a := nI_clamp h
theorem q_add (a b : Nat) : nI a + nI b = nI (a + b) := nI_add a b
theorem q_mul (a b : Nat) : nI a * nI b = nI (a * b) := pk_mul a b
theorem q_sub {a b : Nat} (h : b ≤ a) : nI a - nI b = nI (a - b) := pk_sub h
theorem q_lt {a b : Nat} (ha : a < 2 ^ 31) (hb : b < 2 ^ 31) : (nI a < nI b) = (a < b) := propext (nI_ltI ha hb)
theorem q_eq {a b : Nat} (ha : a < 2 ^ 31) (hb : b < 2 ^ 31) : (nI a = nI b) = (a = b) := propext (nI_eq ha hb)
theorem q_eq0 {a : Nat} (ha : a < 2 ^ 31) : (nI a = 0) = (a = 0) := by rw [← nI_0]; exact q_eq ha (by decide)
theorem q_lt0 {a : Nat} (ha : a < 2 ^ 31) : (nI a < 0) = False := eq_false (nI_pos ha)
theorem q_0lt {a : Nat} (ha : a < 2 ^ 31) : (0 < nI a) = (0 < a) := by rw [← nI_0]; exact q_lt (by decide) ha
theorem k_ng_toInt {n : Nat} (h : n < 2 ^ 31) : (k_ng n).toInt = -(n : Int) := by
  unfold k_ng
  rw [Int32.toInt_neg, nI_toInt h]
  rw [Int.bmod_eq_of_le] <;> omega
theorem q_ngl {n a : Nat} (h0 : 0 < n) (hn : n < 2 ^ 31) (ha : a < 2 ^ 31) : (k_ng n = nI a) = False := eq_false fun e => by
  have := congrArg Int32.toInt e
  rw [k_ng_toInt hn, nI_toInt ha] at this
  omega
theorem q_ngr {n a : Nat} (h0 : 0 < n) (hn : n < 2 ^ 31) (ha : a < 2 ^ 31) : (nI a = k_ng n) = False := eq_false fun e => by
  have := congrArg Int32.toInt e
  rw [k_ng_toInt hn, nI_toInt ha] at this
  omega
theorem q_ng0 {n : Nat} (h0 : 0 < n) (hn : n < 2 ^ 31) : (k_ng n < 0) = True := eq_true (by
  rw [Int32.lt_iff_toInt_lt, k_ng_toInt hn, Int32.toInt_zero]; omega)
theorem q_ngz {n : Nat} (h0 : 0 < n) (hn : n < 2 ^ 31) : (k_ng n = 0) = False := by rw [← nI_0]; exact q_ngl h0 hn (by decide)
theorem q_ngn {n a : Nat} (hn : n < 2 ^ 31) (ha : a < 2 ^ 31) : (nI a < k_ng n) = False := eq_false fun e => by
  rw [Int32.lt_iff_toInt_lt, k_ng_toInt hn, nI_toInt ha] at e; omega
theorem q_ngp {n a : Nat} (h0 : 0 < n) (hn : n < 2 ^ 31) (ha : a < 2 ^ 31) : (k_ng n < nI a) = True := eq_true (by
  rw [Int32.lt_iff_toInt_lt, k_ng_toInt hn, nI_toInt ha]; omega)
theorem q_nlt (x : Int32) : (x < x) = False := eq_false (by rw [Int32.lt_iff_toInt_lt]; omega)
theorem q_ng9 : (-9 : Int32) = k_ng 9 := by decide
/-- a number is a place below n, or none -/
theorem q_ix (x : Int32) {n : Nat} (hn : n < 2 ^ 31) : (∃ j : Nat, j < n ∧ x = nI j) ∨ (x < 0 ∨ nI n ≤ x) := by
  rcases pk_ix x hn with h | h | h
  · exact .inr (.inl h)
  · exact .inr (.inr h)
  · exact .inl h
theorem q_out {x : Int32} {n : Nat} (hn : n < 2 ^ 31) (h : x < 0 ∨ nI n ≤ x) : x < 0 ∨ ¬ x < 0 ∧ ¬ x < nI n := by
  by_cases hx : x < 0
  · exact .inl hx
  · rcases h with h | h
    · exact .inl h
    · exact .inr ⟨hx, Int32.not_lt.mpr h⟩
-- the state's words
theorem s_sf1 (σ : k_S) (k : Nat) (v : Int32) (j : Nat) : (k_sf σ k v).1 j = if j = k then v else σ.1 j := rfl
theorem s_sf2 (σ : k_S) (k : Nat) (v : Int32) : (k_sf σ k v).2 = σ.2 := rfl
theorem s_sA1 (σ : k_S) (a : Nat) (g : Nat → Int32) : (k_sA σ a g).1 = σ.1 := rfl
theorem s_sA2 (σ : k_S) (a : Nat) (g : Nat → Int32) (b : Nat) : (k_sA σ a g).2 b = if b = a then g else σ.2 b := rfl
theorem s_sa (σ : k_S) (a : Nat) (i v : Int32) : k_sa σ a i v = k_sA σ a (upd (σ.2 a) i.toNatClampNeg v) := rfl
theorem s_sc (σ : k_S) (a0 a1 : Nat) (sp dp n : Int32) : k_sc σ a0 a1 sp dp n = k_sA σ a1 (va_cpy (σ.2 a0) (σ.2 a1) sp.toNatClampNeg dp.toNatClampNeg n.toNatClampNeg) := rfl
theorem s_AA (σ : k_S) (a : Nat) (g h : Nat → Int32) : k_sA (k_sA σ a g) a h = k_sA σ a h := by
  unfold k_sA k_up
  simp only [Prod.mk.injEq, true_and]
  funext j
  by_cases hj : j = a <;> simp [hj]
theorem s_Aid (σ : k_S) (a : Nat) : k_sA σ a (σ.2 a) = σ := by
  unfold k_sA k_up
  refine Prod.ext rfl ?_
  funext j
  by_cases hj : j = a <;> simp [hj]
/-- a row that differs from another one at some places -/
theorem q_fu (n : Nat) : ∀ {f : Nat}, n < f → ∃ g, f = g + 1 := fun {f} h => ⟨f - 1, by omega⟩
theorem q_kF {d : Nat} (h : d < 1000000) : d < k_F := Nat.lt_of_lt_of_le h (Nat.le_trans (by decide) k_F_ge)
-- ---- tests: guests, tales, nights, sheets, sorts
theorem T_hasGuest_in {σ : k_S} {G j : Nat} (hG : σ.1 3 = nI G) (hG5 : G ≤ 5) (h : j < G) : fX0_hasGuest σ (nI j) = some (nI 1, σ) := by
  unfold fX0_hasGuest
  simp (disch := omega) only [q_bn, q_ob, q_z0, q_z1, q_gd, q_cl, q_add, q_mul, q_lt, q_eq, q_eq0, q_lt0, q_0lt, q_ngl, q_ngr, q_ng0, q_ngz, q_ngn, q_ngp, q_nlt, hG, if_false, h, if_true]
theorem T_hasGuest_out {σ : k_S} {G : Nat} {x : Int32} (hG : σ.1 3 = nI G) (h : x < 0 ∨ ¬ x < 0 ∧ ¬ x < nI G) : fX0_hasGuest σ x = some (nI 0, σ) := by
  unfold fX0_hasGuest
  rcases h with h | ⟨h1, h2⟩
  · rw [if_pos h]; rfl
  · rw [if_neg h1, hG, if_neg h2]; rfl
theorem T_hasTale_in {σ : k_S} {N j : Nat} (hN : σ.1 4 = nI N) (hN5 : N ≤ 10) (h : j < N) : fX0_hasTale σ (nI j) = some (nI 1, σ) := by
  unfold fX0_hasTale
  simp (disch := omega) only [q_bn, q_ob, q_z0, q_z1, q_gd, q_cl, q_add, q_mul, q_lt, q_eq, q_eq0, q_lt0, q_0lt, q_ngl, q_ngr, q_ng0, q_ngz, q_ngn, q_ngp, q_nlt, hN, if_false, h, if_true]
theorem T_hasTale_out {σ : k_S} {N : Nat} {x : Int32} (hN : σ.1 4 = nI N) (h : x < 0 ∨ ¬ x < 0 ∧ ¬ x < nI N) : fX0_hasTale σ x = some (nI 0, σ) := by
  unfold fX0_hasTale
  rcases h with h | ⟨h1, h2⟩
  · rw [if_pos h]; rfl
  · rw [if_neg h1, hN, if_neg h2]; rfl
theorem T_hasNight_in {σ : k_S} {K j : Nat} (hK : σ.1 6 = nI K) (hK5 : K ≤ 60) (h : j < K) : fX0_hasNight σ (nI j) = some (nI 1, σ) := by
  unfold fX0_hasNight
  simp (disch := omega) only [q_bn, q_ob, q_z0, q_z1, q_gd, q_cl, q_add, q_mul, q_lt, q_eq, q_eq0, q_lt0, q_0lt, q_ngl, q_ngr, q_ng0, q_ngz, q_ngn, q_ngp, q_nlt, hK, if_false, h, if_true]
theorem T_hasNight_out {σ : k_S} {K : Nat} {x : Int32} (hK : σ.1 6 = nI K) (h : x < 0 ∨ ¬ x < 0 ∧ ¬ x < nI K) : fX0_hasNight σ x = some (nI 0, σ) := by
  unfold fX0_hasNight
  rcases h with h | ⟨h1, h2⟩
  · rw [if_pos h]; rfl
  · rw [if_neg h1, hK, if_neg h2]; rfl
theorem M_isGuest_in {σ : k_S} {G j : Nat} (hG : σ.1 2 = nI G) (hG5 : G ≤ 5) (h : j < G) : fX7_isGuest σ (nI j) = some (nI 1, σ) := by
  unfold fX7_isGuest
  simp (disch := omega) only [q_bn, q_ob, q_z0, q_z1, q_gd, q_cl, q_add, q_mul, q_lt, q_eq, q_eq0, q_lt0, q_0lt, q_ngl, q_ngr, q_ng0, q_ngz, q_ngn, q_ngp, q_nlt, hG, if_false, h, if_true]
theorem M_isGuest_out {σ : k_S} {G : Nat} {x : Int32} (hG : σ.1 2 = nI G) (h : x < 0 ∨ ¬ x < 0 ∧ ¬ x < nI G) : fX7_isGuest σ x = some (nI 0, σ) := by
  unfold fX7_isGuest
  rcases h with h | ⟨h1, h2⟩
  · rw [if_pos h]; rfl
  · rw [if_neg h1, hG, if_neg h2]; rfl
theorem M_isTale_in {σ : k_S} {N j : Nat} (hN : σ.1 3 = nI N) (hN5 : N ≤ 10) (h : j < N) : fX7_isTale σ (nI j) = some (nI 1, σ) := by
  unfold fX7_isTale
  simp (disch := omega) only [q_bn, q_ob, q_z0, q_z1, q_gd, q_cl, q_add, q_mul, q_lt, q_eq, q_eq0, q_lt0, q_0lt, q_ngl, q_ngr, q_ng0, q_ngz, q_ngn, q_ngp, q_nlt, hN, if_false, h, if_true]
theorem M_isTale_out {σ : k_S} {N : Nat} {x : Int32} (hN : σ.1 3 = nI N) (h : x < 0 ∨ ¬ x < 0 ∧ ¬ x < nI N) : fX7_isTale σ x = some (nI 0, σ) := by
  unfold fX7_isTale
  rcases h with h | ⟨h1, h2⟩
  · rw [if_pos h]; rfl
  · rw [if_neg h1, hN, if_neg h2]; rfl
theorem M_isNight_in {σ : k_S} {K j : Nat} (hK : σ.1 8 = nI K) (hK5 : K ≤ 60) (h : j < K) : fX7_isNight σ (nI j) = some (nI 1, σ) := by
  unfold fX7_isNight
  simp (disch := omega) only [q_bn, q_ob, q_z0, q_z1, q_gd, q_cl, q_add, q_mul, q_lt, q_eq, q_eq0, q_lt0, q_0lt, q_ngl, q_ngr, q_ng0, q_ngz, q_ngn, q_ngp, q_nlt, hK, if_false, h, if_true]
theorem M_isNight_out {σ : k_S} {K : Nat} {x : Int32} (hK : σ.1 8 = nI K) (h : x < 0 ∨ ¬ x < 0 ∧ ¬ x < nI K) : fX7_isNight σ x = some (nI 0, σ) := by
  unfold fX7_isNight
  rcases h with h | ⟨h1, h2⟩
  · rw [if_pos h]; rfl
  · rw [if_neg h1, hK, if_neg h2]; rfl
theorem M_within (σ : k_S) (x a b : Int32) : fX7_within σ x a b = some (if x < a ∨ b < x then nI 0 else nI 1, σ) := by
  unfold fX7_within
  by_cases h1 : x < a
  · rw [if_pos h1, if_pos (.inl h1)]; rfl
  · by_cases h2 : b < x
    · rw [if_neg h1, if_pos h2, if_pos (.inr h2)]; rfl
    · rw [if_neg h1, if_neg h2, if_neg (by rintro (h | h) <;> contradiction)]; rfl
theorem M_isSheet (σ : k_S) (x : Int32) : fX7_isSheet σ x = some (if x < nI 0 ∨ nI 3 < x then nI 0 else nI 1, σ) := by
  unfold fX7_isSheet
  rw [M_within, q_ob]
  split <;> rfl
theorem M_isSort (σ : k_S) (x : Int32) : fX7_isSort σ x = some (if x < nI 0 ∨ nI 2 < x then nI 0 else nI 1, σ) := by
  unfold fX7_isSort
  rw [M_within, q_ob]
  split <;> rfl
theorem T_isSheet (σ : k_S) (x : Int32) : fX6_isSheet σ x = some (if x < nI 0 ∨ nI 3 < x then nI 0 else nI 1, σ) := by
  unfold fX6_isSheet
  by_cases h1 : x < 0
  · rw [if_pos h1, if_pos (.inl (by rw [nI_0]; exact h1))]; rfl
  · have e : (x < nI 4) = ¬ (nI 3 < x) := by
      rw [Int32.lt_iff_toInt_lt, Int32.lt_iff_toInt_lt, nI_toInt (by decide), nI_toInt (by decide)]
      exact propext (by omega)
    rw [if_neg h1]
    by_cases h2 : nI 3 < x
    · rw [if_neg (by rw [e]; exact fun h => h h2), if_pos (.inr h2)]; rfl
    · rw [if_pos (by rw [e]; exact h2), if_neg (by rw [nI_0]; rintro (h | h) <;> contradiction)]; rfl
theorem T_isSort (σ : k_S) (x : Int32) : fX6_isSort σ x = some (if x < nI 0 ∨ nI 2 < x then nI 0 else nI 1, σ) := by
  unfold fX6_isSort
  by_cases h1 : x < 0
  · rw [if_pos h1, if_pos (.inl (by rw [nI_0]; exact h1))]; rfl
  · rw [if_neg h1]
    by_cases h2 : nI 2 < x
    · rw [if_pos h2, if_pos (.inr h2)]; rfl
    · rw [if_neg h2, if_neg (by rw [nI_0]; rintro (h | h) <;> contradiction)]; rfl
/-- a number that passes is a place -/
theorem q_pass {x : Int32} {n : Nat} (hn : n < 2 ^ 31 - 1) (h : ¬ (x < nI 0 ∨ nI n < x)) : ∃ j : Nat, j ≤ n ∧ x = nI j := by
  rw [nI_0] at h
  obtain ⟨j, hj, rfl⟩ := nI_of (x := x) (fun q => h (.inl q))
  exact ⟨j, Nat.le_of_not_lt fun q => h (.inr (nI_lt q hj)), rfl⟩
-- ---- tales: how tall, whether one may be told
def pTall (kd hg : Nat → Int32) (x : Nat) (t : Int32) : Int32 := if kd x = nI 1 then hg x + nI 10 * t else if kd x = nI 2 then hg x + nI 900 else hg x
def pMay (kd : Nat → Int32) (mem : Int32) (x : Nat) (t l n : Int32) : Int32 := if t = 0 then nI 1 else if kd x = nI 1 then (if l = n - nI 1 then nI 0 else nI 1) else if kd x = nI 2 then nI 0 else if n < l + nI 1 + mem then nI 0 else nI 1
theorem pMay_b (kd : Nat → Int32) (mem : Int32) (x : Nat) (t l n : Int32) : pMay kd mem x t l n = nI 0 ∨ pMay kd mem x t l n = nI 1 := by
  unfold pMay
  repeat' split
  all_goals simp
theorem q_zb {α : Type} {x : Int32} (h : x = nI 0 ∨ x = nI 1) (o : Option α) : k_z x o = o := by
  rcases h with rfl | rfl <;> rfl
theorem T_tallWhenTold (σ : k_S) {x : Nat} (hx : x < 10) (t : Int32) : fX0_tallWhenTold σ (nI x) t = some (pTall (σ.2 5) (σ.2 7) x t, σ) := by
  unfold fX0_tallWhenTold pTall
  simp (disch := omega) only [q_bn, q_ob, q_z0, q_z1, q_gd, q_cl, q_add, q_mul, q_lt, q_eq, q_eq0, q_lt0, q_0lt, q_ngl, q_ngr, q_ng0, q_ngz, q_ngn, q_ngp, q_nlt]
  repeat' split
  all_goals rfl
def tTall (σ : k_S) (x : Nat) : Int32 := pTall (σ.2 5) (σ.2 7) x (σ.2 8 x)
def tMay (σ : k_S) (x : Nat) : Int32 := pMay (σ.2 5) (σ.1 5) x (σ.2 8 x) (σ.2 9 x) (σ.1 6)
def mTall (τ : k_S) (x : Nat) : Int32 := pTall (τ.2 3) (τ.2 5) x (τ.2 12 x)
def mMay (τ : k_S) (x : Nat) : Int32 := pMay (τ.2 3) (τ.1 4) x (τ.2 12 x) (τ.2 13 x) (τ.1 8)
theorem T_tallOf (σ : k_S) {x : Nat} (hx : x < 10) : fX0_tallOf σ (nI x) = some (tTall σ x, σ) := by
  unfold fX0_tallOf
  simp (disch := omega) only [q_bn, q_ob, q_z0, q_z1, q_gd, q_cl, q_add, q_mul, q_lt, q_eq, q_eq0, q_lt0, q_0lt, q_ngl, q_ngr, q_ng0, q_ngz, q_ngn, q_ngp, q_nlt, T_tallWhenTold σ hx]
  rfl
theorem T_mayBeTold (σ : k_S) {x : Nat} (hx : x < 10) (t l n : Int32) : fX0_mayBeTold σ (nI x) t l n = some (pMay (σ.2 5) (σ.1 5) x t l n, σ) := by
  unfold fX0_mayBeTold pMay
  simp (disch := omega) only [q_bn, q_ob, q_z0, q_z1, q_gd, q_cl, q_add, q_mul, q_lt, q_eq, q_eq0, q_lt0, q_0lt, q_ngl, q_ngr, q_ng0, q_ngz, q_ngn, q_ngp, q_nlt]
  repeat' split
  all_goals rfl
theorem T_isTellable (σ : k_S) {x : Nat} (hx : x < 10) : fX0_isTellable σ (nI x) = some (tMay σ x, σ) := by
  unfold fX0_isTellable
  simp (disch := omega) only [q_bn, q_ob, q_z0, q_z1, q_gd, q_cl, q_add, q_mul, q_lt, q_eq, q_eq0, q_lt0, q_0lt, q_ngl, q_ngr, q_ng0, q_ngz, q_ngn, q_ngp, q_nlt, T_mayBeTold σ hx, q_zb (pMay_b _ _ _ _ _ _)]
  rfl
def pKind (kd : Nat → Int32) (x : Nat) : Prop := kd x = nI 0 ∨ kd x = nI 1 ∨ kd x = nI 2
theorem M_tallBy (τ : k_S) {x : Nat} (hx : x < 10) (hk : pKind (τ.2 3) x) (t : Int32) : fX7_tallBy τ (nI x) t = some (pTall (τ.2 3) (τ.2 5) x t, τ) := by
  unfold fX7_tallBy pTall
  rcases hk with h | h | h
  · simp (disch := omega) only [q_bn, q_ob, q_z0, q_z1, q_gd, q_cl, q_add, q_mul, q_lt, q_eq, q_eq0, q_lt0, q_0lt, q_ngl, q_ngr, q_ng0, q_ngz, q_ngn, q_ngp, q_nlt, h]; rfl
  · simp (disch := omega) only [q_bn, q_ob, q_z0, q_z1, q_gd, q_cl, q_add, q_mul, q_lt, q_eq, q_eq0, q_lt0, q_0lt, q_ngl, q_ngr, q_ng0, q_ngz, q_ngn, q_ngp, q_nlt, h]; rfl
  · simp (disch := omega) only [q_bn, q_ob, q_z0, q_z1, q_gd, q_cl, q_add, q_mul, q_lt, q_eq, q_eq0, q_lt0, q_0lt, q_ngl, q_ngr, q_ng0, q_ngz, q_ngn, q_ngp, q_nlt, h]; rfl
theorem M_tallNow (τ : k_S) {x : Nat} (hx : x < 10) (hk : pKind (τ.2 3) x) : fX7_tallNow τ (nI x) = some (mTall τ x, τ) := by
  unfold fX7_tallNow
  simp (disch := omega) only [q_bn, q_ob, q_z0, q_z1, q_gd, q_cl, q_add, q_mul, q_lt, q_eq, q_eq0, q_lt0, q_0lt, q_ngl, q_ngr, q_ng0, q_ngz, q_ngn, q_ngp, q_nlt, M_tallBy τ hx hk]
  rfl
theorem M_mayBe (τ : k_S) {x : Nat} (hx : x < 10) (hk : pKind (τ.2 3) x) (t l n : Int32) : fX7_mayBe τ (nI x) t l n = some (pMay (τ.2 3) (τ.1 4) x t l n, τ) := by
  unfold fX7_mayBe pMay
  rcases hk with h | h | h
  · simp (disch := omega) only [q_bn, q_ob, q_z0, q_z1, q_gd, q_cl, q_add, q_mul, q_lt, q_eq, q_eq0, q_lt0, q_0lt, q_ngl, q_ngr, q_ng0, q_ngz, q_ngn, q_ngp, q_nlt, h]
    repeat' split
    all_goals first | rfl | simp_all
  · simp (disch := omega) only [q_bn, q_ob, q_z0, q_z1, q_gd, q_cl, q_add, q_mul, q_lt, q_eq, q_eq0, q_lt0, q_0lt, q_ngl, q_ngr, q_ng0, q_ngz, q_ngn, q_ngp, q_nlt, h]
    repeat' split
    all_goals first | rfl | simp_all
  · simp (disch := omega) only [q_bn, q_ob, q_z0, q_z1, q_gd, q_cl, q_add, q_mul, q_lt, q_eq, q_eq0, q_lt0, q_0lt, q_ngl, q_ngr, q_ng0, q_ngz, q_ngn, q_ngp, q_nlt, h]
    repeat' split
    all_goals first | rfl | simp_all
theorem M_mayNow (τ : k_S) {x : Nat} (hx : x < 10) (hk : pKind (τ.2 3) x) : fX7_mayNow τ (nI x) = some (mMay τ x, τ) := by
  unfold fX7_mayNow
  simp (disch := omega) only [q_bn, q_ob, q_z0, q_z1, q_gd, q_cl, q_add, q_mul, q_lt, q_eq, q_eq0, q_lt0, q_0lt, q_ngl, q_ngr, q_ng0, q_ngz, q_ngn, q_ngp, q_nlt, M_mayBe τ hx hk, q_zb (pMay_b _ _ _ _ _ _)]
  rfl
