/-! ===== the class's calls, in numbers: taken over from the proof of the whole (by program: wip/pure30/extract.py) ===== -/
/-! ===== the pure part: tools ===== -/
theorem q_bn {α β : Type} (x : α) (k : α → β) : k_bn x k = k x := rfl
theorem q_ob {α β γ : Type} (a : α) (b : β) (k : α → β → Option γ) : k_ob (some (a, b)) k = k a b := rfl
theorem q_z0 {α : Type} (o : Option α) : k_z (nI 0) o = o := rfl
theorem q_z1 {α : Type} (o : Option α) : k_z (nI 1) o = o := rfl
theorem q_gd {α : Type} {a n : Nat} {o : Option α} (h : a < n) (hn : n < 2 ^ 31) : k_gd (nI a) n o = o := k_gd_in (vp_in_nI h hn)
theorem q_cl {a : Nat} (h : a < 2 ^ 31) : Int32.toNatClampNeg (nI a) = a := nI_clamp h
theorem q_add (a b : Nat) : nI a + nI b = nI (a + b) := nI_add a b
theorem q_mul (a b : Nat) : nI a * nI b = nI (a * b) := pk_mul a b
theorem q_sub {a b : Nat} (h : b ≤ a) : nI a - nI b = nI (a - b) := pk_sub h
theorem q_lt {a b : Nat} (ha : a < 2 ^ 31) (hb : b < 2 ^ 31) : (nI a < nI b) = (a < b) := propext (nI_ltI ha hb)
theorem q_eq {a b : Nat} (ha : a < 2 ^ 31) (hb : b < 2 ^ 31) : (nI a = nI b) = (a = b) := propext (nI_eq ha hb)
theorem q_eq0 {a : Nat} (ha : a < 2 ^ 31) : (nI a = 0) = (a = 0) := by rw [← nI_0]; exact q_eq ha (by decide)
theorem q_lt0 {a : Nat} (ha : a < 2 ^ 31) : (nI a < 0) = False := eq_false (nI_pos ha)
theorem q_0lt {a : Nat} (ha : a < 2 ^ 31) : (0 < nI a) = (0 < a) := by rw [← nI_0]; exact q_lt (by decide) ha
theorem k_ng_toInt {n : Nat} (h : n < 2 ^ 31) : (k_ng n).toInt = -(n : Int) := by
  unfold k_ng
  rw [Int32.toInt_neg, nI_toInt h]
  rw [Int.bmod_eq_of_le] <;> omega
theorem q_ngl {n a : Nat} (h0 : 0 < n) (hn : n < 2 ^ 31) (ha : a < 2 ^ 31) : (k_ng n = nI a) = False := eq_false fun e => by
  have := congrArg Int32.toInt e
  rw [k_ng_toInt hn, nI_toInt ha] at this
  omega
theorem q_ngr {n a : Nat} (h0 : 0 < n) (hn : n < 2 ^ 31) (ha : a < 2 ^ 31) : (nI a = k_ng n) = False := eq_false fun e => by
  have := congrArg Int32.toInt e
  rw [k_ng_toInt hn, nI_toInt ha] at this
  omega
theorem q_ng0 {n : Nat} (h0 : 0 < n) (hn : n < 2 ^ 31) : (k_ng n < 0) = True := eq_true (by
  rw [Int32.lt_iff_toInt_lt, k_ng_toInt hn, Int32.toInt_zero]; omega)
theorem q_ngz {n : Nat} (h0 : 0 < n) (hn : n < 2 ^ 31) : (k_ng n = 0) = False := by rw [← nI_0]; exact q_ngl h0 hn (by decide)
theorem q_ngn {n a : Nat} (hn : n < 2 ^ 31) (ha : a < 2 ^ 31) : (nI a < k_ng n) = False := eq_false fun e => by
  rw [Int32.lt_iff_toInt_lt, k_ng_toInt hn, nI_toInt ha] at e; omega
theorem q_ngp {n a : Nat} (h0 : 0 < n) (hn : n < 2 ^ 31) (ha : a < 2 ^ 31) : (k_ng n < nI a) = True := eq_true (by
  rw [Int32.lt_iff_toInt_lt, k_ng_toInt hn, nI_toInt ha]; omega)
theorem q_nlt (x : Int32) : (x < x) = False := eq_false (by rw [Int32.lt_iff_toInt_lt]; omega)
theorem q_ng9 : (-9 : Int32) = k_ng 9 := by decide
/-- a number is a place below n, or none -/
theorem q_ix (x : Int32) {n : Nat} (hn : n < 2 ^ 31) : (∃ j : Nat, j < n ∧ x = nI j) ∨ (x < 0 ∨ nI n ≤ x) := by
  rcases pk_ix x hn with h | h | h
  · exact .inr (.inl h)
  · exact .inr (.inr h)
  · exact .inl h
theorem q_out {x : Int32} {n : Nat} (hn : n < 2 ^ 31) (h : x < 0 ∨ nI n ≤ x) : x < 0 ∨ ¬ x < 0 ∧ ¬ x < nI n := by
  by_cases hx : x < 0
  · exact .inl hx
  · rcases h with h | h
    · exact .inl h
    · exact .inr ⟨hx, Int32.not_lt.mpr h⟩
-- the state's words
theorem s_sf1 (σ : k_S) (k : Nat) (v : Int32) (j : Nat) : (k_sf σ k v).1 j = if j = k then v else σ.1 j := rfl
theorem s_sf2 (σ : k_S) (k : Nat) (v : Int32) : (k_sf σ k v).2 = σ.2 := rfl
theorem s_sA1 (σ : k_S) (a : Nat) (g : Nat → Int32) : (k_sA σ a g).1 = σ.1 := rfl
theorem s_sA2 (σ : k_S) (a : Nat) (g : Nat → Int32) (b : Nat) : (k_sA σ a g).2 b = if b = a then g else σ.2 b := rfl
theorem s_sa (σ : k_S) (a : Nat) (i v : Int32) : k_sa σ a i v = k_sA σ a (upd (σ.2 a) i.toNatClampNeg v) := rfl
theorem s_sc (σ : k_S) (a0 a1 : Nat) (sp dp n : Int32) : k_sc σ a0 a1 sp dp n = k_sA σ a1 (va_cpy (σ.2 a0) (σ.2 a1) sp.toNatClampNeg dp.toNatClampNeg n.toNatClampNeg) := rfl
theorem s_AA (σ : k_S) (a : Nat) (g h : Nat → Int32) : k_sA (k_sA σ a g) a h = k_sA σ a h := by
  unfold k_sA k_up
  simp only [Prod.mk.injEq, true_and]
  funext j
  by_cases hj : j = a <;> simp [hj]
theorem s_Aid (σ : k_S) (a : Nat) : k_sA σ a (σ.2 a) = σ := by
  unfold k_sA k_up
  refine Prod.ext rfl ?_
  funext j
  by_cases hj : j = a <;> simp [hj]
/-- a row that differs from another one at some places -/
theorem q_fu (n : Nat) : ∀ {f : Nat}, n < f → ∃ g, f = g + 1 := fun {f} h => ⟨f - 1, by omega⟩
theorem q_kF {d : Nat} (h : d < 1000000) : d < k_F := Nat.lt_of_lt_of_le h (Nat.le_trans (by decide) k_F_ge)
-- ---- tests: guests, tales, nights, sheets, sorts
theorem T_hasGuest_in {σ : k_S} {G j : Nat} (hG : σ.1 3 = nI G) (hG5 : G ≤ 5) (h : j < G) : fX0_hasGuest σ (nI j) = some (nI 1, σ) := by
  unfold fX0_hasGuest
  simp (disch := omega) only [q_bn, q_ob, q_z0, q_z1, q_gd, q_cl, q_add, q_mul, q_lt, q_eq, q_eq0, q_lt0, q_0lt, q_ngl, q_ngr, q_ng0, q_ngz, q_ngn, q_ngp, q_nlt, hG, if_false, h, if_true]
theorem T_hasGuest_out {σ : k_S} {G : Nat} {x : Int32} (hG : σ.1 3 = nI G) (h : x < 0 ∨ ¬ x < 0 ∧ ¬ x < nI G) : fX0_hasGuest σ x = some (nI 0, σ) := by
  unfold fX0_hasGuest
  rcases h with h | ⟨h1, h2⟩
  · rw [if_pos h]; rfl
  · rw [if_neg h1, hG, if_neg h2]; rfl
theorem T_hasTale_in {σ : k_S} {N j : Nat} (hN : σ.1 4 = nI N) (hN5 : N ≤ 10) (h : j < N) : fX0_hasTale σ (nI j) = some (nI 1, σ) := by
  unfold fX0_hasTale
  simp (disch := omega) only [q_bn, q_ob, q_z0, q_z1, q_gd, q_cl, q_add, q_mul, q_lt, q_eq, q_eq0, q_lt0, q_0lt, q_ngl, q_ngr, q_ng0, q_ngz, q_ngn, q_ngp, q_nlt, hN, if_false, h, if_true]
theorem T_hasTale_out {σ : k_S} {N : Nat} {x : Int32} (hN : σ.1 4 = nI N) (h : x < 0 ∨ ¬ x < 0 ∧ ¬ x < nI N) : fX0_hasTale σ x = some (nI 0, σ) := by
  unfold fX0_hasTale
  rcases h with h | ⟨h1, h2⟩
  · rw [if_pos h]; rfl
  · rw [if_neg h1, hN, if_neg h2]; rfl
theorem T_hasNight_in {σ : k_S} {K j : Nat} (hK : σ.1 6 = nI K) (hK5 : K ≤ 60) (h : j < K) : fX0_hasNight σ (nI j) = some (nI 1, σ) := by
  unfold fX0_hasNight
  simp (disch := omega) only [q_bn, q_ob, q_z0, q_z1, q_gd, q_cl, q_add, q_mul, q_lt, q_eq, q_eq0, q_lt0, q_0lt, q_ngl, q_ngr, q_ng0, q_ngz, q_ngn, q_ngp, q_nlt, hK, if_false, h, if_true]
theorem T_hasNight_out {σ : k_S} {K : Nat} {x : Int32} (hK : σ.1 6 = nI K) (h : x < 0 ∨ ¬ x < 0 ∧ ¬ x < nI K) : fX0_hasNight σ x = some (nI 0, σ) := by
  unfold fX0_hasNight
  rcases h with h | ⟨h1, h2⟩
  · rw [if_pos h]; rfl
  · rw [if_neg h1, hK, if_neg h2]; rfl
theorem T_isSheet (σ : k_S) (x : Int32) : fX6_isSheet σ x = some (if x < nI 0 ∨ nI 3 < x then nI 0 else nI 1, σ) := by
  unfold fX6_isSheet
  by_cases h1 : x < 0
  · rw [if_pos h1, if_pos (.inl (by rw [nI_0]; exact h1))]; rfl
  · have e : (x < nI 4) = ¬ (nI 3 < x) := by
      rw [Int32.lt_iff_toInt_lt, Int32.lt_iff_toInt_lt, nI_toInt (by decide), nI_toInt (by decide)]
      exact propext (by omega)
    rw [if_neg h1]
    by_cases h2 : nI 3 < x
    · rw [if_neg (by rw [e]; exact fun h => h h2), if_pos (.inr h2)]; rfl
    · rw [if_pos (by rw [e]; exact h2), if_neg (by rw [nI_0]; rintro (h | h) <;> contradiction)]; rfl
theorem T_isSort (σ : k_S) (x : Int32) : fX6_isSort σ x = some (if x < nI 0 ∨ nI 2 < x then nI 0 else nI 1, σ) := by
  unfold fX6_isSort
  by_cases h1 : x < 0
  · rw [if_pos h1, if_pos (.inl (by rw [nI_0]; exact h1))]; rfl
  · rw [if_neg h1]
    by_cases h2 : nI 2 < x
    · rw [if_pos h2, if_pos (.inr h2)]; rfl
    · rw [if_neg h2, if_neg (by rw [nI_0]; rintro (h | h) <;> contradiction)]; rfl
/-- a number that passes is a place -/
theorem q_pass {x : Int32} {n : Nat} (hn : n < 2 ^ 31 - 1) (h : ¬ (x < nI 0 ∨ nI n < x)) : ∃ j : Nat, j ≤ n ∧ x = nI j := by
  rw [nI_0] at h
  obtain ⟨j, hj, rfl⟩ := nI_of (x := x) (fun q => h (.inl q))
  exact ⟨j, Nat.le_of_not_lt fun q => h (.inr (nI_lt q hj)), rfl⟩
-- ---- tales: how tall, whether one may be told
def pTall (kd hg : Nat → Int32) (x : Nat) (t : Int32) : Int32 := if kd x = nI 1 then hg x + nI 10 * t else if kd x = nI 2 then hg x + nI 900 else hg x
def pMay (kd : Nat → Int32) (mem : Int32) (x : Nat) (t l n : Int32) : Int32 := if t = 0 then nI 1 else if kd x = nI 1 then (if l = n - nI 1 then nI 0 else nI 1) else if kd x = nI 2 then nI 0 else if n < l + nI 1 + mem then nI 0 else nI 1
theorem pMay_b (kd : Nat → Int32) (mem : Int32) (x : Nat) (t l n : Int32) : pMay kd mem x t l n = nI 0 ∨ pMay kd mem x t l n = nI 1 := by
  unfold pMay
  repeat' split
  all_goals simp
theorem q_zb {α : Type} {x : Int32} (h : x = nI 0 ∨ x = nI 1) (o : Option α) : k_z x o = o := by
  rcases h with rfl | rfl <;> rfl
theorem T_tallWhenTold (σ : k_S) {x : Nat} (hx : x < 10) (t : Int32) : fX0_tallWhenTold σ (nI x) t = some (pTall (σ.2 5) (σ.2 7) x t, σ) := by
  unfold fX0_tallWhenTold pTall
  simp (disch := omega) only [q_bn, q_ob, q_z0, q_z1, q_gd, q_cl, q_add, q_mul, q_lt, q_eq, q_eq0, q_lt0, q_0lt, q_ngl, q_ngr, q_ng0, q_ngz, q_ngn, q_ngp, q_nlt]
  repeat' split
  all_goals rfl
def tTall (σ : k_S) (x : Nat) : Int32 := pTall (σ.2 5) (σ.2 7) x (σ.2 8 x)
def tMay (σ : k_S) (x : Nat) : Int32 := pMay (σ.2 5) (σ.1 5) x (σ.2 8 x) (σ.2 9 x) (σ.1 6)
theorem T_tallOf (σ : k_S) {x : Nat} (hx : x < 10) : fX0_tallOf σ (nI x) = some (tTall σ x, σ) := by
  unfold fX0_tallOf
  simp (disch := omega) only [q_bn, q_ob, q_z0, q_z1, q_gd, q_cl, q_add, q_mul, q_lt, q_eq, q_eq0, q_lt0, q_0lt, q_ngl, q_ngr, q_ng0, q_ngz, q_ngn, q_ngp, q_nlt, T_tallWhenTold σ hx]
  rfl
theorem T_mayBeTold (σ : k_S) {x : Nat} (hx : x < 10) (t l n : Int32) : fX0_mayBeTold σ (nI x) t l n = some (pMay (σ.2 5) (σ.1 5) x t l n, σ) := by
  unfold fX0_mayBeTold pMay
  simp (disch := omega) only [q_bn, q_ob, q_z0, q_z1, q_gd, q_cl, q_add, q_mul, q_lt, q_eq, q_eq0, q_lt0, q_0lt, q_ngl, q_ngr, q_ng0, q_ngz, q_ngn, q_ngp, q_nlt]
  repeat' split
  all_goals rfl
theorem T_isTellable (σ : k_S) {x : Nat} (hx : x < 10) : fX0_isTellable σ (nI x) = some (tMay σ x, σ) := by
  unfold fX0_isTellable
  simp (disch := omega) only [q_bn, q_ob, q_z0, q_z1, q_gd, q_cl, q_add, q_mul, q_lt, q_eq, q_eq0, q_lt0, q_0lt, q_ngl, q_ngr, q_ng0, q_ngz, q_ngn, q_ngp, q_nlt, T_mayBeTold σ hx, q_zb (pMay_b _ _ _ _ _ _)]
  rfl
def pKind (kd : Nat → Int32) (x : Nat) : Prop := kd x = nI 0 ∨ kd x = nI 1 ∨ kd x = nI 2
/-! ===== the history: how often told, when the last time ===== -/
abbrev qA : Type := Nat → Int32
def hStep (s : qA × qA) (x : Int32) (n : Nat) : qA × qA := if x = k_ng 9 then s else (upd s.1 x.toNatClampNeg (s.1 x.toNatClampNeg + nI 1), upd s.2 x.toNatClampNeg (nI n))
def hRow (nT : qA) (n : Nat) : Nat → Nat → qA × qA → qA × qA
  | 0, _, s => s
  | d + 1, g, s => hRow nT n d (g + 1) (hStep s (nT (5 * n + g)) n)
def hAll (nT : qA) (G : Nat) : Nat → Nat → qA × qA → qA × qA
  | 0, _, s => s
  | d + 1, n, s => hAll nT G d (n + 1) (hRow nT n G 0 s)
def hFlat (mT : qA) : Nat → Nat → qA × qA → qA × qA
  | 0, _, s => s
  | d + 1, k, s => hFlat mT d (k + 1) (hStep s (mT k) (k / 5))
def hZ : qA × qA := (fun _ => nI 0, fun j => if j < 10 then k_ng 9 else nI 0)
/-- an entry: none, or a tale's number -/
def hOk (N : Nat) (x : Int32) : Prop := x = k_ng 9 ∨ ∃ a : Nat, a < N ∧ x = nI a
theorem hRow_congr {a b : qA} {n : Nat} : ∀ (d g : Nat) (s : qA × qA), (∀ j, g ≤ j → j < g + d → a (5 * n + j) = b (5 * n + j)) → hRow a n d g s = hRow b n d g s
  | 0, _, _, _ => rfl
  | d + 1, g, s, h => by
    unfold hRow
    rw [h g (Nat.le_refl g) (by omega)]
    exact hRow_congr d (g + 1) _ (fun j h1 h2 => h j (by omega) (by omega))
theorem hAll_congr {a b : qA} {G : Nat} : ∀ (d n : Nat) (s : qA × qA), (∀ i j, n ≤ i → i < n + d → j < G → a (5 * i + j) = b (5 * i + j)) → hAll a G d n s = hAll b G d n s
  | 0, _, _, _ => rfl
  | d + 1, n, s, h => by
    unfold hAll
    rw [hRow_congr (a := a) (b := b) G 0 s (fun j _ h2 => h n j (Nat.le_refl n) (by omega) (by omega))]
    exact hAll_congr d (n + 1) _ (fun i j h1 h2 h3 => h i j (by omega) (by omega) h3)
theorem hAll_last (nT : qA) (G : Nat) : ∀ (d n : Nat) (s : qA × qA), hAll nT G (d + 1) n s = hRow nT (n + d) G 0 (hAll nT G d n s)
  | 0, n, s => rfl
  | d + 1, n, s => by
    show hAll nT G (d + 1) (n + 1) (hRow nT n G 0 s) = _
    rw [hAll_last nT G d (n + 1)]
    rw [show n + 1 + d = n + (d + 1) by omega]
    rfl
theorem hFlat_add (mT : qA) : ∀ (d e k : Nat) (s : qA × qA), hFlat mT (d + e) k s = hFlat mT e (k + d) (hFlat mT d k s)
  | 0, e, k, s => by simp [hFlat]
  | d + 1, e, k, s => by
    rw [show d + 1 + e = (d + e) + 1 by omega]
    show hFlat mT (d + e) (k + 1) _ = _
    rw [hFlat_add mT d e (k + 1)]
    rw [show k + 1 + d = k + (d + 1) by omega]
    rfl
theorem hFlat_skip (mT : qA) : ∀ (d k : Nat) (s : qA × qA), (∀ j, k ≤ j → j < k + d → mT j = k_ng 9) → hFlat mT d k s = s
  | 0, _, _, _ => rfl
  | d + 1, k, s, h => by
    unfold hFlat
    rw [h k (Nat.le_refl k) (by omega)]
    show hFlat mT d (k + 1) (hStep s (k_ng 9) _) = s
    rw [show hStep s (k_ng 9) (k / 5) = s from if_pos rfl]
    exact hFlat_skip mT d (k + 1) s (fun j h1 h2 => h j (by omega) (by omega))
theorem hFlat_row (mT : qA) (n : Nat) : ∀ (d g : Nat) (s : qA × qA), g + d ≤ 5 → hFlat mT d (5 * n + g) s = hRow mT n d g s
  | 0, _, _, _ => rfl
  | d + 1, g, s, h => by
    unfold hFlat hRow
    rw [show (5 * n + g) / 5 = n by omega, show 5 * n + g + 1 = 5 * n + (g + 1) by omega]
    exact hFlat_row mT n d (g + 1) _ (by omega)
theorem hFlat_all (mT : qA) {G : Nat} (hG : G ≤ 5) : ∀ (d n : Nat) (s : qA × qA), (∀ i j, n ≤ i → i < n + d → G ≤ j → j < 5 → mT (5 * i + j) = k_ng 9) → hFlat mT (5 * d) (5 * n) s = hAll mT G d n s
  | 0, _, _, _ => rfl
  | d + 1, n, s, h => by
    rw [show 5 * (d + 1) = G + ((5 - G) + 5 * d) by omega, hFlat_add, hFlat_add, hFlat_skip mT (5 - G) (5 * n + G) _ (fun j h1 h2 => by
      have := h n (j - 5 * n) (Nat.le_refl n) (by omega) (by omega) (by omega)
      rwa [show 5 * n + (j - 5 * n) = j by omega] at this)]
    rw [show 5 * n + G + (5 - G) = 5 * (n + 1) by omega, hFlat_all mT hG d (n + 1) _ (fun i j h1 h2 h3 h4 => h i j (by omega) (by omega) h3 h4)]
    have := hFlat_row mT n G 0 s (by omega)
    rw [Nat.add_zero] at this
    rw [this]
    rfl
-- the rows' ends, and their sizes
def hTail (s : qA × qA) : Prop := ∀ j, 10 ≤ j → s.1 j = nI 0 ∧ s.2 j = nI 0
def hLe (s : qA × qA) (b : Nat) : Prop := ∀ j, ∃ t : Nat, t ≤ b ∧ s.1 j = nI t
theorem hStep_tail {N : Nat} (hN : N ≤ 10) {s : qA × qA} {x : Int32} (hx : hOk N x) (n : Nat) (h : hTail s) : hTail (hStep s x n) := by
  unfold hStep
  split
  · exact h
  next hne =>
    rcases hx with hx | ⟨a, ha, rfl⟩
    · exact absurd hx hne
    · intro j hj
      rw [q_cl (by omega)]
      exact ⟨(pk_un (by omega)).trans (h j hj).1, (pk_un (by omega)).trans (h j hj).2⟩
theorem hStep_le {N : Nat} (hN : N ≤ 10) {s : qA × qA} {x : Int32} (hx : hOk N x) (n : Nat) {b : Nat} (h : hLe s b) : hLe (hStep s x n) (b + 1) := by
  unfold hStep
  split
  · exact fun j => by
      obtain ⟨t, h1, h2⟩ := h j
      exact ⟨t, by omega, h2⟩
  next hne =>
    rcases hx with hx | ⟨a, ha, rfl⟩
    · exact absurd hx hne
    · intro j
      rw [q_cl (by omega)]
      by_cases hj : j = a
      · subst hj
        obtain ⟨t, h1, h2⟩ := h j
        exact ⟨t + 1, by omega, pk_us.trans (by rw [h2, q_add])⟩
      · obtain ⟨t, h1, h2⟩ := h j
        exact ⟨t, by omega, (pk_un hj).trans h2⟩
theorem hRow_tail {nT : qA} {N n : Nat} (hN : N ≤ 10) : ∀ (d g : Nat) (s : qA × qA), (∀ j, g ≤ j → j < g + d → hOk N (nT (5 * n + j))) → hTail s → hTail (hRow nT n d g s)
  | 0, _, _, _, h => h
  | d + 1, g, s, ho, h => hRow_tail hN d (g + 1) _ (fun j h1 h2 => ho j (by omega) (by omega)) (hStep_tail hN (ho g (Nat.le_refl g) (by omega)) n h)
theorem hRow_le {nT : qA} {N n : Nat} (hN : N ≤ 10) : ∀ (d g b : Nat) (s : qA × qA), (∀ j, g ≤ j → j < g + d → hOk N (nT (5 * n + j))) → hLe s b → hLe (hRow nT n d g s) (b + d)
  | 0, _, _, _, _, h => h
  | d + 1, g, b, s, ho, h => by
    have := hRow_le hN d (g + 1) (b + 1) _ (fun j h1 h2 => ho j (by omega) (by omega)) (hStep_le hN (ho g (Nat.le_refl g) (by omega)) n h)
    rw [show b + (d + 1) = b + 1 + d by omega]
    exact this
theorem hAll_tail {nT : qA} {N G : Nat} (hN : N ≤ 10) : ∀ (d n : Nat) (s : qA × qA), (∀ i j, n ≤ i → i < n + d → j < G → hOk N (nT (5 * i + j))) → hTail s → hTail (hAll nT G d n s)
  | 0, _, _, _, h => h
  | d + 1, n, s, ho, h => hAll_tail hN d (n + 1) _ (fun i j h1 h2 h3 => ho i j (by omega) (by omega) h3) (hRow_tail hN G 0 s (fun j _ h2 => ho n j (Nat.le_refl n) (by omega) (by omega)) h)
theorem hAll_le {nT : qA} {N G : Nat} (hN : N ≤ 10) : ∀ (d n b : Nat) (s : qA × qA), (∀ i j, n ≤ i → i < n + d → j < G → hOk N (nT (5 * i + j))) → hLe s b → hLe (hAll nT G d n s) (b + G * d)
  | 0, _, _, _, _, h => h
  | d + 1, n, b, s, ho, h => by
    have := hAll_le hN d (n + 1) (b + G) _ (fun i j h1 h2 h3 => ho i j (by omega) (by omega) h3) (hRow_le hN G 0 b s (fun j _ h2 => ho n j (Nat.le_refl n) (by omega) (by omega)) h)
    rw [show b + G * (d + 1) = b + G + G * d by rw [Nat.mul_succ]; omega]
    exact this
theorem hZ_tail : hTail hZ := fun j hj => ⟨rfl, if_neg (by omega)⟩
theorem hZ_le : hLe hZ 0 := fun j => ⟨0, Nat.le_refl 0, rfl⟩
theorem hZ_eq {a b : qA} (h : hTail (a, b)) : (k_fl a 0 10 (nI 0), k_fl b 0 10 (k_ng 9)) = hZ := by
  refine Prod.ext (funext fun j => ?_) (funext fun j => ?_)
  · show (if 0 ≤ j ∧ j < 10 then nI 0 else a j) = nI 0
    split
    · rfl
    · exact (h j (by omega)).1
  · show (if 0 ≤ j ∧ j < 10 then k_ng 9 else b j) = (if j < 10 then k_ng 9 else nI 0)
    by_cases hj : j < 10
    · rw [if_pos ⟨Nat.zero_le j, hj⟩, if_pos hj]
    · rw [if_neg (by omega), if_neg hj]
      exact (h j (by omega)).2
-- ---- the class: told and last by nights
def s89 (σ : k_S) (s : qA × qA) : k_S := k_sA (k_sA σ 8 s.1) 9 s.2
theorem s89_1 (σ : k_S) (s : qA × qA) : (s89 σ s).1 = σ.1 := rfl
theorem s89_8 (σ : k_S) (s : qA × qA) : (s89 σ s).2 8 = s.1 := rfl
theorem s89_9 (σ : k_S) (s : qA × qA) : (s89 σ s).2 9 = s.2 := rfl
theorem s89_o (σ : k_S) (s : qA × qA) {b : Nat} (h8 : b ≠ 8) (h9 : b ≠ 9) : (s89 σ s).2 b = σ.2 b := by
  unfold s89
  rw [s_sA2, if_neg h9, s_sA2, if_neg h8]
theorem s89_s89 (σ : k_S) (s t : qA × qA) : s89 (s89 σ s) t = s89 σ t := by
  unfold s89 k_sA k_up
  refine Prod.ext rfl ?_
  funext j
  by_cases h9 : j = 9
  · simp [h9]
  · by_cases h8 : j = 8 <;> simp [h8, h9]
theorem s89_id (σ : k_S) : s89 σ (σ.2 8, σ.2 9) = σ := by
  unfold s89
  rw [show (σ.2 8, σ.2 9).1 = σ.2 8 from rfl, s_Aid, show (σ.2 8, σ.2 9).2 = σ.2 9 from rfl, s_Aid]
theorem T_keepTold {σ : k_S} {N n : Nat} (hN : σ.1 4 = nI N) (hN10 : N ≤ 10) {x : Int32} (hx : hOk N x) : fX0_keepTold σ x (nI n) = some ((), s89 σ (hStep (σ.2 8, σ.2 9) x n)) := by
  unfold fX0_keepTold
  rcases hx with rfl | ⟨a, ha, rfl⟩
  · rw [T_hasTale_out hN (.inl (by rw [q_ng0 (by decide) (by decide)]; trivial))]
    simp (disch := omega) only [q_bn, q_ob, q_z0, q_z1, q_gd, q_cl, q_add, q_mul, q_lt, q_eq, q_eq0, q_lt0, q_0lt, q_ngl, q_ngr, q_ng0, q_ngz, q_ngn, q_ngp, q_nlt]
    simp only [nI_0, if_true]
    rw [show hStep (σ.2 8, σ.2 9) (k_ng 9) n = (σ.2 8, σ.2 9) from if_pos rfl, s89_id]
  · rw [T_hasTale_in hN hN10 ha]
    have h0 : ¬ nI 1 = 0 := by decide
    have h9 : ¬ nI a = k_ng 9 := by simp (disch := omega) only [q_bn, q_ob, q_z0, q_z1, q_gd, q_cl, q_add, q_mul, q_lt, q_eq, q_eq0, q_lt0, q_0lt, q_ngl, q_ngr, q_ng0, q_ngz, q_ngn, q_ngp, q_nlt]; exact not_false
    simp (disch := omega) only [q_bn, q_ob, q_z0, q_z1, q_gd, q_cl, q_add, q_mul, q_lt, q_eq, q_eq0, q_lt0, q_0lt, q_ngl, q_ngr, q_ng0, q_ngz, q_ngn, q_ngp, q_nlt, h0, if_false, s_sa, s_sA2]
    unfold hStep s89
    rw [if_neg h9]
    simp only [q_cl (show a < 2 ^ 31 by omega), if_neg (show ¬ (9 : Nat) = 8 by decide)]
theorem T_goBack_in {σ0 : k_S} {G N n : Nat} (hG : σ0.1 3 = nI G) (hG5 : G ≤ 5) (hN : σ0.1 4 = nI N) (hN10 : N ≤ 10) (hn : n < 60) (ho : ∀ j, j < G → hOk N (σ0.2 11 (5 * n + j))) (kh : k_S → Int32 → Option (Unit × k_S)) : ∀ (d g f : Nat) (s : qA × qA), g + d = G → d < f → fX0_goBack_c48 kh f (s89 σ0 s) (nI n) (nI g) = kh (s89 σ0 (hRow (σ0.2 11) n d g s)) (nI (n + 1)) := by
  intro d
  induction d with
  | zero =>
    intro g f s h1 h2
    obtain ⟨f, rfl⟩ := q_fu 0 h2
    rw [fX0_goBack_c48_s, s89_1, hG]
    rw [if_neg (by simp (disch := omega) only [q_bn, q_ob, q_z0, q_z1, q_gd, q_cl, q_add, q_mul, q_lt, q_eq, q_eq0, q_lt0, q_0lt, q_ngl, q_ngr, q_ng0, q_ngz, q_ngn, q_ngp, q_nlt]; omega)]
    simp (disch := omega) only [q_bn, q_ob, q_z0, q_z1, q_gd, q_cl, q_add, q_mul, q_lt, q_eq, q_eq0, q_lt0, q_0lt, q_ngl, q_ngr, q_ng0, q_ngz, q_ngn, q_ngp, q_nlt]
    rfl
  | succ d ih =>
    intro g f s h1 h2
    obtain ⟨f, rfl⟩ := q_fu (d + 1) h2
    rw [fX0_goBack_c48_s, s89_1, hG]
    rw [if_pos (by simp (disch := omega) only [q_bn, q_ob, q_z0, q_z1, q_gd, q_cl, q_add, q_mul, q_lt, q_eq, q_eq0, q_lt0, q_0lt, q_ngl, q_ngr, q_ng0, q_ngz, q_ngn, q_ngp, q_nlt]; omega)]
    simp (disch := omega) only [q_bn, q_ob, q_z0, q_z1, q_gd, q_cl, q_add, q_mul, q_lt, q_eq, q_eq0, q_lt0, q_0lt, q_ngl, q_ngr, q_ng0, q_ngz, q_ngn, q_ngp, q_nlt]
    rw [s89_o σ0 s (by decide) (by decide), show n * 5 + g = 5 * n + g by omega]
    rw [T_keepTold (σ := s89 σ0 s) hN hN10 (ho g (by omega))]
    simp (disch := omega) only [q_bn, q_ob, q_z0, q_z1, q_gd, q_cl, q_add, q_mul, q_lt, q_eq, q_eq0, q_lt0, q_0lt, q_ngl, q_ngr, q_ng0, q_ngz, q_ngn, q_ngp, q_nlt, s89_8, s89_9, s89_s89]
    rw [ih (g + 1) f _ (by omega) (by omega)]
    rfl
theorem T_goBack_out {σ0 : k_S} {G N K : Nat} (hG : σ0.1 3 = nI G) (hG5 : G ≤ 5) (hN : σ0.1 4 = nI N) (hN10 : N ≤ 10) (hK : σ0.1 6 = nI K) (hK60 : K ≤ 60) (ho : ∀ i j, i < K → j < G → hOk N (σ0.2 11 (5 * i + j))) : ∀ (d n f : Nat) (s : qA × qA), n + d = K → d < f → fX0_goBack_c38 f (s89 σ0 s) (nI n) = some ((), s89 σ0 (hAll (σ0.2 11) G d n s)) := by
  intro d
  induction d with
  | zero =>
    intro n f s h1 h2
    obtain ⟨f, rfl⟩ := q_fu 0 h2
    rw [fX0_goBack_c38_s, s89_1, hK, if_neg (by simp (disch := omega) only [q_bn, q_ob, q_z0, q_z1, q_gd, q_cl, q_add, q_mul, q_lt, q_eq, q_eq0, q_lt0, q_0lt, q_ngl, q_ngr, q_ng0, q_ngz, q_ngn, q_ngp, q_nlt]; omega)]
    rfl
  | succ d ih =>
    intro n f s h1 h2
    obtain ⟨f, rfl⟩ := q_fu (d + 1) h2
    rw [fX0_goBack_c38_s, s89_1, hK, if_pos (by simp (disch := omega) only [q_bn, q_ob, q_z0, q_z1, q_gd, q_cl, q_add, q_mul, q_lt, q_eq, q_eq0, q_lt0, q_0lt, q_ngl, q_ngr, q_ng0, q_ngz, q_ngn, q_ngp, q_nlt]; omega)]
    simp (disch := omega) only [q_bn, q_ob, q_z0, q_z1, q_gd, q_cl, q_add, q_mul, q_lt, q_eq, q_eq0, q_lt0, q_0lt, q_ngl, q_ngr, q_ng0, q_ngz, q_ngn, q_ngp, q_nlt]
    rw [T_goBack_in hG hG5 hN hN10 (by omega) (fun j hj => ho n j (by omega) hj) _ G 0 k_F s (by omega) (q_kF (by omega))]
    rw [ih (n + 1) f _ (by omega) (by omega)]
    rfl
/-- the class's nights undone: nothing is chosen, what was told is counted anew -/
theorem T_goBack {σ : k_S} {G N K k : Nat} (hG : σ.1 3 = nI G) (hG5 : G ≤ 5) (hN : σ.1 4 = nI N) (hN10 : N ≤ 10) (hK : σ.1 6 = nI K) (hK60 : K ≤ 60) (hk : k ≤ K) (ho : ∀ i j, i < K - k → j < G → hOk N (σ.2 11 (5 * i + j))) (ht : hTail (σ.2 8, σ.2 9)) : fX0_goBack σ (nI k) = some ((), s89 (k_sA (k_sf σ 6 (nI (K - k))) 10 (k_fl (σ.2 10) 0 5 (k_ng 9))) (hAll (σ.2 11) G (K - k) 0 hZ)) := by
  unfold fX0_goBack
  simp (disch := omega) only [q_bn, q_ob, q_z0, q_z1, q_gd, q_cl, q_add, q_mul, q_lt, q_eq, q_eq0, q_lt0, q_0lt, q_ngl, q_ngr, q_ng0, q_ngz, q_ngn, q_ngp, q_nlt, hK, q_sub]
  let σ0 := k_sA (k_sf σ 6 (nI (K - k))) 10 (k_fl (σ.2 10) 0 5 (k_ng 9))
  have e : (k_sA (k_sA (k_sA (k_sf σ 6 (nI (K - k))) 10 (k_fl ((k_sf σ 6 (nI (K - k))).2 10) 0 5 (k_ng 9))) 8 (k_fl ((k_sA (k_sf σ 6 (nI (K - k))) 10 (k_fl ((k_sf σ 6 (nI (K - k))).2 10) 0 5 (k_ng 9))).2 8) 0 10 (nI 0))) 9 (k_fl ((k_sA (k_sA (k_sf σ 6 (nI (K - k))) 10 (k_fl ((k_sf σ 6 (nI (K - k))).2 10) 0 5 (k_ng 9))) 8 (k_fl ((k_sA (k_sf σ 6 (nI (K - k))) 10 (k_fl ((k_sf σ 6 (nI (K - k))).2 10) 0 5 (k_ng 9))).2 8) 0 10 (nI 0))).2 9) 0 10 (k_ng 9))) = s89 σ0 hZ := by
    rw [← hZ_eq ht]
    rfl
  rw [e]
  exact T_goBack_out (σ0 := σ0) hG hG5 hN hN10 rfl (by omega) ho (K - k) 0 k_F hZ (by omega) (q_kF (by omega))
/-- the class's night: what is chosen is told -/
theorem T_goBy_told {σ0 : k_S} {G N K : Nat} (hG : σ0.1 3 = nI G) (hG5 : G ≤ 5) (hN : σ0.1 4 = nI N) (hN10 : N ≤ 10) (hK : σ0.1 6 = nI K) (hK60 : K < 60) (ho : ∀ j, j < G → hOk N (σ0.2 10 j)) (row : qA) (hrow : ∀ j, j < G → row (5 * K + j) = σ0.2 10 j) (l2 : Int32) : ∀ (d g f : Nat) (s : qA × qA), g + d = G → d < f → fX0_goBy_c87 f (s89 σ0 s) l2 (nI g) = some (l2, k_sA (k_sf (s89 σ0 (hRow row K d g s)) 6 (nI (K + 1))) 10 (k_fl (σ0.2 10) 0 5 (k_ng 9))) := by
  intro d
  induction d with
  | zero =>
    intro g f s h1 h2
    obtain ⟨f, rfl⟩ := q_fu 0 h2
    rw [fX0_goBy_c87_s, s89_1, hG, if_neg (by simp (disch := omega) only [q_bn, q_ob, q_z0, q_z1, q_gd, q_cl, q_add, q_mul, q_lt, q_eq, q_eq0, q_lt0, q_0lt, q_ngl, q_ngr, q_ng0, q_ngz, q_ngn, q_ngp, q_nlt]; omega)]
    simp (disch := omega) only [q_bn, q_ob, q_z0, q_z1, q_gd, q_cl, q_add, q_mul, q_lt, q_eq, q_eq0, q_lt0, q_0lt, q_ngl, q_ngr, q_ng0, q_ngz, q_ngn, q_ngp, q_nlt, hK, s_sf2, s89_o]
    rfl
  | succ d ih =>
    intro g f s h1 h2
    obtain ⟨f, rfl⟩ := q_fu (d + 1) h2
    rw [fX0_goBy_c87_s, s89_1, hG, if_pos (by simp (disch := omega) only [q_bn, q_ob, q_z0, q_z1, q_gd, q_cl, q_add, q_mul, q_lt, q_eq, q_eq0, q_lt0, q_0lt, q_ngl, q_ngr, q_ng0, q_ngz, q_ngn, q_ngp, q_nlt]; omega), hK]
    simp (disch := omega) only [q_bn, q_ob, q_z0, q_z1, q_gd, q_cl, q_add, q_mul, q_lt, q_eq, q_eq0, q_lt0, q_0lt, q_ngl, q_ngr, q_ng0, q_ngz, q_ngn, q_ngp, q_nlt]
    rw [s89_o σ0 s (by decide) (by decide)]
    rw [T_keepTold (σ := s89 σ0 s) hN hN10 (ho g (by omega))]
    simp (disch := omega) only [q_bn, q_ob, q_z0, q_z1, q_gd, q_cl, q_add, q_mul, q_lt, q_eq, q_eq0, q_lt0, q_0lt, q_ngl, q_ngr, q_ng0, q_ngz, q_ngn, q_ngp, q_nlt, s89_8, s89_9, s89_s89]
    rw [ih (g + 1) f _ (by omega) (by omega), ← hrow g (by omega)]
    rfl
/-! ===== talls, places, needs ===== -/
/-- places lo .. hi - 1 by f, else as it was -/
def pSet (f old : qA) (lo hi : Nat) : qA := fun j => if lo ≤ j ∧ j < hi then f j else old j
theorem pSet_in {f old : qA} {lo hi j : Nat} (h1 : lo ≤ j) (h2 : j < hi) : pSet f old lo hi j = f j := if_pos ⟨h1, h2⟩
theorem pSet_no (f old : qA) {lo hi : Nat} (h : hi ≤ lo) : pSet f old lo hi = old := funext fun j => if_neg (by omega)
theorem pSet_step (f old : qA) {lo hi : Nat} (h : lo < hi) : pSet f (upd old lo (f lo)) (lo + 1) hi = pSet f old lo hi := by
  funext j
  unfold pSet
  by_cases hj : j = lo
  · subst hj
    rw [if_neg (by omega), if_pos (by omega)]
    exact pk_us
  · by_cases h5 : lo ≤ j ∧ j < hi
    · rw [if_pos (by omega), if_pos h5]
    · rw [if_neg (by omega), if_neg h5]
      exact pk_un hj
def pCh (tl : Nat → Int32) (x : Int32) : Int32 := if x = k_ng 9 then nI 0 else tl x.toNatClampNeg
theorem T_talls {σ : k_S} {G N : Nat} (hG : σ.1 3 = nI G) (hG5 : G ≤ 5) (hN : σ.1 4 = nI N) (hN10 : N ≤ 10) (hc : ∀ g, g < G → hOk N (σ.2 10 g)) : fX0_tallsAsChosen σ = some ((), k_sA (k_sf σ 7 (nI G)) 14 (pSet (fun g => pCh (tTall σ) (σ.2 10 g)) (σ.2 14) 0 G)) := by
  have key : ∀ (d g f : Nat) (r : qA), g + d = G → d < f → fX0_tallsAsChosen_c10 f (k_sA (k_sf σ 7 (nI G)) 14 r) (nI g) = some ((), k_sA (k_sf σ 7 (nI G)) 14 (pSet (fun g => pCh (tTall σ) (σ.2 10 g)) r g G)) := by
    intro d
    induction d with
    | zero =>
      intro g f r h1 h2
      obtain ⟨f, rfl⟩ := q_fu 0 h2
      rw [fX0_tallsAsChosen_c10_s, show (k_sA (k_sf σ 7 (nI G)) 14 r).1 3 = nI G from hG, if_neg (by simp (disch := omega) only [q_bn, q_ob, q_z0, q_z1, q_gd, q_cl, q_add, q_mul, q_lt, q_eq, q_eq0, q_lt0, q_0lt, q_ngl, q_ngr, q_ng0, q_ngz, q_ngn, q_ngp, q_nlt]; omega), pSet_no _ _ (by omega)]
    | succ d ih =>
      intro g f r h1 h2
      obtain ⟨f, rfl⟩ := q_fu (d + 1) h2
      rw [fX0_tallsAsChosen_c10_s, show (k_sA (k_sf σ 7 (nI G)) 14 r).1 3 = nI G from hG, if_pos (by simp (disch := omega) only [q_bn, q_ob, q_z0, q_z1, q_gd, q_cl, q_add, q_mul, q_lt, q_eq, q_eq0, q_lt0, q_0lt, q_ngl, q_ngr, q_ng0, q_ngz, q_ngn, q_ngp, q_nlt]; omega)]
      unfold fX0_tallsAsChosen_c50
      have e : (k_sA (k_sf σ 7 (nI G)) 14 r).2 10 = σ.2 10 := rfl
      simp (disch := omega) only [q_bn, q_ob, q_z0, q_z1, q_gd, q_cl, q_add, q_mul, q_lt, q_eq, q_eq0, q_lt0, q_0lt, q_ngl, q_ngr, q_ng0, q_ngz, q_ngn, q_ngp, q_nlt, e]
      have hs : pSet (fun g => pCh (tTall σ) (σ.2 10 g)) r g G = pSet (fun g => pCh (tTall σ) (σ.2 10 g)) (upd r g (pCh (tTall σ) (σ.2 10 g))) (g + 1) G := (pSet_step (fun g => pCh (tTall σ) (σ.2 10 g)) r (show g < G by omega)).symm
      rcases hc g (by omega) with h | ⟨a, ha, h⟩
      · rw [h, T_hasTale_out (N := N) (show (k_sA (k_sf σ 7 (nI G)) 14 r).1 4 = nI N from hN) (.inl (by rw [q_ng0 (by decide) (by decide)]; trivial))]
        simp (disch := omega) only [q_bn, q_ob, q_z0, q_z1, q_gd, q_cl, q_add, q_mul, q_lt, q_eq, q_eq0, q_lt0, q_0lt, q_ngl, q_ngr, q_ng0, q_ngz, q_ngn, q_ngp, q_nlt, if_true, s_sa, s_sA2, s_AA]
        rw [ih (g + 1) f _ (by omega) (by omega), hs, h]
        rfl
      · have h0 : ¬ nI 1 = 0 := by decide
        have hp : pCh (tTall σ) (nI a) = tTall σ a := by
          unfold pCh
          rw [if_neg (by simp (disch := omega) only [q_bn, q_ob, q_z0, q_z1, q_gd, q_cl, q_add, q_mul, q_lt, q_eq, q_eq0, q_lt0, q_0lt, q_ngl, q_ngr, q_ng0, q_ngz, q_ngn, q_ngp, q_nlt]; exact not_false), q_cl (by omega)]
        rw [h, T_hasTale_in (show (k_sA (k_sf σ 7 (nI G)) 14 r).1 4 = nI N from hN) hN10 ha]
        simp (disch := omega) only [q_bn, q_ob, q_z0, q_z1, q_gd, q_cl, q_add, q_mul, q_lt, q_eq, q_eq0, q_lt0, q_0lt, q_ngl, q_ngr, q_ng0, q_ngz, q_ngn, q_ngp, q_nlt, if_false, h0, e, h]
        rw [T_tallOf _ (show a < 10 by omega)]
        simp (disch := omega) only [q_bn, q_ob, q_z0, q_z1, q_gd, q_cl, q_add, q_mul, q_lt, q_eq, q_eq0, q_lt0, q_0lt, q_ngl, q_ngr, q_ng0, q_ngz, q_ngn, q_ngp, q_nlt, s_sa, s_sA2, s_AA, if_true]
        rw [show tTall (k_sA (k_sf σ 7 (nI G)) 14 r) a = tTall σ a from rfl]
        rw [ih (g + 1) f _ (by omega) (by omega), hs, h, hp]
  unfold fX0_tallsAsChosen
  simp (disch := omega) only [q_bn, q_ob, q_z0, q_z1, q_gd, q_cl, q_add, q_mul, q_lt, q_eq, q_eq0, q_lt0, q_0lt, q_ngl, q_ngr, q_ng0, q_ngz, q_ngn, q_ngp, q_nlt, hG]
  have := key G 0 k_F (σ.2 14) (by omega) (q_kF (by omega))
  rw [show σ.2 14 = (k_sf σ 7 (nI G)).2 14 from rfl, s_Aid] at this
  exact this
-- ---- places
def pPl (w : qA) (g : Nat) (t : Int32) : Nat → Nat → Nat → Nat
  | 0, _, acc => acc
  | d + 1, o, acc => pPl w g t d (o + 1) (if o = g then acc else if t < w o then acc + 1 else if w o = t then (if o < g then acc + 1 else acc) else acc)
theorem pPl_congr {v w : qA} {g : Nat} {t : Int32} : ∀ (d o acc : Nat), (∀ j, o ≤ j → j < o + d → j ≠ g → v j = w j) → pPl v g t d o acc = pPl w g t d o acc
  | 0, _, _, _ => rfl
  | d + 1, o, acc, h => by
    unfold pPl
    by_cases ho : o = g
    · rw [if_pos ho, if_pos ho]
      exact pPl_congr d (o + 1) _ (fun j h1 h2 h3 => h j (by omega) (by omega) h3)
    · rw [if_neg ho, if_neg ho, h o (Nat.le_refl o) (by omega) ho]
      exact pPl_congr d (o + 1) _ (fun j h1 h2 h3 => h j (by omega) (by omega) h3)
theorem pPl_le (w : qA) (g : Nat) (t : Int32) : ∀ (d o acc : Nat), pPl w g t d o acc ≤ acc + d
  | 0, _, acc => Nat.le_refl acc
  | d + 1, o, acc => by
    unfold pPl
    refine Nat.le_trans (pPl_le w g t d (o + 1) _) ?_
    repeat' split
    all_goals omega
theorem T_placeOf {σ : k_S} {G g : Nat} (hG : σ.1 7 = nI G) (hG5 : G ≤ 5) (hg : g < 5) (t : Int32) : fX3_placeOf σ (nI g) t = some (nI (pPl (σ.2 14) g t G 0 0), σ) := by
  have key : ∀ (d o acc f : Nat), o + d = G → d < f → fX3_placeOf_c5 f σ (nI g) t (nI acc) (nI o) = some (nI (pPl (σ.2 14) g t d o acc), σ) := by
    intro d
    induction d with
    | zero =>
      intro o acc f h1 h2
      obtain ⟨f, rfl⟩ := q_fu 0 h2
      rw [fX3_placeOf_c5_s, hG, if_neg (by simp (disch := omega) only [q_bn, q_ob, q_z0, q_z1, q_gd, q_cl, q_add, q_mul, q_lt, q_eq, q_eq0, q_lt0, q_0lt, q_ngl, q_ngr, q_ng0, q_ngz, q_ngn, q_ngp, q_nlt]; omega)]
      rfl
    | succ d ih =>
      intro o acc f h1 h2
      obtain ⟨f, rfl⟩ := q_fu (d + 1) h2
      rw [fX3_placeOf_c5_s, hG, if_pos (by simp (disch := omega) only [q_bn, q_ob, q_z0, q_z1, q_gd, q_cl, q_add, q_mul, q_lt, q_eq, q_eq0, q_lt0, q_0lt, q_ngl, q_ngr, q_ng0, q_ngz, q_ngn, q_ngp, q_nlt]; omega)]
      unfold fX3_placeOf_c51 fX3_placeOf_c54 pPl
      simp (disch := omega) only [q_bn, q_ob, q_z0, q_z1, q_gd, q_cl, q_add, q_mul, q_lt, q_eq, q_eq0, q_lt0, q_0lt, q_ngl, q_ngr, q_ng0, q_ngz, q_ngn, q_ngp, q_nlt]
      repeat' split
      all_goals exact ih (o + 1) _ f (by omega) (by omega)
  unfold fX3_placeOf
  simp (disch := omega) only [q_bn, q_ob, q_z0, q_z1, q_gd, q_cl, q_add, q_mul, q_lt, q_eq, q_eq0, q_lt0, q_0lt, q_ngl, q_ngr, q_ng0, q_ngz, q_ngn, q_ngp, q_nlt]
  exact key G 0 0 k_F (by omega) (q_kF (by omega))
-- ---- needs
def pNd (w : Nat → Nat) (g : Nat) : Nat → Nat → Nat → Nat
  | 0, _, acc => acc
  | d + 1, o, acc => pNd w g d (o + 1) (if o = g then acc else if o < g then (if acc < w o + 1 then w o + 1 else acc) else (if acc < w o then w o else acc))
theorem q_mx {a b : Nat} (ha : a < 2 ^ 31) (hb : b < 2 ^ 31) : k_mx (nI a) (nI b) = nI (if a < b then b else a) := by
  unfold k_mx
  simp only [q_lt ha hb]
  split <;> rfl
theorem T_needOf {σ : k_S} {G g : Nat} {w : Nat → Nat} (hG : σ.1 7 = nI G) (hG5 : G ≤ 5) (hg : g < 5) (hw : ∀ o, o < G → σ.2 14 o = nI (w o) ∧ w o ≤ 10000) : fX3_needOf σ (nI g) = some (nI (pNd w g G 0 1), σ) := by
  have key : ∀ (d o acc f : Nat), o + d = G → d < f → acc ≤ 10001 → fX3_needOf_c4 f σ (nI g) (nI acc) (nI o) = some (nI (pNd w g d o acc), σ) := by
    intro d
    induction d with
    | zero =>
      intro o acc f h1 h2 _
      obtain ⟨f, rfl⟩ := q_fu 0 h2
      rw [fX3_needOf_c4_s, hG, if_neg (by simp (disch := omega) only [q_bn, q_ob, q_z0, q_z1, q_gd, q_cl, q_add, q_mul, q_lt, q_eq, q_eq0, q_lt0, q_0lt, q_ngl, q_ngr, q_ng0, q_ngz, q_ngn, q_ngp, q_nlt]; omega)]
      rfl
    | succ d ih =>
      intro o acc f h1 h2 h3
      obtain ⟨f, rfl⟩ := q_fu (d + 1) h2
      obtain ⟨e, hle⟩ := hw o (by omega)
      rw [fX3_needOf_c4_s, hG, if_pos (by simp (disch := omega) only [q_bn, q_ob, q_z0, q_z1, q_gd, q_cl, q_add, q_mul, q_lt, q_eq, q_eq0, q_lt0, q_0lt, q_ngl, q_ngr, q_ng0, q_ngz, q_ngn, q_ngp, q_nlt]; omega)]
      unfold fX3_needOf_c43 fX3_needOf_c47 pNd
      simp (disch := omega) only [q_bn, q_ob, q_z0, q_z1, q_gd, q_cl, q_add, q_mul, q_lt, q_eq, q_eq0, q_lt0, q_0lt, q_ngl, q_ngr, q_ng0, q_ngz, q_ngn, q_ngp, q_nlt, e, q_mx]
      repeat' split
      all_goals exact ih (o + 1) _ f (by omega) (by omega) (by omega)
  unfold fX3_needOf
  simp (disch := omega) only [q_bn, q_ob, q_z0, q_z1, q_gd, q_cl, q_add, q_mul, q_lt, q_eq, q_eq0, q_lt0, q_0lt, q_ngl, q_ngr, q_ng0, q_ngz, q_ngn, q_ngp, q_nlt]
  exact key G 0 1 k_F (by omega) (q_kF (by omega)) (by omega)
-- ---- a bishop
def pBi (w : qA) (t : Int32) : Nat → Nat → Nat → Nat
  | 0, _, acc => acc
  | d + 1, o, acc => pBi w t d (o + 1) (if 0 < w o then (if w o < t then acc else acc + 1) else acc)
theorem T_noLess {σ : k_S} {G : Nat} (hG : σ.1 7 = nI G) (hG5 : G ≤ 5) (t : Int32) : fX3_noLessThan σ t = some (nI (pBi (σ.2 14) t G 0 0), σ) := by
  have key : ∀ (d o acc f : Nat), o + d = G → d < f → fX3_noLessThan_c4 f σ t (nI acc) (nI o) = some (nI (pBi (σ.2 14) t d o acc), σ) := by
    intro d
    induction d with
    | zero =>
      intro o acc f h1 h2
      obtain ⟨f, rfl⟩ := q_fu 0 h2
      rw [fX3_noLessThan_c4_s, hG, if_neg (by simp (disch := omega) only [q_bn, q_ob, q_z0, q_z1, q_gd, q_cl, q_add, q_mul, q_lt, q_eq, q_eq0, q_lt0, q_0lt, q_ngl, q_ngr, q_ng0, q_ngz, q_ngn, q_ngp, q_nlt]; omega)]
      rfl
    | succ d ih =>
      intro o acc f h1 h2
      obtain ⟨f, rfl⟩ := q_fu (d + 1) h2
      rw [fX3_noLessThan_c4_s, hG, if_pos (by simp (disch := omega) only [q_bn, q_ob, q_z0, q_z1, q_gd, q_cl, q_add, q_mul, q_lt, q_eq, q_eq0, q_lt0, q_0lt, q_ngl, q_ngr, q_ng0, q_ngz, q_ngn, q_ngp, q_nlt]; omega)]
      unfold fX3_noLessThan_c34 pBi
      simp (disch := omega) only [q_bn, q_ob, q_z0, q_z1, q_gd, q_cl, q_add, q_mul, q_lt, q_eq, q_eq0, q_lt0, q_0lt, q_ngl, q_ngr, q_ng0, q_ngz, q_ngn, q_ngp, q_nlt]
      repeat' split
      all_goals exact ih (o + 1) _ f (by omega) (by omega)
  unfold fX3_noLessThan
  simp (disch := omega) only [q_bn, q_ob, q_z0, q_z1, q_gd, q_cl, q_add, q_mul, q_lt, q_eq, q_eq0, q_lt0, q_0lt, q_ngl, q_ngr, q_ng0, q_ngz, q_ngn, q_ngp, q_nlt]
  exact key G 0 0 k_F (by omega) (q_kF (by omega))
def pNa (p : Nat → Int32) (x : Int32) : Nat → Nat → Nat → Nat
  | 0, _, acc => acc
  | d + 1, n, acc => pNa p x d (n + 1) (if p n = x then acc + 1 else acc)
theorem pNa_congr {p q : Nat → Int32} {x : Int32} : ∀ (d n acc : Nat), (∀ j, n ≤ j → j < n + d → p j = q j) → pNa p x d n acc = pNa q x d n acc
  | 0, _, _, _ => rfl
  | d + 1, n, acc, h => by
    unfold pNa
    rw [h n (Nat.le_refl n) (by omega)]
    exact pNa_congr d (n + 1) _ (fun j h1 h2 => h j (by omega) (by omega))
theorem T_nightsAt {σ : k_S} {K g : Nat} (hK : σ.1 6 = nI K) (hK60 : K ≤ 60) (hg : g < 5) (x : Int32) : fX0_nightsAt σ (nI g) x = some (nI (pNa (fun n => σ.2 12 (5 * n + g)) x K 0 0), σ) := by
  have key : ∀ (d n acc f : Nat), n + d = K → d < f → fX0_nightsAt_c5 f σ (nI g) x (nI acc) (nI n) = some (nI (pNa (fun n => σ.2 12 (5 * n + g)) x d n acc), σ) := by
    intro d
    induction d with
    | zero =>
      intro o acc f h1 h2
      obtain ⟨f, rfl⟩ := q_fu 0 h2
      rw [fX0_nightsAt_c5_s, hK, if_neg (by simp (disch := omega) only [q_bn, q_ob, q_z0, q_z1, q_gd, q_cl, q_add, q_mul, q_lt, q_eq, q_eq0, q_lt0, q_0lt, q_ngl, q_ngr, q_ng0, q_ngz, q_ngn, q_ngp, q_nlt]; omega)]
      rfl
    | succ d ih =>
      intro o acc f h1 h2
      obtain ⟨f, rfl⟩ := q_fu (d + 1) h2
      rw [fX0_nightsAt_c5_s, hK, if_pos (by simp (disch := omega) only [q_bn, q_ob, q_z0, q_z1, q_gd, q_cl, q_add, q_mul, q_lt, q_eq, q_eq0, q_lt0, q_0lt, q_ngl, q_ngr, q_ng0, q_ngz, q_ngn, q_ngp, q_nlt]; omega)]
      unfold fX0_nightsAt_c32 pNa
      simp (disch := omega) only [q_bn, q_ob, q_z0, q_z1, q_gd, q_cl, q_add, q_mul, q_lt, q_eq, q_eq0, q_lt0, q_0lt, q_ngl, q_ngr, q_ng0, q_ngz, q_ngn, q_ngp, q_nlt]
      rw [show o * 5 + g = 5 * o + g by omega]
      split
      all_goals exact ih (o + 1) _ f (by omega) (by omega)
  unfold fX0_nightsAt
  simp (disch := omega) only [q_bn, q_ob, q_z0, q_z1, q_gd, q_cl, q_add, q_mul, q_lt, q_eq, q_eq0, q_lt0, q_0lt, q_ngl, q_ngr, q_ng0, q_ngz, q_ngn, q_ngp, q_nlt]
  exact key K 0 0 k_F (by omega) (q_kF (by omega))
/-- a guest's place in a row of talls -/
def qPlace (G : Nat) (row : qA) (g : Nat) : Nat := pPl row g (row g) G 0 0
theorem qPlace_congr {G : Nat} {v w : qA} {g : Nat} (hg : g < G) (h : ∀ j, j < G → v j = w j) : qPlace G v g = qPlace G w g := by
  unfold qPlace
  rw [h g hg]
  exact pPl_congr G 0 0 (fun j _ h2 _ => h j (by omega))
theorem T_isOpen {σ : k_S} {G : Nat} (hG : σ.1 3 = nI G) (hG5 : G ≤ 5) : fX0_isOpen σ = some (if G = 0 then nI 0 else nI 1, σ) := by
  unfold fX0_isOpen
  rw [hG]
  by_cases h0 : G = 0
  · subst h0; rfl
  · rw [if_pos (by simp (disch := omega) only [q_bn, q_ob, q_z0, q_z1, q_gd, q_cl, q_add, q_mul, q_lt, q_eq, q_eq0, q_lt0, q_0lt, q_ngl, q_ngr, q_ng0, q_ngz, q_ngn, q_ngp, q_nlt]; omega), if_neg h0]; rfl
