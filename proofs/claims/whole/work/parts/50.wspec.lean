/-! ===== a winter: the rows, one after another ===== -/
abbrev qN : Type := Nat → Nat
abbrev qB : Type := Nat × qN
def nUp (r : qN) (q v : Nat) : qN := fun j => if j = q then v else r j
theorem nUp_s {r : qN} {q v : Nat} : nUp r q v q = v := if_pos rfl
theorem nUp_n {r : qN} {q v j : Nat} (h : j ≠ q) : nUp r q v j = r j := if_neg h
/-- how many of the first q nights are won -/
def wonR (r : qN) : Nat → Nat
  | 0 => 0
  | q + 1 => wonR r q + if r q = 10 then 0 else 1
theorem wonR_congr {r s : qN} : ∀ (q : Nat), (∀ j, j < q → r j = s j) → wonR r q = wonR s q
  | 0, _ => rfl
  | q + 1, h => by
    unfold wonR
    rw [wonR_congr q (fun j hj => h j (by omega)), h q (by omega)]
theorem wonR_le (r : qN) : ∀ (q : Nat), wonR r q ≤ q
  | 0 => Nat.le_refl 0
  | q + 1 => by
    unfold wonR
    have := wonR_le r q
    split <;> omega
theorem wonR_up (r : qN) (q v : Nat) : wonR (nUp r q v) (q + 1) = wonR r q + if v = 10 then 0 else 1 := by
  show wonR (nUp r q v) q + (if nUp r q v q = 10 then 0 else 1) = _
  rw [nUp_s, wonR_congr (s := r) q (fun j hj => nUp_n (by omega))]
/-- what is tried in a night, from v on -/
def sA (F : Nat → qB → qB) (ok : Nat → Bool) : Nat → Nat → qB → qB
  | 0, _, B => B
  | e + 1, v, B => sA F ok e (v + 1) (if ok v then F v B else B)
theorem sA_s (F : Nat → qB → qB) (ok : Nat → Bool) (e v : Nat) (B : qB) : sA F ok (e + 1) v B = sA F ok e (v + 1) (if ok v then F v B else B) := rfl
def sLeaf (n : Nat) (r : qN) (B : qB) : qB := if B.1 < wonR r n + 1 then (wonR r n + 1, r) else B
/-- the row that wins most, the first of them: over all rows that go on as r does up to night q -/
def sS (ok : Nat → qN → Nat → Bool) (n : Nat) : Nat → Nat → qN → qB → qB
  | 0, _, r, B => sLeaf n r B
  | d + 1, q, r, B => sA (fun v C => sS ok n d (q + 1) (nUp r q v) C) (ok q r) 11 0 B
theorem sS_s (ok : Nat → qN → Nat → Bool) (n d q : Nat) (r : qN) (B : qB) : sS ok n (d + 1) q r B = sA (fun v C => sS ok n d (q + 1) (nUp r q v) C) (ok q r) 11 0 B := rfl
theorem sA_skip {F : Nat → qB → qB} {ok : Nat → Bool} : ∀ (k e v : Nat) (B : qB), (∀ j, v ≤ j → j < v + k → ok j = false) → sA F ok (k + e) v B = sA F ok e (v + k) B
  | 0, e, v, B, _ => by rw [Nat.zero_add, Nat.add_zero]
  | k + 1, e, v, B, h => by
    rw [show k + 1 + e = k + e + 1 by omega, sA_s, h v (Nat.le_refl v) (by omega), if_neg (by decide), sA_skip k e (v + 1) B (fun j h1 h2 => h j (by omega) (by omega)), show v + 1 + k = v + (k + 1) by omega]
theorem sA_keep {F : Nat → qB → qB} {ok : Nat → Bool} {B : qB} (h : ∀ v, ok v = true → F v B = B) : ∀ (e v : Nat), sA F ok e v B = B
  | 0, _ => rfl
  | e + 1, v => by
    rw [sA_s]
    by_cases hv : ok v = true
    · rw [if_pos hv, h v hv]; exact sA_keep h e (v + 1)
    · rw [if_neg hv]; exact sA_keep h e (v + 1)
/-- no row of these can win more -/
theorem sS_keep {ok : Nat → qN → Nat → Bool} {n : Nat} {U : Nat → Nat} {Good : qN → Nat → Prop} (hg : ∀ q r v, q < n → Good r q → ok q r v = true → Good (nUp r q v) (q + 1) ∧ U (q + 1) + (if v = 10 then 0 else 1) ≤ U q) : ∀ (d q : Nat) (r : qN) (B : qB), q + d = n → Good r q → wonR r q + U q + 1 ≤ B.1 → sS ok n d q r B = B
  | 0, q, r, B, h1, _, h2 => by
    have e : q = n := by omega
    subst e
    show sLeaf q r B = B
    unfold sLeaf
    rw [if_neg (by omega)]
  | d + 1, q, r, B, h1, h2, h3 => by
    rw [sS_s]
    refine sA_keep (fun v hv => ?_) 11 0
    obtain ⟨h4, h5⟩ := hg q r v (by omega) h2 hv
    refine sS_keep hg d (q + 1) _ B (by omega) h4 ?_
    rw [wonR_up]
    omega
/-- the best so far: no number, or one and its row -/
def encB (e : Int32) (m : Nat) : Int32 := if m = 0 then e else nI (m - 1)
theorem encB_lt {c m a : Nat} (hc : 0 < c) (hc2 : c < 100) (hm : m < 1000) (ha : a < 1000) : (encB (k_ng c) m < nI a) = (m < a + 1) := by
  unfold encB
  by_cases h : m = 0
  · rw [if_pos h, q_ngp hc (by omega) (by omega)]
    exact (eq_true (by omega)).symm
  · rw [if_neg h, q_lt (by omega) (by omega)]
    exact propext (by omega)
theorem sS_le {ok : Nat → qN → Nat → Bool} {n : Nat} : ∀ (d q : Nat) (r : qN) (B : qB), B.1 ≤ n + 1 → (sS ok n d q r B).1 ≤ n + 1 ∧ B.1 ≤ (sS ok n d q r B).1
  | 0, q, r, B, h => by
    show (sLeaf n r B).1 ≤ n + 1 ∧ B.1 ≤ (sLeaf n r B).1
    unfold sLeaf
    have := wonR_le r n
    split
    · exact ⟨by show wonR r n + 1 ≤ n + 1; omega, by show B.1 ≤ wonR r n + 1; omega⟩
    · exact ⟨h, Nat.le_refl _⟩
  | d + 1, q, r, B, h => by
    have key : ∀ (e v : Nat) (C : qB), C.1 ≤ n + 1 → (sA (fun v C => sS ok n d (q + 1) (nUp r q v) C) (ok q r) e v C).1 ≤ n + 1 ∧ C.1 ≤ (sA (fun v C => sS ok n d (q + 1) (nUp r q v) C) (ok q r) e v C).1 := by
      intro e
      induction e with
      | zero => exact fun v C hC => ⟨hC, Nat.le_refl _⟩
      | succ e ih =>
        intro v C hC
        rw [sA_s]
        by_cases hv : ok q r v = true
        · rw [if_pos hv]
          have h1 := sS_le (ok := ok) d (q + 1) (nUp r q v) C hC
          have h2 := ih (v + 1) _ h1.1
          exact ⟨h2.1, Nat.le_trans h1.2 h2.2⟩
        · rw [if_neg hv]
          exact ih (v + 1) C hC
    exact key 11 0 B h
/-- some row there is -/
theorem sS_one {ok : Nat → qN → Nat → Bool} {n : Nat} (h10 : ∀ q r, ok q r 10 = true) : ∀ (d q : Nat) (r : qN) (B : qB), 1 ≤ (sS ok n d q r B).1
  | 0, q, r, B => by
    show 1 ≤ (sLeaf n r B).1
    unfold sLeaf
    split
    · exact Nat.le_add_left 1 _
    · omega
  | d + 1, q, r, B => by
    have key : ∀ (e v : Nat) (C : qB), v + e = 11 → 0 < e → 1 ≤ (sA (fun v C => sS ok n d (q + 1) (nUp r q v) C) (ok q r) e v C).1 := by
      intro e
      induction e with
      | zero => exact fun v C _ h => absurd h (by decide)
      | succ e ih =>
        intro v C h1 _
        rw [sA_s]
        by_cases he : e = 0
        · subst he
          have : v = 10 := by omega
          subst this
          rw [if_pos (h10 q r)]
          exact sS_one h10 d (q + 1) _ C
        · exact ih (v + 1) _ (by omega) (by omega)
    exact key 11 0 B rfl (by decide)
-- ---- how often a tale is told by a row, and when the last time
def toR (t0 : Nat) (r : qN) (x : Nat) : Nat → Nat
  | 0 => t0
  | q + 1 => toR t0 r x q + if r q = x then 1 else 0
def laR (l0 : Int32) (K : Nat) (r : qN) (x : Nat) : Nat → Int32
  | 0 => l0
  | q + 1 => if r q = x then nI (K + q) else laR l0 K r x q
theorem toR_congr {t0 x : Nat} {r s : qN} : ∀ (q : Nat), (∀ j, j < q → r j = s j) → toR t0 r x q = toR t0 s x q
  | 0, _ => rfl
  | q + 1, h => by
    unfold toR
    rw [toR_congr q (fun j hj => h j (by omega)), h q (by omega)]
theorem laR_congr {l0 : Int32} {K x : Nat} {r s : qN} : ∀ (q : Nat), (∀ j, j < q → r j = s j) → laR l0 K r x q = laR l0 K s x q
  | 0, _ => rfl
  | q + 1, h => by
    unfold laR
    rw [laR_congr q (fun j hj => h j (by omega)), h q (by omega)]
theorem toR_le {t0 x : Nat} {r : qN} : ∀ (q : Nat), toR t0 r x q ≤ t0 + q
  | 0 => Nat.le_refl _
  | q + 1 => by
    unfold toR
    have := toR_le (t0 := t0) (x := x) (r := r) q
    split <;> omega
theorem toR_up {t0 x q v : Nat} {r : qN} : toR t0 (nUp r q v) x (q + 1) = toR t0 r x q + if v = x then 1 else 0 := by
  show toR t0 (nUp r q v) x q + (if nUp r q v q = x then 1 else 0) = _
  rw [nUp_s, toR_congr (s := r) q (fun j hj => nUp_n (by omega))]
theorem laR_up {l0 : Int32} {K x q v : Nat} {r : qN} : laR l0 K (nUp r q v) x (q + 1) = if v = x then nI (K + q) else laR l0 K r x q := by
  show (if nUp r q v q = x then nI (K + q) else laR l0 K (nUp r q v) x q) = _
  rw [nUp_s, laR_congr (s := r) q (fun j hj => nUp_n (by omega))]
