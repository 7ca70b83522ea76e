/-! ===== the choices, one after another ===== -/
abbrev qP : Type := Nat → Option Nat
/-- the first x of d from x on that may be -/
def fnd (ok : Nat → Bool) : Nat → Nat → Option Nat
  | 0, _ => none
  | d + 1, x => if ok x then some x else fnd ok d (x + 1)
def cnt (ok : Nat → Bool) : Nat → Nat → Nat
  | 0, _ => 0
  | d + 1, x => (if ok x then 1 else 0) + cnt ok d (x + 1)
theorem cnt_s (ok : Nat → Bool) (d x : Nat) : cnt ok (d + 1) x = (if ok x then 1 else 0) + cnt ok d (x + 1) := rfl
theorem fnd_s (ok : Nat → Bool) (d x : Nat) : fnd ok (d + 1) x = if ok x then some x else fnd ok d (x + 1) := rfl
theorem fnd_some {ok : Nat → Bool} {s : Nat} : ∀ (d x : Nat), fnd ok d x = some s → x ≤ s ∧ s < x + d ∧ ok s = true ∧ (∀ j, x ≤ j → j < s → ok j = false) ∧ cnt ok d x = 1 + cnt ok (x + d - (s + 1)) (s + 1)
  | 0, _, h => by cases h
  | d + 1, x, h => by
    unfold fnd at h
    rw [cnt_s]
    by_cases hx : ok x = true
    · rw [if_pos hx] at h
      cases h
      rw [if_pos hx, show s + (d + 1) - (s + 1) = d by omega]
      exact ⟨Nat.le_refl s, by omega, hx, fun j h1 h2 => by omega, rfl⟩
    · rw [if_neg hx] at h
      obtain ⟨h1, h2, h3, h4, h5⟩ := fnd_some d (x + 1) h
      rw [if_neg hx, h5, show x + (d + 1) - (s + 1) = x + 1 + d - (s + 1) by omega]
      refine ⟨by omega, by omega, h3, fun j h6 h7 => ?_, by omega⟩
      by_cases hj : j = x
      · rw [hj]; exact Bool.eq_false_iff.mpr hx
      · exact h4 j (by omega) h7
theorem fnd_none {ok : Nat → Bool} : ∀ (d x : Nat), fnd ok d x = none → cnt ok d x = 0 ∧ ∀ j, x ≤ j → j < x + d → ok j = false
  | 0, _, _ => ⟨rfl, fun j h1 h2 => by omega⟩
  | d + 1, x, h => by
    unfold fnd at h
    unfold cnt
    by_cases hx : ok x = true
    · rw [if_pos hx] at h
      cases h
    · rw [if_neg hx] at h
      obtain ⟨h1, h2⟩ := fnd_none d (x + 1) h
      rw [if_neg hx, h1]
      refine ⟨rfl, fun j h6 h7 => ?_⟩
      by_cases hj : j = x
      · rw [hj]; exact Bool.eq_false_iff.mpr hx
      · exact h2 j (by omega) (by omega)
theorem fnd_le {ok : Nat → Bool} {d x y : Nat} (h1 : x ≤ y) (h2 : y < x + d) (hy : ok y = true) : ∃ s, fnd ok d x = some s ∧ s ≤ y := by
  cases h : fnd ok d x with
  | none =>
    have := (fnd_none d x h).2 y h1 h2
    rw [hy] at this
    cases this
  | some s =>
    refine ⟨s, rfl, Nat.le_of_not_lt fun q => ?_⟩
    have := (fnd_some d x h).2.2.2.1 y h1 q
    rw [hy] at this
    cases this
theorem fnd_congr {o1 o2 : Nat → Bool} : ∀ (d x : Nat), (∀ j, x ≤ j → j < x + d → o1 j = o2 j) → fnd o1 d x = fnd o2 d x
  | 0, _, _ => rfl
  | d + 1, x, h => by
    unfold fnd
    rw [h x (Nat.le_refl x) (by omega), fnd_congr d (x + 1) (fun j h1 h2 => h j (by omega) (by omega))]
-- ---- one choice, and the next one
section qEn
variable (ok : Nat → Nat → Bool) (N : Nat)
def qFs (g : Nat) : Option Nat := fnd (ok g) N 0
def qNxt (g : Nat) : Option Nat → Option Nat
  | none => none
  | some a => fnd (ok g) (N - (a + 1)) (a + 1)
def qUp (P : qP) (g : Nat) (o : Option Nat) : qP := fun j => if j = g then o else P j
def qNX : Nat → qP → Option qP
  | 0, _ => none
  | l + 1, P => match qNxt ok N l (P l) with
    | some s => some (qUp P l (some s))
    | none => qNX l (qUp P l (qFs ok N l))
def qC (g : Nat) : Nat := if cnt (ok g) N 0 = 0 then 1 else cnt (ok g) N 0
def qRa (g : Nat) : Option Nat → Nat
  | none => 0
  | some a => cnt (ok g) (N - (a + 1)) (a + 1)
/-- how many choices come after this one -/
def qVal : Nat → qP → Nat
  | 0, _ => 0
  | l + 1, P => qVal l P * qC ok N l + qRa ok N l (P l)
def qPr : Nat → Nat
  | 0 => 1
  | l + 1 => qPr l * qC ok N l
/-- a choice that may be -/
def qV (G : Nat) (P : qP) : Prop := ∀ g, g < G → (P g = none ∧ qFs ok N g = none) ∨ ∃ a, P g = some a ∧ a < N ∧ ok g a = true
end qEn
theorem qUp_s {P : qP} {g : Nat} {o : Option Nat} : qUp P g o g = o := if_pos rfl
theorem qUp_n {P : qP} {g j : Nat} {o : Option Nat} (h : j ≠ g) : qUp P g o j = P j := if_neg h
theorem qFs_ra {ok : Nat → Nat → Bool} {N g : Nat} : qRa ok N g (qFs ok N g) + 1 = qC ok N g := by
  unfold qC
  cases h : qFs ok N g with
  | none => rw [if_pos (fnd_none N 0 h).1]; rfl
  | some s =>
    have := (fnd_some N 0 h).2.2.2.2
    rw [Nat.zero_add] at this
    rw [if_neg (by omega)]
    show cnt (ok g) (N - (s + 1)) (s + 1) + 1 = _
    omega
theorem qFs_ok {ok : Nat → Nat → Bool} {N g : Nat} : (qFs ok N g = none ∧ qFs ok N g = none) ∨ ∃ a, qFs ok N g = some a ∧ a < N ∧ ok g a = true := by
  cases h : qFs ok N g with
  | none => exact .inl ⟨rfl, rfl⟩
  | some s =>
    have := fnd_some N 0 h
    exact .inr ⟨s, rfl, by omega, this.2.2.1⟩
theorem qVal_congr {ok : Nat → Nat → Bool} {N : Nat} {P Q : qP} : ∀ (l : Nat), (∀ j, j < l → P j = Q j) → qVal ok N l P = qVal ok N l Q
  | 0, _ => rfl
  | l + 1, h => by
    unfold qVal
    rw [qVal_congr l (fun j hj => h j (by omega)), h l (by omega)]
theorem qNX_val {ok : Nat → Nat → Bool} {N : Nat} {P' : qP} : ∀ (l : Nat) (P : qP), qNX ok N l P = some P' → qVal ok N l P' + 1 = qVal ok N l P ∧ ∀ j, l ≤ j → P' j = P j
  | 0, P, h => by cases h
  | l + 1, P, h => by
    unfold qNX at h
    unfold qVal
    cases hs : qNxt ok N l (P l) with
    | some s =>
      rw [hs] at h
      cases h
      rw [qVal_congr (Q := P) l (fun j hj => qUp_n (by omega)), qUp_s]
      refine ⟨?_, fun j hj => qUp_n (by omega)⟩
      cases hp : P l with
      | none => rw [hp] at hs; cases hs
      | some a =>
        rw [hp] at hs
        have := (fnd_some _ _ hs)
        show qVal ok N l P * qC ok N l + cnt (ok l) (N - (s + 1)) (s + 1) + 1 = qVal ok N l P * qC ok N l + cnt (ok l) (N - (a + 1)) (a + 1)
        have h5 := this.2.2.2.2
        rw [show a + 1 + (N - (a + 1)) - (s + 1) = N - (s + 1) by omega] at h5
        omega
    | none =>
      rw [hs] at h
      obtain ⟨h1, h2⟩ := qNX_val l _ h
      rw [qVal_congr (Q := P) (P := qUp P l (qFs ok N l)) l (fun j hj => qUp_n (by omega))] at h1
      have h3 : P' l = qFs ok N l := by rw [h2 l (Nat.le_refl l), qUp_s]
      refine ⟨?_, fun j hj => by rw [h2 j (by omega), qUp_n (by omega)]⟩
      have h0 : qRa ok N l (P l) = 0 := by
        cases hp : P l with
        | none => rfl
        | some a =>
          rw [hp] at hs
          exact (fnd_none _ _ hs).1
      rw [h3, h0, ← h1, Nat.add_mul, Nat.one_mul]
      have := qFs_ra (ok := ok) (N := N) (g := l)
      omega
theorem qVal_first {ok : Nat → Nat → Bool} {N : Nat} : ∀ (l : Nat), qVal ok N l (qFs ok N) + 1 = qPr ok N l
  | 0 => rfl
  | l + 1 => by
    unfold qVal qPr
    rw [← qVal_first l, Nat.add_mul, Nat.one_mul]
    have := qFs_ra (ok := ok) (N := N) (g := l)
    omega
-- the next one is one that may be
theorem qNX_V {ok : Nat → Nat → Bool} {N G : Nat} {P' : qP} : ∀ (l : Nat) (P : qP), l ≤ G → qV ok N G P → qNX ok N l P = some P' → qV ok N G P'
  | 0, P, _, _, h => by cases h
  | l + 1, P, hl, hv, h => by
    unfold qNX at h
    cases hs : qNxt ok N l (P l) with
    | some s =>
      rw [hs] at h
      cases h
      intro g hg
      by_cases hgl : g = l
      · subst hgl
        rw [qUp_s]
        cases hp : P g with
        | none => rw [hp] at hs; cases hs
        | some a =>
          rw [hp] at hs
          have := fnd_some _ _ hs
          exact .inr ⟨s, rfl, by omega, this.2.2.1⟩
      · rw [qUp_n hgl]
        exact hv g hg
    | none =>
      rw [hs] at h
      refine qNX_V l _ (by omega) (fun g hg => ?_) h
      by_cases hgl : g = l
      · subst hgl
        rw [qUp_s]
        exact qFs_ok
      · rw [qUp_n hgl]
        exact hv g hg
-- ---- the order of choices
def qLx (G : Nat) (P b : qP) : Prop := ∃ i, i ≤ G ∧ (∀ j, j < i → P j = b j) ∧ (i = G ∨ ∃ p q, P i = some p ∧ b i = some q ∧ p < q)
theorem qLx_first {ok : Nat → Nat → Bool} {N G : Nat} {b : qP} (hb : qV ok N G b) : ∀ (d k : Nat) (P : qP), k + d = G → (∀ j, j < k → P j = b j) → (∀ j, k ≤ j → j < G → P j = qFs ok N j) → qLx G P b
  | 0, k, P, h1, h2, _ => ⟨k, by omega, h2, .inl (by omega)⟩
  | d + 1, k, P, h1, h2, h3 => by
    have hk := h3 k (Nat.le_refl k) (by omega)
    have go : P k = b k → qLx G P b := fun e => qLx_first hb d (k + 1) P (by omega) (fun j hj => by
      by_cases hjk : j = k
      · rw [hjk]; exact e
      · exact h2 j (by omega)) (fun j h4 h5 => h3 j (by omega) h5)
    rcases hb k (by omega) with ⟨e1, e2⟩ | ⟨a, e1, e2, e3⟩
    · exact go (by rw [hk, e2, e1])
    · obtain ⟨s, e4, e5⟩ := fnd_le (ok := ok k) (d := N) (Nat.zero_le a) (by omega) e3
      by_cases hsa : s = a
      · exact go (by rw [hk, e1, ← hsa]; exact e4)
      · exact ⟨k, by omega, h2, .inr ⟨s, a, by rw [hk]; exact e4, e1, by omega⟩⟩
theorem qNX_lx {ok : Nat → Nat → Bool} {N G : Nat} {b : qP} (hb : qV ok N G b) : ∀ (l : Nat) (P : qP), l ≤ G → (∀ j, l ≤ j → j < G → P j = qFs ok N j) → (∃ i, i < l ∧ (∀ j, j < i → P j = b j) ∧ ∃ p q, P i = some p ∧ b i = some q ∧ p < q) → ∃ P', qNX ok N l P = some P' ∧ qLx G P' b
  | 0, P, _, _, ⟨i, h, _⟩ => by omega
  | l + 1, P, hl, hf, ⟨i, h1, h2, p, q, h3, h4, h5⟩ => by
    unfold qNX
    have hq : q < N ∧ ok i q = true := by
      rcases hb i (by omega) with ⟨e1, -⟩ | ⟨a, e1, e2, e3⟩
      · rw [e1] at h4; cases h4
      · rw [e1] at h4; cases h4; exact ⟨e2, e3⟩
    by_cases hil : i = l
    · subst hil
      obtain ⟨s, e4, e5⟩ := fnd_le (ok := ok i) (d := N - (p + 1)) (x := p + 1) (y := q) (by omega) (by omega) hq.2
      have e6 : qNxt ok N i (P i) = some s := by rw [h3]; exact e4
      rw [e6]
      refine ⟨_, rfl, ?_⟩
      by_cases hsq : s = q
      · subst hsq
        refine qLx_first hb (G - (i + 1)) (i + 1) _ (by omega) (fun j hj => ?_) (fun j h6 h7 => ?_)
        · by_cases hji : j = i
          · subst hji
            rw [qUp_s, h4]
          · rw [qUp_n hji]
            exact h2 j (by omega)
        · rw [qUp_n (by omega)]
          exact hf j (by omega) h7
      · exact ⟨i, by omega, fun j hj => by rw [qUp_n (by omega)]; exact h2 j hj, .inr ⟨s, q, qUp_s, h4, by omega⟩⟩
    · cases hs : qNxt ok N l (P l) with
      | some s => exact ⟨_, rfl, i, by omega, fun j hj => by rw [qUp_n (by omega)]; exact h2 j hj, .inr ⟨p, q, by rw [qUp_n (by omega)]; exact h3, h4, h5⟩⟩
      | none =>
        refine qNX_lx hb l _ (by omega) (fun j h6 h7 => ?_) ⟨i, by omega, fun j hj => by rw [qUp_n (by omega)]; exact h2 j hj, p, q, by rw [qUp_n (by omega)]; exact h3, h4, h5⟩
        by_cases hjl : j = l
        · subst hjl
          exact qUp_s
        · rw [qUp_n hjl]
          exact hf j (by omega) h7
-- ---- how many choices there are at most
def sm (f : Nat → Nat) : Nat → Nat
  | 0 => 0
  | l + 1 => sm f l + f l
theorem sm_add (f g : Nat → Nat) : ∀ (l : Nat), sm (fun j => f j + g j) l = sm f l + sm g l
  | 0 => rfl
  | l + 1 => by
    unfold sm
    rw [sm_add f g l]
    omega
theorem sm_one {own : Nat → Bool} {L : Nat} (h : ∀ a b, a < L → b < L → own a = true → own b = true → a = b) : ∀ (l : Nat), l ≤ L → sm (fun g => if own g then 1 else 0) l ≤ 1 ∧ ((∃ g, g < l ∧ own g = true) ∨ sm (fun g => if own g then 1 else 0) l = 0)
  | 0, _ => ⟨Nat.zero_le 1, .inr rfl⟩
  | l + 1, hl1 => by
    obtain ⟨h1, h2⟩ := sm_one h l (by omega)
    unfold sm
    by_cases hl : own l = true
    · rw [if_pos hl]
      rcases h2 with ⟨g, h3, h4⟩ | h2
      · have := h g l (by omega) (by omega) h4 hl
        omega
      · exact ⟨by omega, .inl ⟨l, by omega, hl⟩⟩
    · rw [if_neg hl]
      refine ⟨by omega, ?_⟩
      rcases h2 with ⟨g, h3, h4⟩ | h2
      · exact .inl ⟨g, by omega, h4⟩
      · exact .inr (by omega)
theorem sm_cnt {ok : Nat → Nat → Bool} {L : Nat} (h : ∀ x a b, a < L → b < L → ok a x = true → ok b x = true → a = b) {l : Nat} (hl : l ≤ L) : ∀ (d x : Nat), sm (fun g => cnt (ok g) d x) l ≤ d
  | 0, x => by
    have : ∀ l, sm (fun g => cnt (ok g) 0 x) l = 0 := fun l => by
      induction l with
      | zero => rfl
      | succ l ih => unfold sm; rw [ih]; rfl
    rw [this l]
    exact Nat.le_refl 0
  | d + 1, x => by
    have e : sm (fun g => cnt (ok g) (d + 1) x) l = sm (fun g => if ok g x then 1 else 0) l + sm (fun g => cnt (ok g) d (x + 1)) l := sm_add _ _ l
    rw [e]
    have h1 := (sm_one (own := fun g => ok g x) (fun a b => h x a b) l hl).1
    have h2 := sm_cnt h hl d (x + 1)
    omega
theorem q3p : ∀ c, c < 11 → (if c = 0 then 1 else c) * (if c = 0 then 1 else c) ≤ 3 ^ c := by decide
theorem qPr_sq {ok : Nat → Nat → Bool} {N : Nat} (hc : ∀ g, cnt (ok g) N 0 ≤ 10) : ∀ (l : Nat), qPr ok N l * qPr ok N l ≤ 3 ^ sm (fun g => cnt (ok g) N 0) l
  | 0 => Nat.le_refl 1
  | l + 1 => by
    unfold qPr sm
    rw [Nat.pow_add, Nat.mul_mul_mul_comm]
    exact Nat.mul_le_mul (qPr_sq hc l) (q3p _ (by have := hc l; omega))
theorem cnt_le {ok : Nat → Bool} : ∀ (d x : Nat), cnt ok d x ≤ d
  | 0, _ => Nat.le_refl 0
  | d + 1, x => by
    unfold cnt
    have := cnt_le (ok := ok) d (x + 1)
    split <;> omega
theorem qPr_le {ok : Nat → Nat → Bool} {N L : Nat} (hN : N ≤ 10) (h : ∀ x a b, a < L → b < L → ok a x = true → ok b x = true → a = b) {l : Nat} (hl : l ≤ L) : qPr ok N l < 1000 := by
  refine Nat.lt_of_not_le fun q => ?_
  have h1 := qPr_sq (ok := ok) (N := N) (fun g => Nat.le_trans (cnt_le N 0) hN) l
  have h2 := sm_cnt h hl N 0
  have h3 : 3 ^ sm (fun g => cnt (ok g) N 0) l ≤ 3 ^ 10 := Nat.pow_le_pow_right (by decide) (by omega)
  have h4 := Nat.mul_le_mul q q
  have h5 : (3 : Nat) ^ 10 < 1000 * 1000 := by decide
  omega
