/-! ===== rests ===== -/
theorem kT.tl {σ S : k_S} (h : kT σ S) : tTall S = tTall σ := by
  obtain ⟨⟨⟨a1, a2, a3, a4⟩, a5, a6, a7, a8, a9, a10, a11, a12, a13⟩, -⟩ := h
  funext x
  unfold tTall
  rw [a5, a7, a8]
theorem kT.my {σ S : k_S} (h : kT σ S) : tMay S = tMay σ := by
  obtain ⟨⟨⟨a1, a2, a3, a4⟩, a5, a6, a7, a8, a9, a10, a11, a12, a13⟩, -⟩ := h
  funext x
  unfold tMay
  rw [a3, a4, a5, a8, a9]
theorem kM.tl {τ T : k_S} (h : kM τ T) : mTall T = mTall τ := by
  obtain ⟨⟨⟨a1, a2, a3, a4⟩, a5, a6, a7, a9, a10, a11, a12, a13⟩, -⟩ := h
  funext x
  unfold mTall
  rw [a5, a7, a12]
theorem kM.my {τ T : k_S} (h : kM τ T) : mMay T = mMay τ := by
  obtain ⟨⟨⟨a1, a2, a3, a4⟩, a5, a6, a7, a9, a10, a11, a12, a13⟩, -⟩ := h
  funext x
  unfold mMay
  rw [a3, a4, a5, a12, a13]
def tOk (σ : k_S) (g x : Nat) : Bool := decide (σ.2 6 x = nI g) && decide (¬ tMay σ x = 0)
def mOkk (τ : k_S) (g x : Nat) : Bool := decide (τ.2 4 x = nI g) && decide (¬ mMay τ x = 0)
theorem kT.ok {σ S : k_S} (h : kT σ S) : tOk S = tOk σ := by
  funext g x
  unfold tOk
  rw [h.my, h.1.2.2.1]
theorem kM.ok {τ T : k_S} (h : kM τ T) : mOkk T = mOkk τ := by
  funext g x
  unfold mOkk
  rw [h.my, h.1.2.2.1]
theorem RH.ok {σ τ : k_S} {G N m K : Nat} (h : RH σ τ G N m K) : tOk σ = mOkk τ := by
  have hm := h.may
  obtain ⟨-, -, -, -, -, ⟨a5, a6, a7, a8, a9, a10⟩, -⟩ := h
  funext g x
  unfold tOk mOkk
  rw [hm, a6]
theorem q_bi {α : Type} (b : Bool) (x y : α) : (if bI b = 0 then x else y) = if b = true then y else x := by
  cases b
  · rw [if_pos (show bI false = 0 by decide), if_neg (show ¬ false = true by decide)]
  · rw [if_neg (show ¬ bI true = 0 by decide), if_pos (show true = true from rfl)]
theorem q_m1 {l : Nat} : nI (l + 1) + k_ng 1 = nI l := pk_m1 l
/-- one less than l: none below 0 -/
def q1m : Nat → Int32
  | 0 => k_ng 1
  | l + 1 => nI l
theorem q1m_s (l : Nat) : nI l + k_ng 1 = q1m l := by
  cases l with
  | zero => decide
  | succ l => exact q_m1
-- ---- the next tale of one's own
theorem T_own_loop {S : k_S} {N g : Nat} (hN4 : S.1 4 = nI N) (hN : N ≤ 10) : ∀ (d x f : Nat), x + d = N → d < f → fX1_ownAfter_c8 f S (nI g) (nI x) = some (pEnc (fnd (tOk S g) d x), S) := by
  intro d
  induction d with
  | zero =>
    intro x f h1 h2
    obtain ⟨f, rfl⟩ := q_fu 0 h2
    rw [fX1_ownAfter_c8_s, hN4, if_neg (nI_nlt (by omega) (by omega))]
    rfl
  | succ d ih =>
    intro x f h1 h2
    obtain ⟨f, rfl⟩ := q_fu (d + 1) h2
    rw [fX1_ownAfter_c8_s, hN4, if_pos (nI_lt (by omega) (by omega)), q_gd (by omega) (by decide), q_cl (by omega)]
    have hn : fX1_ownAfter_c45 (fX1_ownAfter_c8 f) S (nI g) (nI x) = some (pEnc (fnd (tOk S g) d (x + 1)), S) := by
      unfold fX1_ownAfter_c45
      rw [q_bn, q_add]
      exact ih (x + 1) f (by omega) (by omega)
    rw [fnd_s]
    by_cases ho : S.2 6 x = nI g
    · rw [if_pos ho, T_isTellable S (show x < 10 by omega), q_ob]
      by_cases hm : tMay S x = 0
      · rw [if_pos hm, if_neg (by unfold tOk; simp [hm])]
        exact hn
      · rw [if_neg hm, if_pos (by unfold tOk; simp [ho, hm])]
        rfl
    · rw [if_neg ho, if_neg (by unfold tOk; simp [ho])]
      exact hn
theorem T_own_0 {S : k_S} {N g : Nat} (hN4 : S.1 4 = nI N) (hN : N ≤ 10) : fX1_ownAfter S (nI g) (k_ng 9) = some (pEnc (qFs (tOk S) N g), S) := by
  unfold fX1_ownAfter
  rw [q_bn, show k_mx (k_ng 9 + nI 1) (nI 0) = nI 0 by decide, T_own_loop hN4 hN N 0 k_F (by omega) (q_kF (by omega))]
  rfl
theorem T_own_a {S : k_S} {N g a : Nat} (hN4 : S.1 4 = nI N) (hN : N ≤ 10) (ha : a < N) : fX1_ownAfter S (nI g) (nI a) = some (pEnc (qNxt (tOk S) N g (some a)), S) := by
  unfold fX1_ownAfter
  rw [q_bn, q_add, q_mx (by omega) (by decide), if_neg (by omega), T_own_loop hN4 hN (N - (a + 1)) (a + 1) k_F (by omega) (q_kF (by omega))]
  rfl
theorem M_own_loop {S : k_S} {N g : Nat} (hN3 : S.1 3 = nI N) (hN : N ≤ 10) (hk : ∀ x, x < N → pKind (S.2 3) x) : ∀ (d x f : Nat), x + d = N → d < f → fX7_nextOwn_c4 f S (nI g) (nI x) = some (pEnc (fnd (mOkk S g) d x), S) := by
  intro d
  induction d with
  | zero =>
    intro x f h1 h2
    obtain ⟨f, rfl⟩ := q_fu 0 h2
    rw [fX7_nextOwn_c4_s, hN3, if_neg (nI_nlt (by omega) (by omega))]
    rfl
  | succ d ih =>
    intro x f h1 h2
    obtain ⟨f, rfl⟩ := q_fu (d + 1) h2
    rw [fX7_nextOwn_c4_s, hN3, if_pos (nI_lt (by omega) (by omega)), q_gd (by omega) (by decide), q_cl (by omega)]
    have hn : fX7_nextOwn_c32 (fX7_nextOwn_c4 f) S (nI g) (nI x) = some (pEnc (fnd (mOkk S g) d (x + 1)), S) := by
      unfold fX7_nextOwn_c32
      rw [q_bn, q_add]
      exact ih (x + 1) f (by omega) (by omega)
    rw [fnd_s]
    by_cases ho : S.2 4 x = nI g
    · rw [if_pos ho, M_mayNow S (show x < 10 by omega) (hk x (by omega)), q_ob]
      by_cases hm : mMay S x = 0
      · rw [if_pos hm, if_neg (by unfold mOkk; simp [hm])]
        exact hn
      · rw [if_neg hm, if_pos (by unfold mOkk; simp [ho, hm])]
        rfl
    · rw [if_neg ho, if_neg (by unfold mOkk; simp [ho])]
      exact hn
theorem M_own_0 {S : k_S} {N g : Nat} (hN3 : S.1 3 = nI N) (hN : N ≤ 10) (hk : ∀ x, x < N → pKind (S.2 3) x) : fX7_nextOwn S (nI g) (k_ng 1) = some (pEnc (qFs (mOkk S) N g), S) := by
  unfold fX7_nextOwn
  rw [q_bn, show k_ng 1 + nI 1 = nI 0 by decide, M_own_loop hN3 hN hk N 0 k_F (by omega) (q_kF (by omega))]
  rfl
theorem M_own_a {S : k_S} {N g a : Nat} (hN3 : S.1 3 = nI N) (hN : N ≤ 10) (hk : ∀ x, x < N → pKind (S.2 3) x) (ha : a < N) : fX7_nextOwn S (nI g) (nI a) = some (pEnc (qNxt (mOkk S) N g (some a)), S) := by
  unfold fX7_nextOwn
  rw [q_bn, q_add, M_own_loop hN3 hN hk (N - (a + 1)) (a + 1) k_F (by omega) (q_kF (by omega))]
  rfl
-- ---- the next choice
theorem pEnc_9 {o : Option Nat} (h : ∀ a, o = some a → a < 1000) : (pEnc o = k_ng 9) = (o = none) := by
  cases o with
  | none => exact propext ⟨fun _ => rfl, fun _ => rfl⟩
  | some a =>
    have := h a rfl
    refine propext ⟨fun q => ?_, fun q => by cases q⟩
    have q : nI a = k_ng 9 := q
    rw [q_ngr (by decide) (by decide) (by omega)] at q
    exact q.elim
theorem qNxt_lt {ok : Nat → Nat → Bool} {N g s : Nat} {o : Option Nat} (h : qNxt ok N g o = some s) : s < N := by
  cases o with
  | none => cases h
  | some a =>
    have := fnd_some _ _ h
    omega
theorem qUp_V {ok : Nat → Nat → Bool} {N G l : Nat} {P : qP} (h : qV ok N G P) : qV ok N G (qUp P l (qFs ok N l)) := fun g hg => by
  by_cases e : g = l
  · subst e
    rw [qUp_s]
    exact qFs_ok
  · rw [qUp_n e]
    exact h g hg
theorem enc_up {r : qA} {P : qP} {G l : Nat} {o : Option Nat} (h : ∀ g, g < G → r g = pEnc (P g)) : ∀ g, g < G → upd r l (pEnc o) g = pEnc (qUp P l o g) := fun g hg => by
  by_cases e : g = l
  · subst e
    rw [qUp_s, pk_us]
  · rw [qUp_n e, pk_un e]
    exact h g hg
theorem T_goOn_loop {S : k_S} {G N : Nat} (hN4 : S.1 4 = nI N) (hN : N ≤ 10) (hG : G ≤ 5) : ∀ (l f : Nat) (r : qA) (P : qP), l ≤ G → l < f → (∀ g, g < G → r g = pEnc (P g)) → qV (tOk S) N G P → ∃ r', fX1_goOn_c10 f (k_sA S 15 r) (q1m l) = some (bI (qNX (tOk S) N l P).isSome, k_sA S 15 r') ∧ ∀ P', qNX (tOk S) N l P = some P' → ∀ g, g < G → r' g = pEnc (P' g) := by
  intro l
  induction l with
  | zero =>
    intro f r P h1 h2 hr hv
    obtain ⟨f, rfl⟩ := q_fu 0 h2
    rw [fX1_goOn_c10_s, if_pos (show q1m 0 < 0 by decide)]
    exact ⟨r, rfl, fun P' h => by cases h⟩
  | succ l ih =>
    intro f r P h1 h2 hr hv
    obtain ⟨f, rfl⟩ := q_fu (l + 1) h2
    rw [fX1_goOn_c10_s, show q1m (l + 1) = nI l from rfl, if_neg (nI_pos (by omega)), q_gd (by omega) (by decide), q_cl (by omega)]
    have el : (k_sA S 15 r).2 15 l = r l := rfl
    have eN : (k_sA S 15 r).1 4 = nI N := hN4
    rw [el, hr l (by omega)]
    have eo : tOk (k_sA S 15 r) = tOk S := rfl
    have e1 : fX1_ownAfter (k_sA S 15 r) (nI l) (pEnc (P l)) = some (pEnc (qNxt (tOk S) N l (P l)), k_sA S 15 r) := by
      rcases hv l (by omega) with ⟨q1, q2⟩ | ⟨a, q1, q2, q3⟩
      · rw [q1]
        have := T_own_0 (g := l) eN hN
        rw [eo, q2] at this
        exact this
      · rw [q1]
        exact T_own_a (g := l) eN hN q2
    rw [e1, q_ob, q_bn]
    unfold qNX
    cases hs : qNxt (tOk S) N l (P l) with
    | none =>
      rw [if_pos (show pEnc none = k_ng 9 from rfl), T_own_0 eN hN, q_ob, q_gd (by omega) (by decide), q_bn, s_sa, q_cl (by omega), q_bn, s_AA, q1m_s, eo]
      exact ih f _ (qUp P l (qFs (tOk S) N l)) (by omega) (by omega) (enc_up hr) (qUp_V hv)
    | some s =>
      have := qNxt_lt hs
      rw [if_neg (show ¬ pEnc (some s) = k_ng 9 by rw [pEnc_9 (fun a h => by cases h; omega)]; exact fun h => by cases h), q_gd (by omega) (by decide), q_bn, s_sa, q_cl (by omega), s_AA]
      exact ⟨_, rfl, fun P' h => by cases h; exact enc_up hr⟩
theorem M_goOn_loop {S : k_S} {G N : Nat} (hN3 : S.1 3 = nI N) (hN : N ≤ 10) (hG : G ≤ 5) (hk : ∀ x, x < N → pKind (S.2 3) x) : ∀ (l f : Nat) (r : qA) (P : qP), l ≤ G → l < f → (∀ g, g < G → r g = pEnc (P g)) → qV (mOkk S) N G P → ∃ r', fX7_nextTells_c7 f (k_sA S 15 r) (q1m l) = some (bI (qNX (mOkk S) N l P).isSome, k_sA S 15 r') ∧ ∀ P', qNX (mOkk S) N l P = some P' → ∀ g, g < G → r' g = pEnc (P' g) := by
  intro l
  induction l with
  | zero =>
    intro f r P h1 h2 hr hv
    obtain ⟨f, rfl⟩ := q_fu 0 h2
    rw [fX7_nextTells_c7_s, if_pos (show q1m 0 < 0 by decide)]
    exact ⟨r, rfl, fun P' h => by cases h⟩
  | succ l ih =>
    intro f r P h1 h2 hr hv
    obtain ⟨f, rfl⟩ := q_fu (l + 1) h2
    rw [fX7_nextTells_c7_s, show q1m (l + 1) = nI l from rfl, if_neg (nI_pos (by omega)), q_gd (by omega) (by decide), q_cl (by omega)]
    have el : (k_sA S 15 r).2 15 l = r l := rfl
    have eN : (k_sA S 15 r).1 3 = nI N := hN3
    rw [el, hr l (by omega)]
    have eo : mOkk (k_sA S 15 r) = mOkk S := rfl
    have key : ∃ r', fX7_nextTells_c38 (fX7_nextTells_c7 f) (k_sA S 15 r) (nI l) (pEnc (qNxt (mOkk S) N l (P l))) = some (bI (qNX (mOkk S) N (l + 1) P).isSome, k_sA S 15 r') ∧ ∀ P', qNX (mOkk S) N (l + 1) P = some P' → ∀ g, g < G → r' g = pEnc (P' g) := by
      unfold fX7_nextTells_c38 qNX
      rw [q_bn]
      cases hs : qNxt (mOkk S) N l (P l) with
      | none =>
        rw [if_pos (show pEnc none = k_ng 9 from rfl), M_own_0 eN hN hk, q_ob, q_gd (by omega) (by decide), q_bn, s_sa, q_cl (by omega), q_bn, s_AA, q1m_s, eo]
        exact ih f _ (qUp P l (qFs (mOkk S) N l)) (by omega) (by omega) (enc_up hr) (qUp_V hv)
      | some s =>
        have := qNxt_lt hs
        rw [if_neg (show ¬ pEnc (some s) = k_ng 9 by rw [pEnc_9 (fun a h => by cases h; omega)]; exact fun h => by cases h), q_gd (by omega) (by decide), q_bn, s_sa, q_cl (by omega), s_AA]
        exact ⟨_, rfl, fun P' h => by cases h; exact enc_up hr⟩
    rcases hv l (by omega) with ⟨q1, q2⟩ | ⟨a, q1, q2, q3⟩
    · rw [q1] at key ⊢
      rw [if_pos (show pEnc none = k_ng 9 from rfl)]
      exact key
    · rw [q1] at key ⊢
      rw [if_neg (show ¬ pEnc (some a) = k_ng 9 by rw [pEnc_9 (fun a h => by cases h; omega)]; exact fun h => by cases h), q_gd (by omega) (by decide), show pEnc (some a) = nI a from rfl, M_own_a eN hN hk q2, q_ob, eo]
      exact key

-- ---- whether a choice is a rest
def pO (tl : Nat → Int32) : Option Nat → Int32
  | none => nI 0
  | some a => tl a
def qRest (ok : Nat → Nat → Bool) (tl : Nat → Int32) (N G : Nat) (w : qA) : Prop := ∀ g, g < G → ∀ x, x < N → ok g x = true → ¬ qPl w g G tl x < qPlace G w g
theorem qRest_congr {ok : Nat → Nat → Bool} {tl : Nat → Int32} {N G : Nat} {v w : qA} (h : ∀ j, j < G → v j = w j) (hr : qRest ok tl N G v) : qRest ok tl N G w := fun g hg x hx ho => by
  have := hr g hg x hx ho
  rw [qPlace_congr hg h, qPl_congr (fun j h1 _ => h j h1)] at this
  exact this
theorem qPl_le5 (w : qA) (g G : Nat) (tl : Nat → Int32) (x : Nat) (hG : G ≤ 5) : qPl w g G tl x < 2 ^ 31 := by
  have := qPl_le w g G tl x hG
  omega
theorem qPlace_le5 (w : qA) {g G : Nat} (hG : G ≤ 5) : qPlace G w g < 2 ^ 31 := by
  have := pPl_le w g (w g) G 0 0
  unfold qPlace
  omega
theorem T_cdb {S : k_S} {G N g : Nat} (hG7 : S.1 7 = nI G) (hG : G ≤ 5) (hg : g < G) (hN4 : S.1 4 = nI N) (hN : N ≤ 10) (how : ∀ x, x < N → ∃ o, o < G ∧ S.2 6 x = nI o) : ∃ b : Bool, fX1_canDoBetter S (nI g) = some (bI b, S) ∧ (b = true ↔ ∃ x, x < N ∧ tOk S g x = true ∧ qPl (S.2 14) g G (tTall S) x < qPlace G (S.2 14) g) := by
  have key : ∀ (d x f : Nat), x + d = N → d < f → ∃ b : Bool, fX1_canDoBetter_c20 f S (nI g) (nI (qPlace G (S.2 14) g)) (nI x) = some (bI b, S) ∧ (b = true ↔ ∃ y, x ≤ y ∧ y < N ∧ tOk S g y = true ∧ qPl (S.2 14) g G (tTall S) y < qPlace G (S.2 14) g) := by
    intro d
    induction d with
    | zero =>
      intro x f h1 h2
      obtain ⟨f, rfl⟩ := q_fu 0 h2
      rw [fX1_canDoBetter_c20_s, hN4, if_neg (nI_nlt (by omega) (by omega))]
      refine ⟨false, rfl, fun h => (by cases h), ?_⟩
      rintro ⟨y, h3, h4, -⟩
      omega
    | succ d ih =>
      intro x f h1 h2
      obtain ⟨f, rfl⟩ := q_fu (d + 1) h2
      obtain ⟨o, ho5, ho⟩ := how x (by omega)
      rw [fX1_canDoBetter_c20_s, hN4, if_pos (nI_lt (by omega) (by omega)), T_isOffered (show x < 10 by omega) 0 (by decide) ho (by omega) (by omega), q_ob, if_pos rfl, q_bi]
      have hok : tOk S g x = decide (o = g ∧ ¬ tMay S x = 0) := by
        unfold tOk
        rw [ho]
        by_cases h3 : o = g
        · by_cases h4 : tMay S x = 0
          · simp [h4]
          · simp [h3, h4]
        · have : ¬ nI o = nI g := by rw [q_eq (by omega) (by omega)]; exact h3
          simp [h3, this]
      obtain ⟨b, e1, e2⟩ := ih (x + 1) f (by omega) (by omega)
      have e3 : fX1_canDoBetter_c69 (fX1_canDoBetter_c20 f) S (nI g) (nI (qPlace G (S.2 14) g)) (nI x) = some (bI b, S) := by
        unfold fX1_canDoBetter_c69
        rw [q_bn, q_add]
        exact e1
      rw [← hok]
      by_cases h3 : tOk S g x = true
      · rw [if_pos h3, T_tallOf S (show x < 10 by omega), q_ob, T_placeOf hG7 hG (by omega), q_ob]
        show ∃ b : Bool, (if nI (qPl (S.2 14) g G (tTall S) x) < nI (qPlace G (S.2 14) g) then _ else _) = _ ∧ _
        by_cases h4 : qPl (S.2 14) g G (tTall S) x < qPlace G (S.2 14) g
        · rw [if_pos (nI_lt h4 (qPlace_le5 _ hG))]
          exact ⟨true, rfl, fun _ => ⟨x, Nat.le_refl x, by omega, h3, h4⟩, fun _ => rfl⟩
        · rw [if_neg (nI_nlt (by omega) (qPl_le5 _ _ _ _ _ hG)), e3]
          refine ⟨b, rfl, fun h => ?_, ?_⟩
          · obtain ⟨y, y1, y2⟩ := e2.mp h
            exact ⟨y, by omega, y2⟩
          · rintro ⟨y, y1, y2, y3, y4⟩
            refine e2.mpr ⟨y, ?_, y2, y3, y4⟩
            by_cases hy : y = x
            · subst hy; exact absurd y4 h4
            · omega
      · rw [if_neg h3, e3]
        refine ⟨b, rfl, fun h => ?_, ?_⟩
        · obtain ⟨y, y1, y2⟩ := e2.mp h
          exact ⟨y, by omega, y2⟩
        · rintro ⟨y, y1, y2, y3, y4⟩
          refine e2.mpr ⟨y, ?_, y2, y3, y4⟩
          by_cases hy : y = x
          · subst hy; exact absurd y3 h3
          · omega
  unfold fX1_canDoBetter
  rw [q_gd (by omega) (by decide), q_cl (by omega), T_placeOf hG7 hG (by omega), q_ob, q_bn, q_bn]
  obtain ⟨b, e1, e2⟩ := key N 0 k_F (by omega) (q_kF (by omega))
  refine ⟨b, e1, e2.trans ⟨?_, ?_⟩⟩
  · rintro ⟨y, -, h⟩
    exact ⟨y, h⟩
  · rintro ⟨y, h⟩
    exact ⟨y, Nat.zero_le y, h⟩
theorem T_isRest {S : k_S} {G N : Nat} {P : qP} (hG3 : S.1 3 = nI G) (hG : G ≤ 5) (hN4 : S.1 4 = nI N) (hN : N ≤ 10) (how : ∀ x, x < N → ∃ o, o < G ∧ S.2 6 x = nI o) (hr : ∀ g, g < G → S.2 15 g = pEnc (P g)) (hP : ∀ g, g < G → ∀ a, P g = some a → a < N) : ∃ (b : Bool) (w : qA), fX1_isRest S = some (bI b, k_sA (k_sf S 7 (nI G)) 14 w) ∧ (b = true ↔ qRest (tOk S) (tTall S) N G (fun g => pO (tTall S) (P g))) := by
  let S0 := k_sf S 7 (nI G)
  have k2 : ∀ (w : qA) (d g f : Nat), g + d = G → d < f → ∃ b : Bool, fX1_isRest_c77 f (k_sA S0 14 w) (nI g) = some (bI b, k_sA S0 14 w) ∧ (b = true ↔ ∀ i, g ≤ i → i < G → ∀ x, x < N → tOk S i x = true → ¬ qPl w i G (tTall S) x < qPlace G w i) := by
    intro w d
    induction d with
    | zero =>
      intro g f h1 h2
      obtain ⟨f, rfl⟩ := q_fu 0 h2
      rw [fX1_isRest_c77_s, show (k_sA S0 14 w).1 3 = nI G from hG3, if_neg (nI_nlt (by omega) (by omega))]
      exact ⟨true, rfl, fun _ i h3 h4 => by omega, fun _ => rfl⟩
    | succ d ih =>
      intro g f h1 h2
      obtain ⟨f, rfl⟩ := q_fu (d + 1) h2
      obtain ⟨b, e1, e2⟩ := T_cdb (S := k_sA S0 14 w) (G := G) (N := N) (g := g) rfl hG (by omega) hN4 hN how
      rw [fX1_isRest_c77_s, show (k_sA S0 14 w).1 3 = nI G from hG3, if_pos (nI_lt (by omega) (by omega)), e1, q_ob, q_bi]
      have e2 : b = true ↔ ∃ x, x < N ∧ tOk S g x = true ∧ qPl w g G (tTall S) x < qPlace G w g := e2
      cases b with
      | true =>
        rw [if_pos rfl]
        refine ⟨false, rfl, fun h => (by cases h), fun h => ?_⟩
        obtain ⟨x, x1, x2, x3⟩ := e2.mp rfl
        exact absurd x3 (h g (Nat.le_refl g) (by omega) x x1 x2)
      | false =>
        rw [if_neg (show ¬ false = true by decide), q_bn, q_add]
        obtain ⟨b', e3, e4⟩ := ih (g + 1) f (by omega) (by omega)
        refine ⟨b', e3, fun h i h3 h4 x x1 x2 x3 => ?_, fun h => e4.mpr fun i h3 h4 => h i (by omega) h4⟩
        by_cases hi : i = g
        · subst hi
          have := e2.mpr ⟨x, x1, x2, x3⟩
          cases this
        · exact e4.mp h i (by omega) h4 x x1 x2 x3
  have k1 : ∀ (d g f : Nat) (r : qA), g + d = G → d < f → fX1_isRest_c16 f (k_sA S0 14 r) (nI g) = fX1_isRest_c77 k_F (k_sA S0 14 (pSet (fun g => pO (tTall S) (P g)) r g G)) (nI 0) := by
    intro d
    induction d with
    | zero =>
      intro g f r h1 h2
      obtain ⟨f, rfl⟩ := q_fu 0 h2
      rw [fX1_isRest_c16_s, show (k_sA S0 14 r).1 3 = nI G from hG3, if_neg (nI_nlt (by omega) (by omega)), pSet_no _ _ (by omega), q_bn]
    | succ d ih =>
      intro g f r h1 h2
      obtain ⟨f, rfl⟩ := q_fu (d + 1) h2
      rw [fX1_isRest_c16_s, show (k_sA S0 14 r).1 3 = nI G from hG3, if_pos (nI_lt (by omega) (by omega)), q_gd (by omega) (by decide), q_cl (by omega)]
      have e15 : (k_sA S0 14 r).2 15 g = pEnc (P g) := hr g (by omega)
      rw [e15]
      have := ih (g + 1) f (upd r g (pO (tTall S) (P g))) (by omega) (by omega)
      rw [pSet_step (fun g => pO (tTall S) (P g)) r (show g < G by omega)] at this
      rw [← this]
      unfold fX1_isRest_c68
      cases hp : P g with
      | none =>
        rw [show pEnc none = k_ng 9 from rfl, T_hasTale_out (N := N) (show (k_sA S0 14 r).1 4 = nI N from hN4) (.inl (by rw [q_ng0 (by decide) (by decide)]; trivial)), q_ob, if_pos q_0i, q_gd (by omega) (by decide), q_bn, s_sa, q_cl (by omega), q_bn, q_add, s_AA]
        rfl
      | some a =>
        have ha := hP g (by omega) a hp
        rw [show pEnc (some a) = nI a from rfl, T_hasTale_in (show (k_sA S0 14 r).1 4 = nI N from hN4) hN ha, q_ob, if_neg q_n1, q_gd (by omega) (by decide), e15, hp, show pEnc (some a) = nI a from rfl, T_tallOf _ (by omega), q_ob, q_gd (by omega) (by decide), q_bn, s_sa, q_cl (by omega), q_bn, q_add, s_AA]
        rfl
  unfold fX1_isRest
  rw [q_bn, q_bn, hG3]
  have e := k1 G 0 k_F (S.2 14) (by omega) (q_kF (by omega))
  rw [show S.2 14 = S0.2 14 from rfl, s_Aid] at e
  rw [e]
  obtain ⟨b, e1, e2⟩ := k2 (pSet (fun g => pO (tTall S) (P g)) (S0.2 14) 0 G) G 0 k_F (by omega) (q_kF (by omega))
  refine ⟨b, _, e1, e2.trans ⟨fun h => ?_, fun h => ?_⟩⟩
  · exact qRest_congr (fun j hj => pSet_in (Nat.zero_le j) hj) (fun g hg => h g (Nat.zero_le g) hg)
  · exact fun i _ hi => (qRest_congr (fun j hj => (pSet_in (Nat.zero_le j) hj).symm) h : qRest _ _ _ _ _) i hi
theorem M_layTells {T : k_S} {G N : Nat} {P : qP} (hG2 : T.1 2 = nI G) (hG : G ≤ 5) (hN : N ≤ 10) (hk : ∀ x, x < N → pKind (T.2 3) x) (hr : ∀ g, g < G → T.2 15 g = pEnc (P g)) (hP : ∀ g, g < G → ∀ a, P g = some a → a < N) (r0 : qA) : fX7_layTells (k_sA T 14 r0) = some ((), k_sA T 14 (pSet (fun g => pO (mTall T) (P g)) r0 0 G)) := by
  have key : ∀ (d g f : Nat) (r : qA), g + d = G → d < f → fX7_layTells_c2 f (k_sA T 14 r) (nI g) = some ((), k_sA T 14 (pSet (fun g => pO (mTall T) (P g)) r g G)) := by
    intro d
    induction d with
    | zero =>
      intro g f r h1 h2
      obtain ⟨f, rfl⟩ := q_fu 0 h2
      rw [fX7_layTells_c2_s, show (k_sA T 14 r).1 2 = nI G from hG2, if_neg (nI_nlt (by omega) (by omega)), pSet_no _ _ (by omega)]
    | succ d ih =>
      intro g f r h1 h2
      obtain ⟨f, rfl⟩ := q_fu (d + 1) h2
      rw [fX7_layTells_c2_s, show (k_sA T 14 r).1 2 = nI G from hG2, if_pos (nI_lt (by omega) (by omega)), q_gd (by omega) (by decide), q_cl (by omega)]
      have e15 : (k_sA T 14 r).2 15 g = pEnc (P g) := hr g (by omega)
      rw [e15]
      have := ih (g + 1) f (upd r g (pO (mTall T) (P g))) (by omega) (by omega)
      rw [pSet_step (fun g => pO (mTall T) (P g)) r (show g < G by omega)] at this
      rw [← this]
      unfold fX7_layTells_c40
      cases hp : P g with
      | none =>
        rw [if_pos (show pEnc none = k_ng 9 from rfl), q_gd (by omega) (by decide), q_bn, s_sa, q_cl (by omega), q_bn, q_add, s_AA]
        rfl
      | some a =>
        have ha := hP g (by omega) a hp
        rw [if_neg (show ¬ pEnc (some a) = k_ng 9 by rw [pEnc_9 (fun a' h => by cases h; omega)]; exact fun h => by cases h), q_gd (by omega) (by decide), show pEnc (some a) = nI a from rfl, M_tallNow _ (show a < 10 by omega) (show pKind ((k_sA T 14 r).2 3) a from hk a ha), q_ob, q_gd (by omega) (by decide), q_bn, s_sa, q_cl (by omega), q_bn, q_add, s_AA]
        rfl
  unfold fX7_layTells
  rw [q_bn]
  exact key G 0 k_F r0 (by omega) (q_kF (by omega))
theorem M_rest_in {T : k_S} {G N g : Nat} {w : qA} (kh : k_S → Int32 → Option (Int32 × k_S)) (hG2 : T.1 2 = nI G) (hG : G ≤ 5) (hg : g < G) (hN3 : T.1 3 = nI N) (hN : N ≤ 10) (hk : ∀ x, x < N → pKind (T.2 3) x) : ∀ (n d x f : Nat) (r : qA), d ≤ n → x + d = N → n < f → (∀ j, j < G → j ≠ g → r j = w j) → (∃ r', (∃ y, x ≤ y ∧ y < N ∧ mOkk T g y = true ∧ qPl w g G (mTall T) y < qPlace G w g) ∧ fX7_isRest_c27 kh f (k_sA T 14 r) (nI g) (nI (qPlace G w g)) (pEnc (fnd (mOkk T g) d x)) = some (nI 0, k_sA T 14 r')) ∨ (∃ r', (∀ y, x ≤ y → y < N → mOkk T g y = true → ¬ qPl w g G (mTall T) y < qPlace G w g) ∧ fX7_isRest_c27 kh f (k_sA T 14 r) (nI g) (nI (qPlace G w g)) (pEnc (fnd (mOkk T g) d x)) = kh (k_sA T 14 r') (nI (g + 1))) := by
  intro n
  induction n with
  | zero =>
    intro d x f r h1 h2 h3 hw
    obtain ⟨f, rfl⟩ := q_fu 0 h3
    have e : d = 0 := by omega
    subst e
    refine .inr ⟨r, fun y h4 h5 => by omega, ?_⟩
    rw [fX7_isRest_c27_s, if_pos (show pEnc (fnd (mOkk T g) 0 x) = k_ng 9 from rfl), q_bn, q_add]
  | succ n ih =>
    intro d x f r h1 h2 h3 hw
    obtain ⟨f, rfl⟩ := q_fu (n + 1) h3
    rw [fX7_isRest_c27_s]
    cases hs : fnd (mOkk T g) d x with
    | none =>
      refine .inr ⟨r, fun y h4 h5 h6 => ?_, ?_⟩
      · have := (fnd_none d x hs).2 y h4 (by omega)
        rw [h6] at this
        cases this
      · rw [if_pos (show pEnc none = k_ng 9 from rfl), q_bn, q_add]
    | some s =>
      obtain ⟨s1, s2, s3, s4, -⟩ := fnd_some d x hs
      have e1 : fX7_tallNow (k_sA T 14 r) (nI s) = some (mTall T s, k_sA T 14 r) := M_tallNow _ (show s < 10 by omega) (show pKind ((k_sA T 14 r).2 3) s from hk s (by omega))
      rw [if_neg (show ¬ pEnc (some s) = k_ng 9 by rw [pEnc_9 (fun a' h => by cases h; omega)]; exact fun h => by cases h), show pEnc (some s) = nI s from rfl, e1, q_ob, q_gd (by omega) (by decide), q_bn, s_sa, q_cl (by omega), s_AA]
      have er : (k_sA T 14 r).2 14 = r := rfl
      rw [er, M_placeOf (τ := k_sA T 14 (upd r g (mTall T s))) hG2 hG (by omega), q_ob]
      have hpl : pPl ((k_sA T 14 (upd r g (mTall T s))).2 14) g ((k_sA T 14 (upd r g (mTall T s))).2 14 g) G 0 0 = qPl w g G (mTall T) s := by
        show pPl (upd r g (mTall T s)) g (upd r g (mTall T s) g) G 0 0 = pPl w g (mTall T s) G 0 0
        rw [pk_us]
        exact pPl_congr G 0 0 (fun j _ h5 h6 => by rw [pk_un h6]; exact hw j (by omega) h6)
      rw [hpl]
      by_cases hlt : qPl w g G (mTall T) s < qPlace G w g
      · rw [if_pos (nI_lt hlt (qPlace_le5 _ hG))]
        exact .inl ⟨_, ⟨s, s1, by omega, s3, hlt⟩, rfl⟩
      · have e2 : fX7_nextOwn (k_sA T 14 (upd r g (mTall T s))) (nI g) (nI s) = some (pEnc (fnd (mOkk T g) (N - (s + 1)) (s + 1)), k_sA T 14 (upd r g (mTall T s))) := M_own_a (S := k_sA T 14 (upd r g (mTall T s))) hN3 hN hk (show s < N by omega)
        rw [if_neg (nI_nlt (by omega) (qPl_le5 _ _ _ _ _ hG)), e2, q_ob, q_bn]
        rcases ih (N - (s + 1)) (s + 1) f (upd r g (mTall T s)) (by omega) (by omega) (by omega) (fun j h5 h6 => by rw [pk_un h6]; exact hw j h5 h6) with ⟨r', ⟨y, y1, y2⟩, e3⟩ | ⟨r', y1, e3⟩
        · exact .inl ⟨r', ⟨y, by omega, y2⟩, e3⟩
        · refine .inr ⟨r', fun y h4 h5 h6 => ?_, e3⟩
          by_cases hy1 : y < s
          · have := s4 y h4 hy1
            rw [h6] at this
            cases this
          · by_cases hy2 : y = s
            · rw [hy2]; exact hlt
            · exact y1 y (by omega) h5 h6
theorem M_isRest {T : k_S} {G N : Nat} {P : qP} (hG2 : T.1 2 = nI G) (hG : G ≤ 5) (hN3 : T.1 3 = nI N) (hN : N ≤ 10) (hk : ∀ x, x < N → pKind (T.2 3) x) (hr : ∀ g, g < G → T.2 15 g = pEnc (P g)) (hP : ∀ g, g < G → ∀ a, P g = some a → a < N) : ∃ (b : Bool) (w : qA), fX7_isRest T = some (bI b, k_sA T 14 w) ∧ (b = true ↔ qRest (mOkk T) (mTall T) N G (fun g => pO (mTall T) (P g))) := by
  let w : qA := fun g => pO (mTall T) (P g)
  have key : ∀ (d g f : Nat) (r : qA), g + d = G → d < f → ∃ (b : Bool) (r' : qA), fX7_isRest_c2 f (k_sA T 14 r) (nI g) = some (bI b, k_sA T 14 r') ∧ (b = true ↔ ∀ i, g ≤ i → i < G → ∀ x, x < N → mOkk T i x = true → ¬ qPl w i G (mTall T) x < qPlace G w i) := by
    intro d
    induction d with
    | zero =>
      intro g f r h1 h2
      obtain ⟨f, rfl⟩ := q_fu 0 h2
      rw [fX7_isRest_c2_s, show (k_sA T 14 r).1 2 = nI G from hG2, if_neg (nI_nlt (by omega) (by omega))]
      exact ⟨true, r, rfl, fun _ i h3 h4 => by omega, fun _ => rfl⟩
    | succ d ih =>
      intro g f r h1 h2
      obtain ⟨f, rfl⟩ := q_fu (d + 1) h2
      rw [fX7_isRest_c2_s, show (k_sA T 14 r).1 2 = nI G from hG2, if_pos (nI_lt (by omega) (by omega)), M_layTells hG2 hG hN hk hr hP, q_ob]
      let r1 : qA := pSet (fun g => pO (mTall T) (P g)) r 0 G
      have hw : ∀ j, j < G → r1 j = w j := fun j hj => pSet_in (Nat.zero_le j) hj
      show ∃ (b : Bool) (r' : qA), k_ob (fX7_placeOf (k_sA T 14 r1) (nI g)) _ = _ ∧ _
      rw [M_placeOf (τ := k_sA T 14 r1) hG2 hG (by omega), q_ob, q_bn]
      have hpl : pPl ((k_sA T 14 r1).2 14) g ((k_sA T 14 r1).2 14 g) G 0 0 = qPlace G w g := qPlace_congr (v := r1) (w := w) (show g < G by omega) hw
      have e2 : fX7_nextOwn (k_sA T 14 r1) (nI g) (k_ng 1) = some (pEnc (fnd (mOkk T g) N 0), k_sA T 14 r1) := M_own_0 (S := k_sA T 14 r1) hN3 hN hk
      rw [hpl, e2, q_ob, q_bn]
      rcases M_rest_in (T := T) (w := w) (fX7_isRest_c2 f) hG2 hG (show g < G by omega) hN3 hN hk N N 0 k_F r1 (Nat.le_refl N) (by omega) (q_kF (by omega)) (fun j h3 _ => hw j h3) with ⟨r', ⟨y, y1, y2, y3, y4⟩, e3⟩ | ⟨r', y1, e3⟩
      · rw [e3]
        exact ⟨false, r', rfl, fun h => (by cases h), fun h => absurd y4 (h g (Nat.le_refl g) (by omega) y y2 y3)⟩
      · rw [e3]
        obtain ⟨b, r'', e4, e5⟩ := ih (g + 1) f r' (by omega) (by omega)
        refine ⟨b, r'', e4, fun h i h3 h4 x x1 x2 => ?_, fun h => e5.mpr fun i h3 h4 => h i (by omega) h4⟩
        by_cases hi : i = g
        · subst hi
          exact y1 x (Nat.zero_le x) x1 x2
        · exact e5.mp h i (by omega) h4 x x1 x2
  unfold fX7_isRest
  rw [q_bn]
  obtain ⟨b, r', e1, e2⟩ := key G 0 k_F (T.2 14) (by omega) (q_kF (by omega))
  rw [s_Aid] at e1
  exact ⟨b, r', e1, e2.trans ⟨fun h g hg => h g (Nat.zero_le g) hg, fun h i _ hi => h i hi⟩⟩
-- ---- the search for rests
theorem T_keep {S : k_S} {c : Nat} (h8 : S.1 8 = nI c) (hc : c < 1000) : ∃ r : qA, fX1_keepRest S = some ((), k_sf (k_sA S 16 r) 8 (nI (c + 1))) ∧ (c = 0 → ∀ j, j < 5 → r j = S.2 15 j) ∧ (0 < c → r = S.2 16) := by
  unfold fX1_keepRest fX1_keepRest_c21 k_gc
  rw [h8]
  by_cases h0 : c = 0
  · subst h0
    rw [if_pos q_0i]
    simp (disch := omega) only [q_bn, q_ob, q_z0, q_z1, q_gd, q_cl, q_add, q_mul, q_lt, q_eq, q_eq0, q_lt0, q_0lt, q_ngl, q_ngr, q_ng0, q_ngz, q_ngn, q_ngp, q_nlt, s_sc]
    rw [if_neg (by simp only [false_or]; omega)]
    refine ⟨va_cpy (S.2 15) (S.2 16) 0 0 5, ?_, fun _ j hj => ?_, fun h => absurd h (by decide)⟩
    · rw [show (k_sA S 16 (va_cpy (S.2 15) (S.2 16) 0 0 5)).1 8 = nI 0 from h8, q_add]
    · unfold va_cpy
      rw [if_pos (by omega), Nat.zero_add, Nat.sub_zero]
  · rw [if_neg (by rw [q_eq0 (by omega)]; exact h0), q_bn, q_add]
    refine ⟨S.2 16, by rw [s_Aid], fun h => absurd h h0, fun _ => rfl⟩
theorem M_keep {T : k_S} {G c : Nat} (hG2 : T.1 2 = nI G) (hG : G ≤ 5) (hc : c < 1000) (kh : k_S → Int32 → Int32 → Option (Int32 × k_S)) : ∃ r : qA, fX7_findRests_c64 kh k_F T (nI c) (nI 0) = fX7_findRests_c94 kh (k_sA T 16 r) (nI c) ∧ (c = 0 → ∀ j, j < G → r j = T.2 15 j) ∧ (0 < c → r = T.2 16) := by
  by_cases h0 : c = 0
  · subst h0
    have key : ∀ (d g f : Nat) (r : qA), g + d = G → d < f → fX7_findRests_c64 kh f (k_sA T 16 r) (nI 0) (nI g) = fX7_findRests_c94 kh (k_sA T 16 (pSet (T.2 15) r g G)) (nI 0) := by
      intro d
      induction d with
      | zero =>
        intro g f r h1 h2
        obtain ⟨f, rfl⟩ := q_fu 0 h2
        rw [fX7_findRests_c64_s, show (k_sA T 16 r).1 2 = nI G from hG2, if_neg (nI_nlt (by omega) (by omega)), pSet_no _ _ (by omega)]
      | succ d ih =>
        intro g f r h1 h2
        obtain ⟨f, rfl⟩ := q_fu (d + 1) h2
        rw [fX7_findRests_c64_s, show (k_sA T 16 r).1 2 = nI G from hG2, if_pos (nI_lt (by omega) (by omega)), if_pos q_0i, q_gd (by omega) (by decide), q_gd (by omega) (by decide), q_bn, s_sa, q_cl (by omega), q_bn, q_add, s_AA]
        have := ih (g + 1) f (upd r g (T.2 15 g)) (by omega) (by omega)
        rw [pSet_step _ r (show g < G by omega)] at this
        exact this
    have := key G 0 k_F (T.2 16) (by omega) (q_kF (by omega))
    rw [s_Aid] at this
    exact ⟨_, this, fun _ j hj => pSet_in (Nat.zero_le j) hj, fun h => absurd h (by decide)⟩
  · refine ⟨T.2 16, ?_, fun h => absurd h h0, fun _ => rfl⟩
    obtain ⟨f, hf⟩ := q_fu 0 (q_kF (by decide))
    rw [hf, fX7_findRests_c64_s, s_Aid, if_neg (show ¬ nI c = 0 by rw [q_eq0 (by omega)]; exact h0)]
    split <;> rfl
theorem q_find {σ τ : k_S} {G N m K : Nat} (hH : RH σ τ G N m K) {ok : Nat → Nat → Bool} (hok : ok = tOk σ) {tl : Nat → Int32} (htl : tl = tTall σ) : ∀ (n : Nat) (P : qP) (S T : k_S) (c l f1 f2 : Nat), qVal ok N G P = n → n + 1 < f1 → n + 1 < f2 → l + n < 1000 → c ≤ l → kT σ S → kM τ T → S.1 8 = nI c → (∀ g, g < G → S.2 15 g = pEnc (P g)) → (∀ g, g < G → T.2 15 g = pEnc (P g)) → (0 < c → ∀ g, g < G → S.2 16 g = T.2 16 g) → qV ok N G P → ∃ (c' : Nat) (S' T' : k_S), c' ≤ 1000 ∧ fX1_find_c41 f1 S (nI 1) (nI l) = some ((), S') ∧ fX7_findRests_c51 f2 T (nI c) (nI 1) = some (nI c', T') ∧ kT σ S' ∧ kM τ T' ∧ S'.1 8 = nI c' ∧ (0 < c' → ∀ g, g < G → S'.2 16 g = T'.2 16 g) ∧ c ≤ c' ∧ ∀ b, qV ok N G b → qRest ok tl N G (fun g => pO tl (b g)) → qLx G P b → 0 < c' := by
  have hokM : ok = mOkk τ := by rw [hok]; exact hH.ok
  have htlM : tl = mTall τ := by rw [htl]; exact hH.tall
  have hkd := fun {x} => hH.kindM (x := x)
  obtain ⟨⟨g1, g2⟩, ⟨n1, n2⟩, ⟨m1, m2⟩, ⟨k1, k2⟩, ⟨hG, hN, hm, hK, hz⟩, ⟨a5, a6, a7, a8, a9, a10⟩, ht, -⟩ := hH
  intro n
  induction n using Nat.strongRecOn with
  | _ n ih =>
    intro P S T c l f1 f2 hval hf1 hf2 hl hcl hkT hkM h8 hS15 hT15 h16 hV
    obtain ⟨f1, rfl⟩ := q_fu 0 (show 0 < f1 by omega)
    obtain ⟨f2, rfl⟩ := q_fu 0 (show 0 < f2 by omega)
    have hPN : ∀ g, g < G → ∀ a, P g = some a → a < N := fun g hg a ha => by
      rcases hV g hg with ⟨q, -⟩ | ⟨a', q1, q2, -⟩
      · rw [q] at ha; cases ha
      · rw [q1] at ha; cases ha; exact q2
    -- what follows, once the choice is looked at
    have cont : ∀ (S2 T2 : k_S) (c2 : Nat), c2 ≤ l + 1 → kT σ S2 → kM τ T2 → S2.1 8 = nI c2 → (∀ g, g < G → S2.2 15 g = pEnc (P g)) → (∀ g, g < G → T2.2 15 g = pEnc (P g)) → (0 < c2 → ∀ g, g < G → S2.2 16 g = T2.2 16 g) → ∃ (c' : Nat) (S' T' : k_S), c' ≤ 1000 ∧ fX1_find_c63 (fX1_find_c41 f1) S2 (nI l) = some ((), S') ∧ fX7_findRests_c97 (fX7_findRests_c51 f2) T2 (nI c2) = some (nI c', T') ∧ kT σ S' ∧ kM τ T' ∧ S'.1 8 = nI c' ∧ (0 < c' → ∀ g, g < G → S'.2 16 g = T'.2 16 g) ∧ c2 ≤ c' ∧ ∀ b, qV ok N G b → qRest ok tl N G (fun g => pO tl (b g)) → (∃ i, i < G ∧ (∀ j, j < i → P j = b j) ∧ ∃ p q, P i = some p ∧ b i = some q ∧ p < q) → 0 < c' := by
      intro S2 T2 c2 hc2 kT2 kM2 e8 e15 e15' e16
      have okS : tOk S2 = ok := by rw [kT2.ok, hok]
      have okT : mOkk T2 = ok := by rw [kM2.ok, hokM]
      have q1G : nI G - nI 1 = q1m G := by
        cases G with
        | zero => decide
        | succ G => exact q_sub (by omega)
      obtain ⟨r1, t1, t2⟩ := T_goOn_loop (S := S2) (G := G) (kT2.1.1.2.1.trans n1) hN hG G k_F (S2.2 15) P (Nat.le_refl G) (q_kF (by omega)) e15 (by rw [okS]; exact hV)
      obtain ⟨r2, t3, t4⟩ := M_goOn_loop (S := T2) (G := G) (kM2.1.1.2.1.trans n2) hN hG (fun x hx => by rw [kM2.1.2.1]; exact hkd hx) G k_F (T2.2 15) P (Nat.le_refl G) (q_kF (by omega)) e15' (by rw [okT]; exact hV)
      rw [s_Aid, okS] at t1
      rw [s_Aid, okT] at t3
      rw [okS] at t2
      rw [okT] at t4
      unfold fX1_find_c63 fX1_goOn fX7_findRests_c97 fX7_nextTells
      rw [q_bn, q_bn, kT2.1.1.1, kM2.1.1.1, g1, g2, q1G, t1, t3, q_ob, q_ob, q_bn, q_bn, q_bn, q_add]
      have kT3 : kT σ (k_sA S2 15 r1) := kT2.tr ⟨⟨⟨rfl, rfl, rfl, rfl⟩, rfl, rfl, rfl, rfl, rfl, rfl, rfl, rfl, rfl⟩, ⟨rfl, rfl, rfl⟩, rfl, rfl⟩
      have kM3 : kM τ (k_sA T2 15 r2) := kM2.tr ⟨⟨⟨rfl, rfl, rfl, rfl⟩, rfl, rfl, rfl, rfl, rfl, rfl, rfl, rfl⟩, ⟨rfl, rfl, rfl⟩, rfl, rfl⟩
      cases hnx : qNX ok N G P with
      | none =>
        obtain ⟨f1, rfl⟩ := q_fu 0 (show 0 < f1 by omega)
        obtain ⟨f2, rfl⟩ := q_fu 0 (show 0 < f2 by omega)
        rw [fX1_find_c41_s, fX7_findRests_c51_s, if_pos (show bI (none : Option qP).isSome = 0 by decide), if_pos (show bI (none : Option qP).isSome = 0 by decide)]
        refine ⟨c2, _, _, by omega, rfl, rfl, kT3, kM3, e8, e16, Nat.le_refl c2, fun b hb hbr ⟨i, i1, i2, i3⟩ => ?_⟩
        obtain ⟨P', e, -⟩ := qNX_lx hb G P (Nat.le_refl G) (fun j h1 h2 => by omega) ⟨i, i1, i2, i3⟩
        rw [hnx] at e
        cases e
      | some P' =>
        have hv := (qNX_val G P hnx).1
        obtain ⟨c', S', T', w1, w2, w3, w4, w5, w6, w7, w8, w9⟩ := ih (n - 1) (by omega) P' (k_sA S2 15 r1) (k_sA T2 15 r2) c2 (l + 1) f1 f2 (by omega) (by omega) (by omega) (by omega) hc2 kT3 kM3 e8 (t2 P' hnx) (t4 P' hnx) e16 (qNX_V G P (Nat.le_refl G) hV hnx)
        refine ⟨c', S', T', w1, w2, w3, w4, w5, w6, w7, w8, fun b hb hbr ⟨i, i1, i2, i3⟩ => ?_⟩
        obtain ⟨P'', e, hlx⟩ := qNX_lx hb G P (Nat.le_refl G) (fun j h1 h2 => by omega) ⟨i, i1, i2, i3⟩
        rw [hnx] at e
        cases e
        exact w9 b hb hbr hlx
    obtain ⟨bT, wT, eT, iT⟩ := T_isRest (S := S) (G := G) (N := N) (P := P) (hkT.1.1.1.trans g1) hG (hkT.1.1.2.1.trans n1) hN (fun x hx => by rw [hkT.1.2.2.1]; exact (ht x hx).2.1) hS15 hPN
    obtain ⟨bM, wM, eM, iM⟩ := M_isRest (T := T) (G := G) (N := N) (P := P) (hkM.1.1.1.trans g2) hG (hkM.1.1.2.1.trans n2) hN (fun x hx => by rw [hkM.1.2.1]; exact hkd hx) hT15 hPN
    rw [hkT.ok, hkT.tl, ← hok, ← htl] at iT
    rw [hkM.ok, hkM.tl, ← hokM, ← htlM] at iM
    have hb : bM = bT := Bool.eq_iff_iff.mpr (iM.trans iT.symm)
    subst hb
    have kT1 : kT σ (k_sA (k_sf S 7 (nI G)) 14 wT) := hkT.tr (kT.talls _)
    have kM1 : kM τ (k_sA T 14 wM) := hkM.tr (kM.tall _)
    rw [fX1_find_c41_s, fX7_findRests_c51_s, if_neg q_n1, if_neg q_n1, if_pos (nI_lt (by omega) (by decide)), eT, eM, q_ob, q_ob, q_bi, q_bi]
    cases bM with
    | false =>
      rw [if_neg (show ¬ false = true by decide), if_neg (show ¬ false = true by decide)]
      obtain ⟨c', S', T', w1, w2, w3, w4, w5, w6, w7, w8, w9⟩ := cont _ _ c (by omega) kT1 kM1 h8 hS15 hT15 h16
      refine ⟨c', S', T', w1, w2, w3, w4, w5, w6, w7, w8, fun b hb hbr ⟨i, i1, i2, i3⟩ => ?_⟩
      by_cases hi : i = G
      · subst hi
        have := iT.mpr (qRest_congr (fun j hj => by show pO tl (b j) = pO tl (P j); rw [i2 j hj]) hbr)
        cases this
      · exact w9 b hb hbr ⟨i, by omega, i2, i3.resolve_left hi⟩
    | true =>
      rw [if_pos (show true = true from rfl), if_pos (show true = true from rfl)]
      obtain ⟨rT, u1, u2, u3⟩ := T_keep (S := k_sA (k_sf S 7 (nI G)) 14 wT) (c := c) h8 (by omega)
      obtain ⟨rM, v1, v2, v3⟩ := M_keep (T := k_sA T 14 wM) (G := G) (c := c) (hkM.1.1.1.trans g2) hG (by omega) (fX7_findRests_c51 f2)
      rw [u1, q_ob, q_bn, v1]
      unfold fX7_findRests_c94
      rw [q_bn, q_add]
      obtain ⟨c', S', T', w1, w2, w3, w4, w5, w6, w7, w8, w9⟩ := cont (k_sf (k_sA (k_sA (k_sf S 7 (nI G)) 14 wT) 16 rT) 8 (nI (c + 1))) (k_sA (k_sA T 14 wM) 16 rM) (c + 1) (by omega) (kT1.tr ⟨⟨⟨rfl, rfl, rfl, rfl⟩, rfl, rfl, rfl, rfl, rfl, rfl, rfl, rfl, rfl⟩, ⟨rfl, rfl, rfl⟩, rfl, rfl⟩) (kM1.tr ⟨⟨⟨rfl, rfl, rfl, rfl⟩, rfl, rfl, rfl, rfl, rfl, rfl, rfl, rfl⟩, ⟨rfl, rfl, rfl⟩, rfl, rfl⟩) rfl hS15 hT15 (fun _ g hg => by
        show rT g = rM g
        by_cases h0 : c = 0
        · rw [u2 h0 g (by omega), v2 h0 g hg]
          exact (hS15 g hg).trans (hT15 g hg).symm
        · rw [u3 (by omega), v3 (by omega)]
          exact h16 (by omega) g hg)
      exact ⟨c', S', T', w1, w2, w3, w4, w5, w6, w7, by omega, fun b hb hbr hlx => by omega⟩
-- ---- one rest there is
theorem pPl_anti {w : qA} {g : Nat} {t u : Int32} (h : ¬ u < t) : ∀ (d o a b : Nat), a ≤ b → pPl w g u d o a ≤ pPl w g t d o b
  | 0, _, _, _, h1 => h1
  | d + 1, o, a, b, h1 => by
    unfold pPl
    refine pPl_anti h d (o + 1) _ _ ?_
    rw [Int32.lt_iff_toInt_lt] at h
    by_cases c0 : o = g
    · rw [if_pos c0, if_pos c0]; exact h1
    rw [if_neg c0, if_neg c0]
    by_cases c1 : t < w o
    · rw [if_pos c1]
      repeat' split
      all_goals omega
    · have c2 : ¬ u < w o := by
        rw [Int32.lt_iff_toInt_lt] at c1 ⊢
        omega
      rw [if_neg c1, if_neg c2]
      by_cases c3 : w o = u
      · have c4 : w o = t := by
          rw [Int32.lt_iff_toInt_lt] at c1
          apply Int32.toInt_inj.mp
          rw [c3] at c1 ⊢
          omega
        rw [if_pos c3, if_pos c4]
        split <;> omega
      · rw [if_neg c3]
        repeat' split
        all_goals omega
theorem q_best (ok : Nat → Bool) (tl : Nat → Int32) : ∀ (n : Nat), (∀ x, x < n → ok x = false) ∨ ∃ y, y < n ∧ ok y = true ∧ ∀ x, x < n → ok x = true → ¬ tl y < tl x
  | 0 => .inl fun x h => by omega
  | n + 1 => by
    by_cases hn : ok n = true
    · rcases q_best ok tl n with h | ⟨y, h1, h2, h3⟩
      · refine .inr ⟨n, by omega, hn, fun x h4 h5 => ?_⟩
        by_cases hx : x = n
        · rw [hx, q_nlt]; exact not_false
        · have := h x (by omega)
          rw [h5] at this
          cases this
      · by_cases hy : tl y < tl n
        · refine .inr ⟨n, by omega, hn, fun x h4 h5 => ?_⟩
          by_cases hx : x = n
          · rw [hx, q_nlt]; exact not_false
          · have := h3 x (by omega) h5
            rw [Int32.lt_iff_toInt_lt] at this hy ⊢
            omega
        · refine .inr ⟨y, by omega, h2, fun x h4 h5 => ?_⟩
          by_cases hx : x = n
          · rw [hx]; exact hy
          · exact h3 x (by omega) h5
    · rcases q_best ok tl n with h | ⟨y, h1, h2, h3⟩
      · refine .inl fun x h4 => ?_
        by_cases hx : x = n
        · rw [hx]; exact Bool.eq_false_iff.mpr hn
        · exact h x (by omega)
      · refine .inr ⟨y, by omega, h2, fun x h4 h5 => ?_⟩
        by_cases hx : x = n
        · rw [hx] at h5; exact absurd h5 hn
        · exact h3 x (by omega) h5
theorem q_rest (ok : Nat → Nat → Bool) (tl : Nat → Int32) (N G : Nat) : ∃ b : qP, qV ok N G b ∧ qRest ok tl N G (fun g => pO tl (b g)) := by
  have h : ∀ g, ∃ o : Option Nat, (o = none ∧ qFs ok N g = none ∧ ∀ x, x < N → ok g x = false) ∨ ∃ y, o = some y ∧ y < N ∧ ok g y = true ∧ ∀ x, x < N → ok g x = true → ¬ tl y < tl x := fun g => by
    rcases q_best (ok g) tl N with h | ⟨y, h1, h2, h3⟩
    · refine ⟨none, .inl ⟨rfl, ?_, h⟩⟩
      cases hf : qFs ok N g with
      | none => rfl
      | some s =>
        have := fnd_some N 0 hf
        rw [h s (by omega)] at this
        cases this.2.2.1
    · exact ⟨some y, .inr ⟨y, rfl, h1, h2, h3⟩⟩
  refine ⟨fun g => Classical.choose (h g), fun g _ => ?_, fun g hg x hx ho => ?_⟩
  · rcases Classical.choose_spec (h g) with ⟨q1, q2, -⟩ | ⟨y, q1, q2, q3, -⟩
    · exact .inl ⟨q1, q2⟩
    · exact .inr ⟨y, q1, q2, q3⟩
  · rcases Classical.choose_spec (h g) with ⟨-, -, q3⟩ | ⟨y, q1, q2, q3, q4⟩
    · rw [q3 x hx] at ho
      cases ho
    · refine Nat.not_lt.mpr ?_
      show pPl _ g ((fun g => pO tl (Classical.choose (h g))) g) G 0 0 ≤ pPl _ g (tl x) G 0 0
      refine pPl_anti ?_ G 0 0 0 (Nat.le_refl 0)
      show ¬ pO tl (Classical.choose (h g)) < tl x
      rw [q1]
      exact q4 x hx ho
theorem pu_rests {σ τ : k_S} (h : RR σ τ) (x : Int32) : qOk (fX6_rests σ x) (fX7_rests τ x) := by
  obtain ⟨⟨G, N, m, K, hH⟩, hS, h0, h1⟩ := id h
  have hH' := hH
  have hok := hH.ok
  have hkd := fun {x} => hH.kindM (x := x)
  obtain ⟨⟨g1, g2⟩, ⟨n1, n2⟩, ⟨m1, m2⟩, ⟨k1, k2⟩, ⟨hG, hN, hm, hK, hz⟩, ⟨a5, a6, a7, a8, a9, a10⟩, ht, -⟩ := hH
  by_cases hG0 : G = 0
  · subst hG0
    have eM : fX7_findRests τ = some (nI 0, τ) := by
      unfold fX7_findRests
      obtain ⟨f, hf⟩ := q_fu 0 (q_kF (by decide))
      rw [q_bn, q_bn, hf, fX7_findRests_c4_s, g2, if_neg (by decide), if_neg (by decide)]
      unfold fX7_findRests_c50
      rw [q_bn, hf, fX7_findRests_c51_s, if_pos q_0i]
    unfold fX6_rests fX7_rests
    by_cases hx : x = k_ng 1
    · subst hx
      rw [if_pos rfl, if_pos rfl]
      unfold fX6_rests_c18 fX7_rests_c15
      rw [T_isOpen g1 hG, q_ob, if_pos rfl, if_pos q_0i, eM, q_ob, q_bn, if_pos rfl]
      exact ⟨_, σ, τ, rfl, rfl, h⟩
    · rw [if_neg hx, if_neg hx]
      rcases q_ix x (n := 0) (by decide) with ⟨g, hg, rfl⟩ | hx
      · omega
      · have hx' := q_out (by omega) hx
        rw [T_hasGuest_out g1 hx', M_isGuest_out g2 hx']
        exact ⟨k_ng 1, σ, τ, rfl, rfl, h⟩
  -- the search, from the first choice on
  have find : ∃ (c : Nat) (S T : k_S), fX1_find σ = some ((), S) ∧ fX7_findRests τ = some (nI c, T) ∧ S.1 8 = nI c ∧ kT σ S ∧ kM τ T ∧ ∀ g, g < G → S.2 16 g = T.2 16 g := by
    let ok := tOk σ
    let σ0 : k_S := k_sf σ 8 (nI 0)
    have hT : ∀ (d g f : Nat) (r : qA), g + d = G → d < f → fX1_find_c7 f (k_sA σ0 15 r) (nI g) = fX1_find_c41 k_F (k_sA σ0 15 (pSet (fun g => pEnc (qFs ok N g)) r g G)) (nI 1) (nI 0) := by
      intro d
      induction d with
      | zero =>
        intro g f r h1 h2
        obtain ⟨f, rfl⟩ := q_fu 0 h2
        rw [fX1_find_c7_s, show (k_sA σ0 15 r).1 3 = nI G from g1, if_neg (nI_nlt (by omega) (by omega)), pSet_no _ _ (by omega), q_bn, q_bn]
      | succ d ih =>
        intro g f r h1 h2
        obtain ⟨f, rfl⟩ := q_fu (d + 1) h2
        have e : fX1_ownAfter (k_sA σ0 15 r) (nI g) (k_ng 9) = some (pEnc (qFs ok N g), k_sA σ0 15 r) := T_own_0 (S := k_sA σ0 15 r) n1 hN
        rw [fX1_find_c7_s, show (k_sA σ0 15 r).1 3 = nI G from g1, if_pos (nI_lt (by omega) (by omega)), e, q_ob, q_gd (by omega) (by decide), q_bn, s_sa, q_cl (by omega), q_bn, q_add, s_AA]
        have := ih (g + 1) f (upd r g (pEnc (qFs ok N g))) (by omega) (by omega)
        rw [pSet_step (fun g => pEnc (qFs ok N g)) r (show g < G by omega)] at this
        exact this
    have hM : ∀ (d g f : Nat) (r q : qA), g + d = G → d < f → fX7_findRests_c4 f (k_sA (k_sA τ 15 r) 16 q) (nI 0) (nI g) = fX7_findRests_c51 k_F (k_sA (k_sA τ 15 (pSet (fun g => pEnc (qFs ok N g)) r g G)) 16 (pSet (fun _ => k_ng 9) q g G)) (nI 0) (nI 1) := by
      intro d
      induction d with
      | zero =>
        intro g f r q h1 h2
        obtain ⟨f, rfl⟩ := q_fu 0 h2
        rw [fX7_findRests_c4_s, show (k_sA (k_sA τ 15 r) 16 q).1 2 = nI G from g2, if_neg (nI_nlt (by omega) (by omega)), if_pos (show 0 < nI G from nI_lt (show 0 < G by omega) (by omega)), pSet_no _ _ (by omega), pSet_no _ _ (by omega)]
        rfl
      | succ d ih =>
        intro g f r q h1 h2
        obtain ⟨f, rfl⟩ := q_fu (d + 1) h2
        have e : fX7_nextOwn (k_sA (k_sA τ 15 r) 16 q) (nI g) (k_ng 1) = some (pEnc (qFs ok N g), k_sA (k_sA τ 15 r) 16 q) := by
          have := M_own_0 (S := k_sA (k_sA τ 15 r) 16 q) (g := g) n2 hN (fun x hx => hkd hx)
          rw [show mOkk (k_sA (k_sA τ 15 r) 16 q) = ok from hok.symm] at this
          exact this
        rw [fX7_findRests_c4_s, show (k_sA (k_sA τ 15 r) 16 q).1 2 = nI G from g2, if_pos (nI_lt (by omega) (by omega)), e, q_ob, q_gd (by omega) (by decide), q_bn, s_sa, q_cl (by omega), q_gd (by omega) (by decide), q_bn, s_sa, q_cl (by omega), q_bn, q_add]
        have := ih (g + 1) f (upd r g (pEnc (qFs ok N g))) (upd q g (k_ng 9)) (by omega) (by omega)
        rw [pSet_step (fun g => pEnc (qFs ok N g)) r (show g < G by omega), pSet_step (fun _ => k_ng 9) q (show g < G by omega)] at this
        rw [← this]
        refine congrArg (fun T => fX7_findRests_c4 f T (nI 0) (nI (g + 1))) ?_
        unfold k_sA k_up
        refine Prod.ext rfl (funext fun j => ?_)
        by_cases h5 : j = 15
        · subst h5; rfl
        · by_cases h6 : j = 16
          · subst h6; rfl
          · simp [h5, h6]
    have eT : fX1_find σ = fX1_find_c41 k_F (k_sA σ0 15 (pSet (fun g => pEnc (qFs ok N g)) (σ.2 15) 0 G)) (nI 1) (nI 0) := by
      unfold fX1_find
      rw [q_bn, q_bn]
      have := hT G 0 k_F (σ.2 15) (by omega) (q_kF (by omega))
      rw [show σ.2 15 = σ0.2 15 from rfl, s_Aid] at this
      exact this
    have eM : fX7_findRests τ = fX7_findRests_c51 k_F (k_sA (k_sA τ 15 (pSet (fun g => pEnc (qFs ok N g)) (τ.2 15) 0 G)) 16 (pSet (fun _ => k_ng 9) (τ.2 16) 0 G)) (nI 0) (nI 1) := by
      unfold fX7_findRests
      rw [q_bn, q_bn]
      have := hM G 0 k_F (τ.2 15) (τ.2 16) (by omega) (q_kF (by omega))
      rw [s_Aid, s_Aid] at this
      exact this
    have hpr : qPr ok N G < 1000 := qPr_le (L := 5) hN (fun x a b ha hb h1 h2 => by
      have h1 : (decide (σ.2 6 x = nI a) && decide (¬ tMay σ x = 0)) = true := h1
      have h2 : (decide (σ.2 6 x = nI b) && decide (¬ tMay σ x = 0)) = true := h2
      rw [Bool.and_eq_true, decide_eq_true_iff] at h1 h2
      have := h1.1.symm.trans h2.1
      rw [nI_eq (by omega) (by omega)] at this
      exact this) hG
    have hval := qVal_first (ok := ok) (N := N) G
    obtain ⟨b, b1, b2⟩ := q_rest ok (tTall σ) N G
    obtain ⟨c, S, T, w1, w2, w3, w4, w5, w6, w7, w8, w9⟩ := q_find hH' (ok := ok) rfl (tl := tTall σ) rfl (qVal ok N G (qFs ok N)) (qFs ok N) (k_sA σ0 15 (pSet (fun g => pEnc (qFs ok N g)) (σ.2 15) 0 G)) (k_sA (k_sA τ 15 (pSet (fun g => pEnc (qFs ok N g)) (τ.2 15) 0 G)) 16 (pSet (fun _ => k_ng 9) (τ.2 16) 0 G)) 0 0 k_F k_F rfl (q_kF (by omega)) (q_kF (by omega)) (by omega) (Nat.le_refl 0) ⟨⟨⟨rfl, rfl, rfl, rfl⟩, rfl, rfl, rfl, rfl, rfl, rfl, rfl, rfl, rfl⟩, ⟨rfl, rfl, rfl⟩, rfl, rfl⟩ ⟨⟨⟨rfl, rfl, rfl, rfl⟩, rfl, rfl, rfl, rfl, rfl, rfl, rfl, rfl⟩, ⟨rfl, rfl, rfl⟩, rfl, rfl⟩ rfl (fun g hg => show pSet (fun g => pEnc (qFs ok N g)) (σ.2 15) 0 G g = pEnc (qFs ok N g) from pSet_in (Nat.zero_le g) hg) (fun g hg => show pSet (fun g => pEnc (qFs ok N g)) (τ.2 15) 0 G g = pEnc (qFs ok N g) from pSet_in (Nat.zero_le g) hg) (fun h => absurd h (by decide)) (fun g _ => qFs_ok)
    exact ⟨c, S, T, eT.trans w2, eM.trans w3, w6, w4, w5, w7 (w9 b b1 b2 (qLx_first b1 G 0 _ (by omega) (fun j hj => by omega) (fun j _ _ => rfl)))⟩
  obtain ⟨c, S, T, e1, e2, e3, e4, e5, e6⟩ := find
  unfold fX6_rests fX7_rests
  have fin1 : fX6_rests_c18 σ = fun l1 => if l1 = k_ng 1 then some (nI c, S) else k_gd l1 5 (some (S.2 16 l1.toNatClampNeg, S)) := by
    funext l1
    unfold fX6_rests_c18
    rw [T_isOpen g1 hG, q_ob, if_neg hG0, if_neg q_n1, e1, q_ob, e3]
  have fin2 : fX7_rests_c15 τ = fun l1 => if l1 = k_ng 1 then some (nI c, T) else k_gd l1 5 (some (T.2 16 l1.toNatClampNeg, T)) := by
    funext l1
    unfold fX7_rests_c15
    rw [e2, q_ob, q_bn]
  by_cases hx : x = k_ng 1
  · subst hx
    rw [if_pos rfl, if_pos rfl, fin1, fin2]
    show qOk (if k_ng 1 = k_ng 1 then _ else _) (if k_ng 1 = k_ng 1 then _ else _)
    rw [if_pos rfl, if_pos rfl]
    exact ⟨_, S, T, rfl, rfl, h.keep e4 e5⟩
  · rw [if_neg hx, if_neg hx]
    rcases q_ix x (n := G) (by omega) with ⟨g, hg, rfl⟩ | hx'
    · rw [T_hasGuest_in g1 hG hg, M_isGuest_in g2 hG hg, q_ob, q_ob, if_neg q_n1, if_neg q_n1, fin1, fin2]
      show qOk (if nI g = k_ng 1 then _ else _) (if nI g = k_ng 1 then _ else _)
      rw [if_neg hx, if_neg hx, q_gd (by omega) (by decide), q_gd (by omega) (by decide), q_cl (by omega), e6 g hg]
      exact ⟨_, S, T, rfl, rfl, h.keep e4 e5⟩
    · have hx'' := q_out (by omega) hx'
      rw [T_hasGuest_out g1 hx'', M_isGuest_out g2 hx'']
      exact ⟨k_ng 1, σ, τ, rfl, rfl, h⟩
