/-! ===== answers, borrowed ones ===== -/
def pEnc : Option Nat → Int32
  | none => k_ng 9
  | some x => nI x
def bI (b : Bool) : Int32 := if b then nI 1 else nI 0
theorem bI_0 (b : Bool) : (bI b = 0) = (b = false) := by cases b <;> decide
def qNx (bt : Nat → Nat → Bool) (acc : Option Nat) (x : Nat) : Option Nat := match acc with
  | none => some x
  | some b => if bt x b then some x else some b
/-- the best of those that are offered, from x on -/
def pBest (off : Nat → Bool) (bt : Nat → Nat → Bool) : Nat → Nat → Option Nat → Option Nat
  | 0, _, acc => acc
  | d + 1, x, acc => pBest off bt d (x + 1) (if off x then qNx bt acc x else acc)
/-- a guest's place by a tale x, and how tall that is: which of two is better -/
def qPl (w : qA) (g G : Nat) (tl : Nat → Int32) (x : Nat) : Nat := pPl w g (tl x) G 0 0
def qBt (w : qA) (g G : Nat) (tl : Nat → Int32) (x b : Nat) : Bool := if qPl w g G tl x < qPl w g G tl b then true else if qPl w g G tl x = qPl w g G tl b then decide (tl x < tl b) else false
theorem qPl_le (w : qA) (g G : Nat) (tl : Nat → Int32) (x : Nat) (hG : G ≤ 5) : qPl w g G tl x ≤ 5 := by
  have := pPl_le w g (tl x) G 0 0
  unfold qPl
  omega
theorem T_isBetter {σ : k_S} {G g x b : Nat} (hG7 : σ.1 7 = nI G) (hG : G ≤ 5) (hg : g < 5) (hx : x < 10) (hb : b < 10) : fX6_isBetterReply σ (nI g) (nI x) (nI b) = some (bI (qBt (σ.2 14) g G (tTall σ) x b), σ) := by
  unfold fX6_isBetterReply fX6_isBetterReply_c65
  rw [T_tallOf σ hx, q_ob, q_bn, T_tallOf σ hb, q_ob, q_bn, T_placeOf hG7 hG hg, q_ob, q_bn, T_placeOf hG7 hG hg, q_ob, q_bn]
  have h1 := qPl_le (σ.2 14) g G (tTall σ) x hG
  have h2 := qPl_le (σ.2 14) g G (tTall σ) b hG
  show (if nI (qPl (σ.2 14) g G (tTall σ) x) < nI (qPl (σ.2 14) g G (tTall σ) b) then _ else if nI (qPl (σ.2 14) g G (tTall σ) x) = nI (qPl (σ.2 14) g G (tTall σ) b) then _ else _) = _
  unfold qBt
  simp only [q_lt (show qPl (σ.2 14) g G (tTall σ) x < 2 ^ 31 by omega) (show qPl (σ.2 14) g G (tTall σ) b < 2 ^ 31 by omega), q_eq (show qPl (σ.2 14) g G (tTall σ) x < 2 ^ 31 by omega) (show qPl (σ.2 14) g G (tTall σ) b < 2 ^ 31 by omega)]
  by_cases c1 : qPl (σ.2 14) g G (tTall σ) x < qPl (σ.2 14) g G (tTall σ) b
  · simp only [if_pos c1]; rfl
  · by_cases c2 : qPl (σ.2 14) g G (tTall σ) x = qPl (σ.2 14) g G (tTall σ) b
    · by_cases c3 : tTall σ x < tTall σ b
      · simp only [if_neg c1, if_pos c2, if_pos c3, decide_eq_true c3]; rfl
      · simp only [if_neg c1, if_pos c2, if_neg c3, decide_eq_false c3]; rfl
    · simp only [if_neg c1, if_neg c2]; rfl
/-- what a reply answers -/
def qAns (w : qA) (g G : Nat) (tl : Nat → Int32) (y : Int32) (res : Option Nat) : Int32 := if y = 0 then pEnc res else match res with
  | none => k_ng 9
  | some b => nI (qPl w g G tl b)
theorem pBest_lt {off : Nat → Bool} {bt : Nat → Nat → Bool} {N : Nat} : ∀ (d x : Nat) (acc : Option Nat), x + d ≤ N → (∀ b, acc = some b → b < N) → ∀ b, pBest off bt d x acc = some b → b < N
  | 0, _, _, _, h => h
  | d + 1, x, acc, h1, h => by
    unfold pBest
    refine pBest_lt d (x + 1) _ (by omega) (fun b hb => ?_)
    split at hb
    · unfold qNx at hb
      cases acc with
      | none => cases hb; omega
      | some b' =>
        dsimp only at hb
        split at hb
        · cases hb; omega
        · cases hb; exact h _ rfl
    · exact h b hb
theorem T_reply_loop {σ : k_S} {G N g : Nat} (hG7 : σ.1 7 = nI G) (hG : G ≤ 5) (hg : g < 5) (hN : σ.1 4 = nI N) (hN10 : N ≤ 10) (y fl : Int32) (off : Nat → Bool) (hoff : ∀ x, x < N → fX0_isOffered σ (nI g) (nI x) fl = some (bI (off x), σ)) : ∀ (d x f : Nat) (acc : Option Nat), x + d = N → d < f → (∀ b, acc = some b → b < N) → fX6_bestReply_c43 f σ (nI g) y fl (pEnc acc) (nI x) = some (qAns (σ.2 14) g G (tTall σ) y (pBest off (qBt (σ.2 14) g G (tTall σ)) d x acc), σ) := by
  intro d
  induction d with
  | zero =>
    intro x f acc h1 h2 hacc
    obtain ⟨f, rfl⟩ := q_fu 0 h2
    rw [fX6_bestReply_c43_s, hN, if_neg (by simp (disch := omega) only [q_bn, q_ob, q_z0, q_z1, q_gd, q_cl, q_add, q_mul, q_lt, q_eq, q_eq0, q_lt0, q_0lt, q_ngl, q_ngr, q_ng0, q_ngz, q_ngn, q_ngp, q_nlt]; omega)]
    unfold pBest qAns
    by_cases hy : y = 0
    · rw [if_pos hy, if_pos hy]
    · rw [if_neg hy, if_neg hy]
      cases acc with
      | none => exact if_pos rfl
      | some b =>
        have hb := hacc b rfl
        unfold pEnc
        rw [if_neg (by simp (disch := omega) only [q_bn, q_ob, q_z0, q_z1, q_gd, q_cl, q_add, q_mul, q_lt, q_eq, q_eq0, q_lt0, q_0lt, q_ngl, q_ngr, q_ng0, q_ngz, q_ngn, q_ngp, q_nlt]; exact not_false), T_tallOf σ (show b < 10 by omega), q_ob, T_placeOf hG7 hG hg, q_ob]
        rfl
  | succ d ih =>
    intro x f acc h1 h2 hacc
    obtain ⟨f, rfl⟩ := q_fu (d + 1) h2
    have hx : x < N := by omega
    rw [fX6_bestReply_c43_s, hN, if_pos (by simp (disch := omega) only [q_bn, q_ob, q_z0, q_z1, q_gd, q_cl, q_add, q_mul, q_lt, q_eq, q_eq0, q_lt0, q_0lt, q_ngl, q_ngr, q_ng0, q_ngz, q_ngn, q_ngp, q_nlt]; omega)]
    unfold fX6_bestReply_c91 fX6_bestReply_c95 pBest
    simp only [q_bn, q_add]
    have stay := ih (x + 1) f acc (by omega) (by omega) hacc
    have take := ih (x + 1) f (some x) (by omega) (by omega) (fun b hb => by cases hb; exact hx)
    rw [hoff x hx, q_ob]
    simp only [bI_0]
    by_cases ho : off x = true
    · rw [if_neg (by rw [ho]; decide), if_pos ho]
      unfold qNx
      cases acc with
      | none =>
        rw [if_pos (show pEnc none = k_ng 9 from rfl)]
        exact take
      | some b =>
        have hb := hacc b rfl
        rw [if_neg (show ¬ pEnc (some b) = k_ng 9 by unfold pEnc; simp (disch := omega) only [q_bn, q_ob, q_z0, q_z1, q_gd, q_cl, q_add, q_mul, q_lt, q_eq, q_eq0, q_lt0, q_0lt, q_ngl, q_ngr, q_ng0, q_ngz, q_ngn, q_ngp, q_nlt]; exact not_false)]
        rw [show pEnc (some b) = nI b from rfl, T_isBetter hG7 hG hg (show x < 10 by omega) (show b < 10 by omega), q_ob]
        simp only [bI_0]
        by_cases hb : qBt (σ.2 14) g G (tTall σ) x b = true
        · rw [if_neg (by rw [hb]; decide), if_pos hb]
          exact take
        · rw [if_pos (Bool.eq_false_iff.mpr hb), if_neg hb]
          exact stay
    · rw [if_pos (Bool.eq_false_iff.mpr ho), if_neg ho]
      exact stay
-- ---- the reference's offers
def mS (τ : k_S) (r : qA) (e p t : Int32) : k_S := k_sf (k_sf (k_sf (k_sA τ 14 r) 9 e) 10 p) 11 t
theorem mS_st (τ : k_S) (r : qA) (e p t e' p' t' : Int32) : k_sf (k_sf (k_sf (mS τ r e p t) 9 e') 10 p') 11 t' = mS τ r e' p' t' := by
  unfold mS k_sA k_sf k_up
  refine Prod.ext (funext fun j => ?_) rfl
  by_cases h1 : j = 11
  · simp [h1]
  · by_cases h2 : j = 10
    · simp [h2]
    · by_cases h3 : j = 9 <;> simp [h1, h2, h3]
theorem mS_r (τ : k_S) (r r' : qA) (e p t : Int32) : k_sA (mS τ r e p t) 14 r' = mS τ r' e p t := by
  unfold mS k_sA k_sf k_up
  refine Prod.ext rfl (funext fun j => ?_)
  by_cases h1 : j = 14 <;> simp [h1]
theorem kM.mS {τ : k_S} (r : qA) (e p t : Int32) : kM τ (mS τ r e p t) := ⟨⟨⟨rfl, rfl, rfl, rfl⟩, rfl, rfl, rfl, rfl, rfl, rfl, rfl, rfl⟩, ⟨rfl, rfl, rfl⟩, rfl, rfl⟩
/-- what the reference keeps of the best so far -/
def mOk (w : qA) (g G : Nat) (tl : Nat → Int32) (acc : Option Nat) (e p t : Int32) : Prop := e = pEnc acc ∧ ∀ b, acc = some b → p = nI (qPl w g G tl b) ∧ t = tl b
theorem M_offer {τ : k_S} {G g x N : Nat} {w r : qA} {e p t : Int32} {acc : Option Nat} (hG2 : τ.1 2 = nI G) (hG : G ≤ 5) (hg : g < G) (hx : x < 10) (hk : pKind (τ.2 3) x) (hr : ∀ j, j < G → j ≠ g → r j = w j) (ho : mOk w g G (mTall τ) acc e p t) (hN : N ≤ 10) (hacc : ∀ b, acc = some b → b < N) : ∃ (r' : qA) (e' p' t' : Int32), fX7_offer (mS τ r e p t) (nI g) (nI x) = some ((), mS τ r' e' p' t') ∧ (∀ j, j < G → j ≠ g → r' j = w j) ∧ mOk w g G (mTall τ) (qNx (qBt w g G (mTall τ)) acc x) e' p' t' := by
  have e1 : k_sa (mS τ r e p t) 14 (nI g) (mTall τ x) = mS τ (upd r g (mTall τ x)) e p t := by
    rw [s_sa, q_cl (by omega)]
    exact mS_r τ r (upd r g (mTall τ x)) e p t
  have e2 : pPl ((mS τ (upd r g (mTall τ x)) e p t).2 14) g ((mS τ (upd r g (mTall τ x)) e p t).2 14 g) G 0 0 = qPl w g G (mTall τ) x := by
    show pPl (upd r g (mTall τ x)) g (upd r g (mTall τ x) g) G 0 0 = _
    rw [pk_us]
    exact pPl_congr G 0 0 (fun j _ h2 h3 => by rw [pk_un h3]; exact hr j (by omega) h3)
  have hr' : ∀ j, j < G → j ≠ g → upd r g (mTall τ x) j = w j := fun j h1 h2 => by rw [pk_un h2]; exact hr j h1 h2
  have take : fX7_offer_c60 (mS τ (upd r g (mTall τ x)) e p t) (nI g) (nI x) (nI (qPl w g G (mTall τ) x)) (nI 1) = some ((), mS τ (upd r g (mTall τ x)) (nI x) (nI (qPl w g G (mTall τ) x)) (mTall τ x)) := by
    unfold fX7_offer_c60
    rw [q_bn, if_neg q_n1, q_bn, q_bn, q_gd (by omega) (by decide), q_bn, q_cl (by omega)]
    have : (k_sf (k_sf (mS τ (upd r g (mTall τ x)) e p t) 9 (nI x)) 10 (nI (qPl w g G (mTall τ) x))).2 14 g = mTall τ x := pk_us
    rw [this, mS_st]
  have stay : fX7_offer_c60 (mS τ (upd r g (mTall τ x)) e p t) (nI g) (nI x) (nI (qPl w g G (mTall τ) x)) (nI 0) = some ((), mS τ (upd r g (mTall τ x)) e p t) := by
    unfold fX7_offer_c60
    rw [q_bn, if_pos q_0i]
  have h1 := qPl_le w g G (mTall τ) x hG
  obtain ⟨he, hp⟩ := ho
  have hrun : fX7_offer (mS τ r e p t) (nI g) (nI x) = if e = k_ng 9 then some ((), mS τ (upd r g (mTall τ x)) (nI x) (nI (qPl w g G (mTall τ) x)) (mTall τ x)) else if nI (qPl w g G (mTall τ) x) < p then some ((), mS τ (upd r g (mTall τ x)) (nI x) (nI (qPl w g G (mTall τ) x)) (mTall τ x)) else if nI (qPl w g G (mTall τ) x) = p then (if mTall τ x < t then some ((), mS τ (upd r g (mTall τ x)) (nI x) (nI (qPl w g G (mTall τ) x)) (mTall τ x)) else some ((), mS τ (upd r g (mTall τ x)) e p t)) else some ((), mS τ (upd r g (mTall τ x)) e p t) := by
    unfold fX7_offer
    rw [M_tallNow (mS τ r e p t) hx hk, q_ob, show mTall (mS τ r e p t) x = mTall τ x from rfl]
    rw [q_gd (by omega) (by decide), q_bn, e1, M_placeOf (τ := mS τ _ e p t) hG2 hG (show g < 5 by omega), q_ob, q_bn, e2]
    unfold fX7_offer_c55 fX7_offer_c59
    rw [take, stay, show (mS τ (upd r g (mTall τ x)) e p t).1 9 = e from rfl, show (mS τ (upd r g (mTall τ x)) e p t).1 10 = p from rfl, show (mS τ (upd r g (mTall τ x)) e p t).1 11 = t from rfl]
    rw [q_gd (by omega) (by decide), q_cl (by omega), show (mS τ (upd r g (mTall τ x)) e p t).2 14 g = mTall τ x from pk_us]
  have hT : ∃ (r' : qA) (e' p' t' : Int32), some ((), mS τ (upd r g (mTall τ x)) (nI x) (nI (qPl w g G (mTall τ) x)) (mTall τ x)) = some ((), mS τ r' e' p' t') ∧ (∀ j, j < G → j ≠ g → r' j = w j) ∧ mOk w g G (mTall τ) (some x) e' p' t' := ⟨_, _, _, _, rfl, hr', rfl, fun b hb => by cases hb; exact ⟨rfl, rfl⟩⟩
  have hS : ∃ (r' : qA) (e' p' t' : Int32), some ((), mS τ (upd r g (mTall τ x)) e p t) = some ((), mS τ r' e' p' t') ∧ (∀ j, j < G → j ≠ g → r' j = w j) ∧ mOk w g G (mTall τ) acc e' p' t' := ⟨_, _, _, _, rfl, hr', he, hp⟩
  rw [hrun]
  unfold qNx
  cases acc with
  | none =>
    rw [if_pos (show e = k_ng 9 from he)]
    exact hT
  | some b =>
    obtain ⟨hp1, hp2⟩ := hp b rfl
    have h2 := qPl_le w g G (mTall τ) b hG
    have hb := hacc b rfl
    have he9 : ¬ e = k_ng 9 := by rw [he]; unfold pEnc; simp (disch := omega) only [q_bn, q_ob, q_z0, q_z1, q_gd, q_cl, q_add, q_mul, q_lt, q_eq, q_eq0, q_lt0, q_0lt, q_ngl, q_ngr, q_ng0, q_ngz, q_ngn, q_ngp, q_nlt]; exact not_false
    rw [if_neg he9, hp1, hp2]
    unfold qBt
    simp only [q_lt (show qPl w g G (mTall τ) x < 2 ^ 31 by omega) (show qPl w g G (mTall τ) b < 2 ^ 31 by omega), q_eq (show qPl w g G (mTall τ) x < 2 ^ 31 by omega) (show qPl w g G (mTall τ) b < 2 ^ 31 by omega)]
    by_cases c1 : qPl w g G (mTall τ) x < qPl w g G (mTall τ) b
    · simp only [if_pos c1, if_true]
      exact hT
    · by_cases c2 : qPl w g G (mTall τ) x = qPl w g G (mTall τ) b
      · by_cases c3 : mTall τ x < mTall τ b
        · simp only [if_neg c1, if_pos c2, c3, if_true, decide_true]
          exact hT
        · simp only [if_neg c1, if_pos c2, c3, if_false, decide_false, Bool.false_eq_true]
          rw [← hp1, ← hp2]
          exact hS
      · simp only [if_neg c1, if_neg c2, Bool.false_eq_true, if_false]
        rw [← hp1, ← hp2]
        exact hS
theorem M_found {τ : k_S} {G g : Nat} {w r : qA} {e p t y : Int32} {acc : Option Nat} {N : Nat} (hN : N ≤ 10) (hacc : ∀ b, acc = some b → b < N) (ho : mOk w g G (mTall τ) acc e p t) : fX7_found (mS τ r e p t) y = some (qAns w g G (mTall τ) y acc, mS τ r e p t) := by
  obtain ⟨he, hp⟩ := ho
  unfold fX7_found fX7_found_c13 qAns
  rw [show (mS τ r e p t).1 9 = e from rfl, show (mS τ r e p t).1 10 = p from rfl, he]
  by_cases hy : y = 0
  · rw [if_pos hy, if_pos hy]
  · rw [if_neg hy, if_neg hy]
    cases acc with
    | none => exact if_pos rfl
    | some b =>
      have hb := hacc b rfl
      rw [if_neg (by unfold pEnc; simp (disch := omega) only [q_bn, q_ob, q_z0, q_z1, q_gd, q_cl, q_add, q_mul, q_lt, q_eq, q_eq0, q_lt0, q_0lt, q_ngl, q_ngr, q_ng0, q_ngz, q_ngn, q_ngp, q_nlt]; exact not_false), (hp b rfl).1]
theorem M_answer_loop {τ : k_S} {G N g : Nat} {w : qA} (hG2 : τ.1 2 = nI G) (hG : G ≤ 5) (hg : g < G) (hN3 : τ.1 3 = nI N) (hN : N ≤ 10) (hk : ∀ x, x < N → pKind (τ.2 3) x) (y : Int32) (off : Nat → Bool) (hoff : ∀ x, x < N → (off x = true ↔ τ.2 4 x = nI g ∧ ¬ mMay τ x = 0)) : ∀ (d x f : Nat) (acc : Option Nat) (r : qA) (e p t : Int32), x + d = N → d < f → (∀ b, acc = some b → b < N) → (∀ j, j < G → j ≠ g → r j = w j) → mOk w g G (mTall τ) acc e p t → ∃ (r' : qA) (e' p' t' : Int32), fX7_answer_c34 f (mS τ r e p t) (nI g) y (nI x) = some (qAns w g G (mTall τ) y (pBest off (qBt w g G (mTall τ)) d x acc), mS τ r' e' p' t') := by
  intro d
  induction d with
  | zero =>
    intro x f acc r e p t h1 h2 hacc hr ho
    obtain ⟨f, rfl⟩ := q_fu 0 h2
    rw [fX7_answer_c34_s, show (mS τ r e p t).1 3 = nI N from hN3, if_neg (by simp (disch := omega) only [q_bn, q_ob, q_z0, q_z1, q_gd, q_cl, q_add, q_mul, q_lt, q_eq, q_eq0, q_lt0, q_0lt, q_ngl, q_ngr, q_ng0, q_ngz, q_ngn, q_ngp, q_nlt]; omega), M_found hN hacc ho, q_ob]
    exact ⟨_, _, _, _, rfl⟩
  | succ d ih =>
    intro x f acc r e p t h1 h2 hacc hr ho
    obtain ⟨f, rfl⟩ := q_fu (d + 1) h2
    have hx : x < N := by omega
    rw [fX7_answer_c34_s, show (mS τ r e p t).1 3 = nI N from hN3, if_pos (by simp (disch := omega) only [q_bn, q_ob, q_z0, q_z1, q_gd, q_cl, q_add, q_mul, q_lt, q_eq, q_eq0, q_lt0, q_0lt, q_ngl, q_ngr, q_ng0, q_ngz, q_ngn, q_ngp, q_nlt]; omega)]
    unfold fX7_answer_c66 pBest
    simp only [q_bn, q_add]
    rw [q_gd (by omega) (by decide), q_cl (by omega), show (mS τ r e p t).2 4 = τ.2 4 from rfl]
    have stay := ih (x + 1) f acc r e p t (by omega) (by omega) hacc hr ho
    by_cases hw : τ.2 4 x = nI g
    · rw [if_pos hw, M_mayNow (mS τ r e p t) (show x < 10 by omega) (hk x hx), q_ob, show mMay (mS τ r e p t) x = mMay τ x from rfl]
      by_cases hm : mMay τ x = 0
      · rw [if_pos hm, if_neg (fun q => ((hoff x hx).mp q).2 hm)]
        exact stay
      · rw [if_neg hm, if_pos ((hoff x hx).mpr ⟨hw, hm⟩)]
        obtain ⟨r', e', p', t', o1, o2, o3⟩ := M_offer (N := N) (x := x) hG2 hG hg (by omega) (hk x hx) hr ho hN hacc
        rw [o1, q_ob]
        refine ih (x + 1) f _ r' e' p' t' (by omega) (by omega) (fun b hb => ?_) o2 o3
        unfold qNx at hb
        cases acc with
        | none => cases hb; exact hx
        | some b' =>
          dsimp only at hb
          split at hb
          · cases hb; exact hx
          · cases hb; exact hacc _ rfl
    · rw [if_neg hw, if_neg (fun q => hw ((hoff x hx).mp q).1)]
      exact stay
theorem M_isChosen {τ : k_S} {G : Nat} (hG2 : τ.1 2 = nI G) (hG : G ≤ 5) (v : Int32) : ∃ b : Bool, fX7_isChosen τ v = some (bI b, τ) ∧ (b = true ↔ ∃ g, g < G ∧ τ.2 11 g = v) := by
  have key : ∀ (d g f : Nat), g + d = G → d < f → ∃ b : Bool, fX7_isChosen_c2 f τ v (nI g) = some (bI b, τ) ∧ (b = true ↔ ∃ j, g ≤ j ∧ j < G ∧ τ.2 11 j = v) := by
    intro d
    induction d with
    | zero =>
      intro g f h1 h2
      obtain ⟨f, rfl⟩ := q_fu 0 h2
      rw [fX7_isChosen_c2_s, hG2, if_neg (by simp (disch := omega) only [q_bn, q_ob, q_z0, q_z1, q_gd, q_cl, q_add, q_mul, q_lt, q_eq, q_eq0, q_lt0, q_0lt, q_ngl, q_ngr, q_ng0, q_ngz, q_ngn, q_ngp, q_nlt]; omega)]
      refine ⟨false, rfl, ?_⟩
      constructor
      · intro q; cases q
      · rintro ⟨j, h3, h4, -⟩; omega
    | succ d ih =>
      intro g f h1 h2
      obtain ⟨f, rfl⟩ := q_fu (d + 1) h2
      rw [fX7_isChosen_c2_s, hG2, if_pos (by simp (disch := omega) only [q_bn, q_ob, q_z0, q_z1, q_gd, q_cl, q_add, q_mul, q_lt, q_eq, q_eq0, q_lt0, q_0lt, q_ngl, q_ngr, q_ng0, q_ngz, q_ngn, q_ngp, q_nlt]; omega), q_gd (by omega) (by decide), q_cl (by omega)]
      by_cases hv : τ.2 11 g = v
      · rw [if_pos hv]
        exact ⟨true, rfl, fun _ => ⟨g, Nat.le_refl g, by omega, hv⟩, fun _ => rfl⟩
      · rw [if_neg hv, q_bn, q_add]
        obtain ⟨b, b1, b2⟩ := ih (g + 1) f (by omega) (by omega)
        refine ⟨b, b1, b2.trans ?_⟩
        constructor
        · rintro ⟨j, h3, h4, h5⟩
          exact ⟨j, by omega, h4, h5⟩
        · rintro ⟨j, h3, h4, h5⟩
          refine ⟨j, ?_, h4, h5⟩
          by_cases hj : j = g
          · rw [hj] at h5; exact absurd h5 hv
          · omega
  obtain ⟨b, b1, b2⟩ := key G 0 k_F (by omega) (q_kF (by omega))
  refine ⟨b, b1, b2.trans ?_⟩
  constructor
  · rintro ⟨j, -, h4, h5⟩; exact ⟨j, h4, h5⟩
  · rintro ⟨j, h4, h5⟩; exact ⟨j, Nat.zero_le j, h4, h5⟩
theorem M_borrowed_loop {τ : k_S} {G N g : Nat} {w : qA} (hG2 : τ.1 2 = nI G) (hG : G ≤ 5) (hg : g < G) (hN3 : τ.1 3 = nI N) (hN : N ≤ 10) (hk : ∀ x, x < N → pKind (τ.2 3) x) (y : Int32) (off : Nat → Bool) (hoff : ∀ x, x < N → (off x = true ↔ ¬ τ.2 4 x = nI g ∧ ¬ mMay τ x = 0 ∧ ¬ ∃ g, g < G ∧ τ.2 11 g = nI x)) : ∀ (d x f : Nat) (acc : Option Nat) (r : qA) (e p t : Int32), x + d = N → d < f → (∀ b, acc = some b → b < N) → (∀ j, j < G → j ≠ g → r j = w j) → mOk w g G (mTall τ) acc e p t → ∃ (r' : qA) (e' p' t' : Int32), fX7_borrowed_c34 f (mS τ r e p t) (nI g) y (nI x) = some (qAns w g G (mTall τ) y (pBest off (qBt w g G (mTall τ)) d x acc), mS τ r' e' p' t') := by
  intro d
  induction d with
  | zero =>
    intro x f acc r e p t h1 h2 hacc hr ho
    obtain ⟨f, rfl⟩ := q_fu 0 h2
    rw [fX7_borrowed_c34_s, show (mS τ r e p t).1 3 = nI N from hN3, if_neg (by simp (disch := omega) only [q_bn, q_ob, q_z0, q_z1, q_gd, q_cl, q_add, q_mul, q_lt, q_eq, q_eq0, q_lt0, q_0lt, q_ngl, q_ngr, q_ng0, q_ngz, q_ngn, q_ngp, q_nlt]; omega), M_found hN hacc ho, q_ob]
    exact ⟨_, _, _, _, rfl⟩
  | succ d ih =>
    intro x f acc r e p t h1 h2 hacc hr ho
    obtain ⟨f, rfl⟩ := q_fu (d + 1) h2
    have hx : x < N := by omega
    rw [fX7_borrowed_c34_s, show (mS τ r e p t).1 3 = nI N from hN3, if_pos (by simp (disch := omega) only [q_bn, q_ob, q_z0, q_z1, q_gd, q_cl, q_add, q_mul, q_lt, q_eq, q_eq0, q_lt0, q_0lt, q_ngl, q_ngr, q_ng0, q_ngz, q_ngn, q_ngp, q_nlt]; omega)]
    unfold fX7_borrowed_c74 pBest
    simp only [q_bn, q_add]
    rw [q_gd (by omega) (by decide), q_cl (by omega), show (mS τ r e p t).2 4 = τ.2 4 from rfl]
    have stay := ih (x + 1) f acc r e p t (by omega) (by omega) hacc hr ho
    by_cases hw : τ.2 4 x = nI g
    · rw [if_pos hw, if_neg (fun q => ((hoff x hx).mp q).1 hw)]
      exact stay
    · rw [if_neg hw, M_mayNow (mS τ r e p t) (show x < 10 by omega) (hk x hx), q_ob, show mMay (mS τ r e p t) x = mMay τ x from rfl]
      by_cases hm : mMay τ x = 0
      · rw [if_pos hm, if_neg (fun q => ((hoff x hx).mp q).2.1 hm)]
        exact stay
      · rw [if_neg hm]
        obtain ⟨b, b1, b2⟩ := M_isChosen (τ := mS τ r e p t) hG2 hG (nI x)
        rw [b1, q_ob]
        simp only [bI_0]
        cases b with
        | true =>
          rw [if_neg (by decide), if_neg (fun q => ((hoff x hx).mp q).2.2 (b2.mp rfl))]
          exact stay
        | false =>
          rw [if_pos rfl, if_pos ((hoff x hx).mpr ⟨hw, hm, fun q => by cases b2.mpr q⟩)]
          obtain ⟨r', e', p', t', o1, o2, o3⟩ := M_offer (N := N) (x := x) hG2 hG hg (by omega) (hk x hx) hr ho hN hacc
          rw [o1, q_ob]
          refine ih (x + 1) f _ r' e' p' t' (by omega) (by omega) (fun b hb => ?_) o2 o3
          unfold qNx at hb
          cases acc with
          | none => cases hb; exact hx
          | some b' =>
            dsimp only at hb
            split at hb
            · cases hb; exact hx
            · cases hb; exact hacc _ rfl
theorem pBest_congr {o1 o2 : Nat → Bool} {b1 b2 : Nat → Nat → Bool} (hb : b1 = b2) : ∀ (d x : Nat) (acc : Option Nat), (∀ j, x ≤ j → j < x + d → o1 j = o2 j) → pBest o1 b1 d x acc = pBest o2 b2 d x acc
  | 0, _, _, _ => rfl
  | d + 1, x, acc, h => by
    unfold pBest
    rw [h x (Nat.le_refl x) (by omega), hb]
    exact pBest_congr rfl d (x + 1) _ (fun j h1 h2 => h j (by omega) (by omega))
theorem qPl_congr {v w : qA} {g G : Nat} {tl : Nat → Int32} (h : ∀ j, j < G → j ≠ g → v j = w j) : qPl v g G tl = qPl w g G tl := by
  funext x
  exact pPl_congr G 0 0 (fun j _ h2 h3 => h j (by omega) h3)
theorem qBt_congr {v w : qA} {g G : Nat} {tl : Nat → Int32} (h : ∀ j, j < G → j ≠ g → v j = w j) : qBt v g G tl = qBt w g G tl := by
  funext x b
  unfold qBt
  rw [qPl_congr h]
theorem T_isOffered {σ : k_S} {g x : Nat} (hx : x < 10) (fl : Nat) (hfl : fl < 2) {o : Nat} (ho : σ.2 6 x = nI o) (ho5 : o < 5) (hg5 : g < 5) : fX0_isOffered σ (nI g) (nI x) (nI fl) = some (bI (if fl = 0 then decide (o = g ∧ ¬ tMay σ x = 0) else decide (o ≠ g ∧ ¬ tMay σ x = 0 ∧ ¬ σ.2 10 o = nI x)), σ) := by
  unfold fX0_isOffered fX0_isOffered_c43
  rw [T_isTellable σ hx, q_ob]
  by_cases hm : tMay σ x = 0
  · rw [if_pos hm]
    have : (if fl = 0 then decide (o = g ∧ ¬ tMay σ x = 0) else decide (o ≠ g ∧ ¬ tMay σ x = 0 ∧ ¬ σ.2 10 o = nI x)) = false := by
      split <;> simp [hm]
    rw [this]
    rfl
  · rw [if_neg hm]
    simp (disch := omega) only [q_bn, q_ob, q_z0, q_z1, q_gd, q_cl, q_add, q_mul, q_lt, q_eq, q_eq0, q_lt0, q_0lt, q_ngl, q_ngr, q_ng0, q_ngz, q_ngn, q_ngp, q_nlt, ho]
    by_cases h0 : fl = 0
    · rw [if_pos h0, if_pos h0]
      by_cases h1 : o = g
      · rw [if_pos h1, decide_eq_true ⟨h1, hm⟩]; rfl
      · rw [if_neg h1, decide_eq_false (fun q => h1 q.1)]; rfl
    · rw [if_neg h0, if_neg h0]
      by_cases h1 : o = g
      · rw [if_pos h1, decide_eq_false (fun q => q.1 h1)]; rfl
      · rw [if_neg h1]
        by_cases h2 : σ.2 10 o = nI x
        · rw [if_pos h2, decide_eq_false (fun q => q.2.2 h2)]; rfl
        · rw [if_neg h2, decide_eq_true ⟨h1, hm, h2⟩]; rfl
theorem pu_reply {σ τ : k_S} (h : RR σ τ) (x y : Int32) (fl : Nat) (hfl : fl < 2) : qOk (fX6_bestReply σ x y (nI fl)) (if fl = 0 then fX7_answer τ x y else fX7_borrowed τ x y) := by
  obtain ⟨⟨G, N, m, K, hH⟩, hS, h0, h1⟩ := id h
  have hH' := hH
  have hMay := hH.may
  have hTall := hH.tall
  obtain ⟨⟨g1, g2⟩, ⟨n1, n2⟩, ⟨m1, m2⟩, ⟨k1, k2⟩, ⟨hG, hN, hm, hK, hz⟩, ⟨a5, a6, a7, a8, a9, a10⟩, ht, hc, hnn, hzz, hl, hh⟩ := hH
  unfold fX6_bestReply fX7_answer fX7_borrowed
  rcases q_ix x (n := G) (by omega) with ⟨g, hg, rfl⟩ | hx
  · rw [T_hasGuest_in g1 hG hg, M_isGuest_in g2 hG hg, q_ob, if_neg q_n1]
    simp only [q_ob, if_neg q_n1, M_within]
    by_cases hy : y < nI 0 ∨ nI 1 < y
    · simp only [if_pos hy, if_pos q_0i]
      refine ⟨k_ng 2, σ, τ, ?_, by split <;> rfl, h⟩
      by_cases hx0 : y < 0
      · rw [if_pos hx0]
      · rw [if_neg hx0, if_pos (hy.resolve_left hx0)]
    · simp only [if_neg hy, if_neg q_n1]
      rw [if_neg (show ¬ y < 0 from fun q => hy (.inl q)), if_neg (fun q => hy (.inr q)), hH'.talls.1]
      simp only [q_ob, q_bn, hH'.talls.2]
      let off : Nat → Bool := fun x => if fl = 0 then decide (σ.2 6 x = nI g ∧ ¬ tMay σ x = 0) else decide (¬ σ.2 6 x = nI g ∧ ¬ tMay σ x = 0 ∧ ¬ σ.2 10 (σ.2 6 x).toNatClampNeg = nI x)
      have eT := T_reply_loop (σ := k_sA (k_sf σ 7 (nI G)) 14 (pSet (qRow σ) (σ.2 14) 0 G)) (G := G) (N := N) (g := g) rfl hG (by omega) n1 hN y (nI fl) off (fun x hx => by
        obtain ⟨-, ⟨o, ho, hoe⟩, -⟩ := ht x hx
        rw [T_isOffered (σ := k_sA (k_sf σ 7 (nI G)) 14 (pSet (qRow σ) (σ.2 14) 0 G)) (show x < 10 by omega) fl hfl (o := o) hoe (by omega) (by omega)]
        have : off x = (if fl = 0 then decide (o = g ∧ ¬ tMay σ x = 0) else decide (o ≠ g ∧ ¬ tMay σ x = 0 ∧ ¬ σ.2 10 o = nI x)) := by
          show (if fl = 0 then decide (σ.2 6 x = nI g ∧ ¬ tMay σ x = 0) else decide (¬ σ.2 6 x = nI g ∧ ¬ tMay σ x = 0 ∧ ¬ σ.2 10 (σ.2 6 x).toNatClampNeg = nI x)) = _
          rw [hoe, q_cl (by omega)]
          simp only [q_eq (show o < 2 ^ 31 by omega) (show g < 2 ^ 31 by omega), ne_eq]
        rw [this]
        rfl) N 0 k_F none (by omega) (q_kF (by omega)) (fun b hb => by cases hb)
      rw [show k_ng 9 = pEnc none from rfl, eT]
      have hw : ∀ j, j < G → j ≠ g → pSet (qRow σ) (σ.2 14) 0 G j = qRow σ j := fun j hj _ => pSet_in (Nat.zero_le j) hj
      have e2 : qAns ((k_sA (k_sf σ 7 (nI G)) 14 (pSet (qRow σ) (σ.2 14) 0 G)).2 14) g G (tTall (k_sA (k_sf σ 7 (nI G)) 14 (pSet (qRow σ) (σ.2 14) 0 G))) y (pBest off (qBt ((k_sA (k_sf σ 7 (nI G)) 14 (pSet (qRow σ) (σ.2 14) 0 G)).2 14) g G (tTall (k_sA (k_sf σ 7 (nI G)) 14 (pSet (qRow σ) (σ.2 14) 0 G)))) N 0 none) = qAns (qRow σ) g G (mTall τ) y (pBest off (qBt (qRow σ) g G (mTall τ)) N 0 none) := by
        show qAns (pSet (qRow σ) (σ.2 14) 0 G) g G (tTall σ) y (pBest off (qBt (pSet (qRow σ) (σ.2 14) 0 G) g G (tTall σ)) N 0 none) = _
        unfold qAns
        rw [qBt_congr hw, hTall]
        split
        · rfl
        · rw [qPl_congr hw]
      rw [e2]
      let τ1 : k_S := k_sA τ 14 (pSet (qRow σ) (τ.2 14) 0 G)
      have e0 : k_sf τ1 9 (pEnc none) = mS τ1 (τ1.2 14) (pEnc none) (τ1.1 10) (τ1.1 11) := by
        unfold mS
        rw [s_Aid]
        unfold k_sf k_up
        refine Prod.ext (funext fun j => ?_) rfl
        by_cases h1 : j = 11
        · simp [h1]
        · by_cases h2 : j = 10
          · simp [h2]
          · by_cases h3 : j = 9 <;> simp [h1, h2, h3]
      have hr0 : ∀ j, j < G → j ≠ g → τ1.2 14 j = qRow σ j := fun j hj _ => pSet_in (Nat.zero_le j) hj
      have fin : ∀ F : Option (Int32 × k_S), (∃ (r' : qA) (e' p' t' : Int32), F = some (qAns (qRow σ) g G (mTall τ) y (pBest off (qBt (qRow σ) g G (mTall τ)) N 0 none), mS τ1 r' e' p' t')) → qOk (some (qAns (qRow σ) g G (mTall τ) y (pBest off (qBt (qRow σ) g G (mTall τ)) N 0 none), k_sA (k_sf σ 7 (nI G)) 14 (pSet (qRow σ) (σ.2 14) 0 G))) F := by
        rintro F ⟨r', e', p', t', rfl⟩
        exact ⟨_, _, _, rfl, rfl, h.keep (kT.talls _) ((kM.tall _).tr (kM.mS (τ := τ1) r' e' p' t'))⟩
      by_cases hf : fl = 0
      · rw [if_pos hf]
        refine fin _ ?_
        show ∃ (r' : qA) (e' p' t' : Int32), fX7_answer_c34 k_F (k_sf τ1 9 (pEnc none)) (nI g) y (nI 0) = _
        rw [e0]
        refine M_answer_loop (τ := τ1) (w := qRow σ) g2 hG hg n2 hN (fun x hx => hH'.kindM hx) y off (fun x hx => ?_) N 0 k_F none _ _ _ _ (by omega) (q_kF (by omega)) (fun b hb => by cases hb) hr0 ⟨rfl, fun b hb => by cases hb⟩
        show (if fl = 0 then decide (σ.2 6 x = nI g ∧ ¬ tMay σ x = 0) else _) = true ↔ τ.2 4 x = nI g ∧ ¬ mMay τ x = 0
        rw [if_pos hf, decide_eq_true_iff, a6, hMay]
      · rw [if_neg hf]
        refine fin _ ?_
        show ∃ (r' : qA) (e' p' t' : Int32), fX7_borrowed_c34 k_F (k_sf τ1 9 (pEnc none)) (nI g) y (nI 0) = _
        rw [e0]
        refine M_borrowed_loop (τ := τ1) (w := qRow σ) g2 hG hg n2 hN (fun x hx => hH'.kindM hx) y off (fun x hx => ?_) N 0 k_F none _ _ _ _ (by omega) (q_kF (by omega)) (fun b hb => by cases hb) hr0 ⟨rfl, fun b hb => by cases hb⟩
        show (if fl = 0 then _ else decide (¬ σ.2 6 x = nI g ∧ ¬ tMay σ x = 0 ∧ ¬ σ.2 10 (σ.2 6 x).toNatClampNeg = nI x)) = true ↔ ¬ τ.2 4 x = nI g ∧ ¬ mMay τ x = 0 ∧ ¬ ∃ g, g < G ∧ τ.2 11 g = nI x
        rw [if_neg hf, decide_eq_true_iff, ← a6, ← hMay, ← a10]
        obtain ⟨-, ⟨o, ho, hoe⟩, -⟩ := ht x hx
        have : (¬ σ.2 10 (σ.2 6 x).toNatClampNeg = nI x) ↔ ¬ ∃ g, g < G ∧ σ.2 10 g = nI x := by
          rw [hoe, q_cl (by omega)]
          constructor
          · rintro q ⟨g', hg', hge⟩
            rcases hc g' hg' with q9 | ⟨x', hx', c1, c2⟩
            · rw [q9] at hge
              have : (k_ng 9 = nI x) = False := q_ngl (by decide) (by decide) (by omega)
              rw [this] at hge
              exact hge
            · rw [hge, nI_eq (by omega) (by omega)] at c1
              subst c1
              rw [hoe, nI_eq (by omega) (by omega)] at c2
              subst c2
              exact q hge
          · intro q q2
            exact q ⟨o, ho, q2⟩
        rw [this]
  · have hx' := q_out (by omega) hx
    rw [T_hasGuest_out g1 hx', M_isGuest_out g2 hx']
    refine ⟨k_ng 1, σ, τ, rfl, ?_, h⟩
    split <;> rfl
theorem pu_answer {σ τ : k_S} (h : RR σ τ) (x y : Int32) : qOk (fX6_answer σ x y) (fX7_answer τ x y) := by
  obtain ⟨r, σ', τ', e1, e2, e3⟩ := pu_reply h x y 0 (by decide)
  exact ⟨r, σ', τ', by unfold fX6_answer; rw [e1]; rfl, e2, e3⟩
theorem pu_borrowed {σ τ : k_S} (h : RR σ τ) (x y : Int32) : qOk (fX6_borrowed σ x y) (fX7_borrowed τ x y) := by
  obtain ⟨r, σ', τ', e1, e2, e3⟩ := pu_reply h x y 1 (by decide)
  exact ⟨r, σ', τ', by unfold fX6_borrowed; rw [e1]; rfl, e2, e3⟩
