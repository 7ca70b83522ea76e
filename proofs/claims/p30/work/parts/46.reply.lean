/-! ===== the law's turn: replies; guest after guest ===== -/
theorem z33 {α : Type} {o : Option α} : k_gd (nI 33) 34 o = o := q_gd (by decide) (by decide)
theorem z32 {α : Type} {o : Option α} : k_gd (nI 32) 34 o = o := q_gd (by decide) (by decide)
theorem z0 {α : Type} {o : Option α} : k_gd (nI 0) 34 o = o := q_gd (by decide) (by decide)
theorem z1 {α : Type} {o : Option α} : k_gd (nI 1) 34 o = o := q_gd (by decide) (by decide)
theorem y33 : Int32.toNatClampNeg (nI 33) = 33 := q_cl (by decide)
theorem y32 : Int32.toNatClampNeg (nI 32) = 32 := q_cl (by decide)
theorem y0 : Int32.toNatClampNeg (nI 0) = 0 := q_cl (by decide)
theorem y1 : Int32.toNatClampNeg (nI 1) = 1 := q_cl (by decide)
theorem pBest_no {off : Nat → Bool} {bt : Nat → Nat → Bool} {d x : Nat} {acc : Option Nat} (h : off x = false) : pBest off bt (d + 1) x acc = pBest off bt d (x + 1) acc := by
  show pBest off bt d (x + 1) (if off x then _ else _) = _
  rw [h]; rfl
theorem pBest_yes {off : Nat → Bool} {bt : Nat → Nat → Bool} {d x : Nat} {acc : Option Nat} (h : off x = true) : pBest off bt (d + 1) x acc = pBest off bt d (x + 1) (qNx bt acc x) := by
  show pBest off bt d (x + 1) (if off x then _ else _) = _
  rw [h]; rfl
theorem ac_step {A B : Option (Int32 × (k_S × k_S))} {w : qA} {g G N x : Nat} {tl : Nat → Int32} (hG : G ≤ 5) {acc : Option Nat} {T : Option (Int32 × Unit)} (hT : ∀ b, acc = some b → T = some (tl b, ())) (hA : qNx (qBt w g G tl) acc x = acc → PS A) (hB : qNx (qBt w g G tl) acc x = some x → PS B) : PS (if aP w g G tl acc < nI (qPl w g G tl x) then A else if nI (qPl w g G tl x) = aP w g G tl acc then k_oq T (fun r => if tl x < r then B else A) else B) := by
  have hp := qPl_le w g G tl x hG
  cases acc with
  | none =>
    show PS (if nI 9 < nI (qPl w g G tl x) then A else if nI (qPl w g G tl x) = nI 9 then _ else B)
    rw [if_neg (nI_nlt (by omega) (by omega)), if_neg (by simp (disch := omega) only [q_bn, q_ob, q_z0, q_z1, q_gd, q_cl, q_add, q_mul, q_lt, q_eq, q_eq0, q_lt0, q_0lt, q_ngl, q_ngr, q_ng0, q_ngz, q_ngn, q_ngp, q_nlt]; omega)]
    exact hB rfl
  | some b =>
    have hq := qPl_le w g G tl b hG
    rw [hT b rfl, q_oq]
    show PS (if nI (qPl w g G tl b) < nI (qPl w g G tl x) then A else if nI (qPl w g G tl x) = nI (qPl w g G tl b) then _ else B)
    have e : qNx (qBt w g G tl) (some b) x = if qBt w g G tl x b then some x else some b := rfl
    rw [e] at hA hB
    unfold qBt at hA hB
    by_cases c1 : qPl w g G tl x < qPl w g G tl b
    · rw [if_neg (nI_nlt (by omega) (by omega)), if_neg (by simp (disch := omega) only [q_bn, q_ob, q_z0, q_z1, q_gd, q_cl, q_add, q_mul, q_lt, q_eq, q_eq0, q_lt0, q_0lt, q_ngl, q_ngr, q_ng0, q_ngz, q_ngn, q_ngp, q_nlt]; omega)]
      rw [if_pos c1] at hB
      exact hB rfl
    · rw [if_neg c1] at hA hB
      by_cases c2 : qPl w g G tl x = qPl w g G tl b
      · rw [if_neg (nI_nlt (by omega) (by omega)), if_pos (by rw [c2])]
        rw [if_pos c2] at hA hB
        by_cases c3 : tl x < tl b
        · rw [if_pos c3]
          rw [decide_eq_true c3] at hB
          exact hB rfl
        · rw [if_neg c3]
          rw [decide_eq_false c3] at hA
          exact hA rfl
      · rw [if_pos (nI_lt (by omega) (by omega))]
        rw [if_neg c2] at hA
        exact hA rfl
theorem sg508 {Ls : Nat} {xs : Nat → Int32} {kh83 : k_S × k_S → Int32 → Option (Int32 × (k_S × k_S))} {kh319 : k_S × k_S → Int32 → Int32 → Int32 → Option (Int32 × (k_S × k_S))} {l6 l7 : Int32} {G N m K g : Nat} (hK : K ≤ 12) (hg : g < G) : ∀ (d x f : Nat) (s : k_S × k_S) (aO aL : Option Nat), x + d = N → d < f → LR s G N m K → (∀ j, j < 5 → j ≠ g → s.2.2 3 j = s.2.2 2 j) → (∀ b, aO = some b → b < N) → (∀ b, aL = some b → b < N) →
    (∀ s', LR s' G N m K → s'.1 = s.1 → PS (fL_law_c715 Ls xs kh83 kh319 s' l6 l7 (nI g) (pEnc (pBest (oO s.1 g) (qBt (qRow s.1) g G (tTall s.1)) d x aO)) (aP (qRow s.1) g G (tTall s.1) (pBest (oO s.1 g) (qBt (qRow s.1) g G (tTall s.1)) d x aO)) (pEnc (pBest (oL s.1 g) (qBt (qRow s.1) g G (tTall s.1)) d x aL)) (aP (qRow s.1) g G (tTall s.1) (pBest (oL s.1 g) (qBt (qRow s.1) g G (tTall s.1)) d x aL)))) →
    PS (fL_law_c508 Ls xs kh83 kh319 f s l6 l7 (nI g) (pEnc aO) (aP (qRow s.1) g G (tTall s.1) aO) (pEnc aL) (aP (qRow s.1) g G (tTall s.1) aL) (nI x)) := by
  intro d
  induction d with
  | zero =>
    intro x f s aO aL h1 h2 h h3 h4 h5 hc
    obtain ⟨f, rfl⟩ := q_fu 0 h2
    have hN := h.1.2.1.2.2.1
    rw [fL_law_c508_s, z1, y1, h.e1, if_neg (nI_nlt (by omega) (by omega))]
    exact hc s h rfl
  | succ d ih =>
    intro x f s aO aL h1 h2 h h3 h4 h5 hc
    obtain ⟨f, rfl⟩ := q_fu (d + 1) h2
    have hN := h.1.2.1.2.2.1
    have hG := h.1.2.1.2.1
    have hx : x < N := by omega
    rw [fL_law_c508_s, z1, y1, h.e1, if_pos (nI_lt hx (by omega)), HR.may h.1 h.2 hK hx, q_oq]
    rcases pMay_b (s.1.2 5) (s.1.1 5) x (s.1.2 8 x) (s.1.2 9 x) (s.1.1 6) with q | q
    · have hm : tMay s.1 x = nI 0 := q
      have eO : oO s.1 g x = false := decide_eq_false fun z => z.2 (by rw [hm]; rfl)
      have eL : oL s.1 g x = false := decide_eq_false fun z => z.2.1 (by rw [hm]; rfl)
      rw [hm, if_pos q_0i]
      unfold fL_law_c709
      rw [q_bn, q_add]
      refine ih (x + 1) f s aO aL (by omega) (by omega) h h3 h4 h5 (fun s' hs' he => ?_)
      have := hc s' hs' he
      rw [pBest_no eO, pBest_no eL] at this
      exact this
    · have hm : tMay s.1 x = nI 1 := q
      have hm0 : ¬ tMay s.1 x = 0 := by rw [hm]; exact q_n1
      rw [hm, if_neg q_n1, q_gd (by omega) (by decide), q_bn]
      have g2 : LR (k_sV s 3 (nI g) (nI x)) G N m K := h.sV3 _ _
      have r2 : ∀ j, (k_sV s 3 (nI g) (nI x)).2.2 3 j = if j = g then nI x else s.2.2 3 j := fun j => by
        show upd (s.2.2 3) (nI g).toNatClampNeg (nI x) j = _
        rw [q_cl (by omega)]
        by_cases e : j = g
        · rw [if_pos e, e, pk_us]
        · rw [if_neg e, pk_un e]
      have hx9 : pCh (hTl s.1 G K) (nI x) = tTall s.1 x := by
        unfold pCh
        rw [if_neg (by simp (disch := omega) only [q_bn, q_ob, q_z0, q_z1, q_gd, q_cl, q_add, q_mul, q_lt, q_eq, q_eq0, q_lt0, q_0lt, q_ngl, q_ngr, q_ng0, q_ngz, q_ngn, q_ngp, q_nlt]; exact not_false), q_cl (by omega), h.1.tl]
      have rw2 : ∀ j, j < G → j ≠ g → pCh (hTl s.1 G K) ((k_sV s 3 (nI g) (nI x)).2.2 3 (0 + j)) = qRow s.1 j := fun j hj hjg => by
        rw [Nat.zero_add, r2, if_neg hjg, h3 j (by omega) hjg, h.row hj]
      have hpl : fL_place ((k_sV s 3 (nI g) (nI x)).2.2 0) ((k_sV s 3 (nI g) (nI x)).2.2 1) ((k_sV s 3 (nI g) (nI x)).2.2 3) (nI K) (nI 0) (nI g) = some (nI (qPl (qRow s.1) g G (tTall s.1) x), ()) := by
        rw [HR.place (a := 0) g2.1 g2.2 hK (Nat.le_refl K) (by decide) (fun j hj => by
          rw [Nat.zero_add, r2]
          by_cases e : j = g
          · rw [if_pos e]; exact .inr ⟨x, hx, rfl⟩
          · rw [if_neg e, h3 j (by omega) e]; exact HR.okC h.1 h.2 (by omega)) hg]
        refine congrArg (fun z => some (nI z, ())) ?_
        show pPl (fun j => pCh (hTl s.1 G K) ((k_sV s 3 (nI g) (nI x)).2.2 3 (0 + j))) g (pCh (hTl s.1 G K) ((k_sV s 3 (nI g) (nI x)).2.2 3 (0 + g))) G 0 0 = pPl (qRow s.1) g (tTall s.1 x) G 0 0
        rw [show pCh (hTl s.1 G K) ((k_sV s 3 (nI g) (nI x)).2.2 3 (0 + g)) = tTall s.1 x by rw [Nat.zero_add, r2, if_pos rfl, hx9]]
        exact pPl_congr G 0 0 (fun j _ hj hjg => rw2 j (by omega) hjg)
      rw [z33, y33, show (k_sV s 3 (nI g) (nI x)).2.2 0 33 = nI K from g2.e33, hpl, q_oq, q_bn, z33, g2.tall hK hx, q_oq, q_bn, q_add, q_gd (by omega) (by decide), q_cl (show 12 + x < 2 ^ 31 by omega), (g2.2.2.1 x hx).2.1]
      rw [show tTall (k_sV s 3 (nI g) (nI x)).1 x = tTall s.1 x from rfl]
      have go : ∀ (bO bL : Option Nat), pBest (oO s.1 g) (qBt (qRow s.1) g G (tTall s.1)) (d + 1) x aO = pBest (oO s.1 g) (qBt (qRow s.1) g G (tTall s.1)) d (x + 1) bO → pBest (oL s.1 g) (qBt (qRow s.1) g G (tTall s.1)) (d + 1) x aL = pBest (oL s.1 g) (qBt (qRow s.1) g G (tTall s.1)) d (x + 1) bL → (bO = aO ∨ bO = some x) → (bL = aL ∨ bL = some x) → PS (fL_law_c709 Ls xs kh83 kh319 (fL_law_c508 Ls xs kh83 kh319 f) (k_sV s 3 (nI g) (nI x)) l6 l7 (nI g) (pEnc bO) (aP (qRow s.1) g G (tTall s.1) bO) (pEnc bL) (aP (qRow s.1) g G (tTall s.1) bL) (nI x)) := by
        intro bO bL e1 e2 e3 e4
        unfold fL_law_c709
        rw [q_bn, q_add]
        refine ih (x + 1) f (k_sV s 3 (nI g) (nI x)) bO bL (by omega) (by omega) g2 (fun j hj hjg => ?_) ?_ ?_ (fun s' hs' he => ?_)
        · rw [r2, if_neg hjg]; exact h3 j hj hjg
        · rcases e3 with rfl | rfl
          · exact h4
          · intro b hb; cases hb; exact hx
        · rcases e4 with rfl | rfl
          · exact h5
          · intro b hb; cases hb; exact hx
        · have := hc s' hs' he
          rw [e1, e2] at this
          exact this
      by_cases ho : s.1.2 6 x = nI g
      · have eO : oO s.1 g x = true := decide_eq_true ⟨ho, hm0⟩
        have eL : oL s.1 g x = false := decide_eq_false fun z => z.1 ho
        rw [if_pos (show (k_sV s 3 (nI g) (nI x)).1.2 6 x = nI g from ho), z33]
        refine ac_step (N := N) hG (fun b hb => ?_) (fun e => ?_) (fun e => ?_)
        · subst hb
          exact g2.tall hK (h4 b rfl)
        · refine go aO aL ?_ (pBest_no eL) (.inl rfl) (.inl rfl)
          rw [pBest_yes eO, e]
        · unfold fL_law_c610
          rw [q_bn, q_bn]
          refine go (some x) aL ?_ (pBest_no eL) (.inr rfl) (.inl rfl)
          rw [pBest_yes eO, e]
      · have eO : oO s.1 g x = false := decide_eq_false fun z => ho z.1
        rw [if_neg (show ¬ (k_sV s 3 (nI g) (nI x)).1.2 6 x = nI g from ho), q_bn, q_bn]
        rw [show fL_law_c627 Ls xs kh83 kh319 (fL_law_c508 Ls xs kh83 kh319 f) k_F (k_sV s 3 (nI g) (nI x)) l6 l7 (nI g) (pEnc aO) (aP (qRow s.1) g G (tTall s.1) aO) (pEnc aL) (aP (qRow s.1) g G (tTall s.1) aL) (nI x) (nI (qPl (qRow s.1) g G (tTall s.1) x)) (tTall s.1 x) (nI 0) (nI 0) = _ from sg627 g2 G 0 k_F false (by omega) (q_kF (by omega))]
        have han := g2.any hx
        unfold fL_law_c663
        cases hb : pAny ((k_sV s 3 (nI g) (nI x)).2.2 2) (nI x) G 0 false with
        | true =>
          have eL : oL s.1 g x = false := decide_eq_false fun z => z.2.2 (han.mp hb)
          rw [show bI true = nI 1 from rfl, if_neg q_n1]
          exact go aO aL (pBest_no eO) (pBest_no eL) (.inl rfl) (.inl rfl)
        | false =>
          have eL : oL s.1 g x = true := decide_eq_true ⟨ho, hm0, fun z => by rw [han.mpr z] at hb; cases hb⟩
          rw [show bI false = nI 0 from rfl, if_pos q_0i, z33, y33, show (k_sV s 3 (nI g) (nI x)).2.2 0 33 = nI K from g2.e33]
          refine ac_step (N := N) hG (fun b hb => ?_) (fun e => ?_) (fun e => ?_)
          · subst hb
            exact g2.tall hK (h5 b rfl)
          · refine go aO aL (pBest_no eO) ?_ (.inl rfl) (.inl rfl)
            rw [pBest_yes eL, e]
          · unfold fL_law_c701
            rw [q_bn, q_bn]
            refine go aO (some x) (pBest_no eO) ?_ (.inl rfl) (.inr rfl)
            rw [pBest_yes eL, e]
theorem sg436 {Ls : Nat} {xs : Nat → Int32} {kh83 : k_S × k_S → Int32 → Option (Int32 × (k_S × k_S))} {kh319 : k_S × k_S → Int32 → Int32 → Int32 → Option (Int32 × (k_S × k_S))} {l6 l7 : Int32} {G N m K g : Nat} {s : k_S × k_S} (hK : K ≤ 12) (h : LR s G N m K) (hg : g < G) (h3 : ∀ j, j < 5 → s.2.2 3 j = s.2.2 2 j) (hc : ∀ s', LR s' G N m K → PS (kh319 s' l6 l7 (nI (g + 1)))) : PS (fL_law_c436 Ls xs kh83 kh319 s l6 l7 (nI g) (nI (pNd (fun o => (qRow s.1 o).toNatClampNeg) g G 0 1))) := by
  have hG := h.1.2.1.2.1
  have h2 := h.tN
  have h4 := h2.tN
  have h5 := h4.tN
  have t0 : fX6_tonight s.1 (nI g) (nI 0) = some (s.1.2 10 g, tN s.1 G) := h.1.tonight hg (nI 0)
  have t1 : fX6_tonight (tN s.1 G) (nI g) (nI 1) = some (nI (qPlace G (qRow s.1) g), tN (tN s.1 G) G) := h2.1.tonight hg (nI 1)
  have t2 : fX6_tonight (tN (tN s.1 G) G) (nI g) (nI 2) = some (nI (pNd (fun o => (qRow s.1 o).toNatClampNeg) g G 0 1), tN (tN (tN s.1 G) G) G) := h4.1.tonight hg (nI 2)
  unfold fL_law_c436
  rw [t0, q_ob, q_bn, q_gd (by omega) (by decide), q_cl (by omega), if_pos (show s.1.2 10 g = s.2.2 2 g from (h.c hg).symm), t1, q_ob, q_bn, z33, y33]
  show PS (k_oq (fL_place (s.2.2 0) (s.2.2 1) (s.2.2 2) (s.2.2 0 33) (nI 0) (nI g)) _)
  rw [h.e33, h.place hK hg, q_oq, if_pos rfl, t2, q_ob, q_bn, if_pos rfl]
  unfold fL_law_c489
  simp only [q_bn]
  exact sg508 hK hg N 0 k_F (tN (tN (tN s.1 G) G) G, s.2) none none (by omega) (q_kF (by have := h.1.2.1.2.2.1; omega)) h5 (fun j hj _ => h3 j hj) (fun b hb => by cases hb) (fun b hb => by cases hb) (fun s' hs' he => by
    have := sg715 (Ls := Ls) (xs := xs) (kh83 := kh83) (kh319 := kh319) (l6 := l6) (l7 := l7) hs' hg hc
    rw [he] at this
    exact this)
theorem sg319 {Ls : Nat} {xs : Nat → Int32} {kh83 : k_S × k_S → Int32 → Option (Int32 × (k_S × k_S))} {l6 l7 : Int32} {G N m K : Nat} (hK : K ≤ 12) (hc : ∀ s', LR s' G N m K → PS (fL_law_c791 Ls xs kh83 s' l6 l7)) : ∀ (d g f : Nat) (s : k_S × k_S), g + d = G → d < f → LR s G N m K → PS (fL_law_c319 Ls xs kh83 f s l6 l7 (nI g)) := by
  intro d
  induction d with
  | zero =>
    intro g f s h1 h2 h
    obtain ⟨f, rfl⟩ := q_fu 0 h2
    have hG := h.1.2.1.2.1
    rw [fL_law_c319_s, z0, y0, h.e0, if_neg (nI_nlt (by omega) (by omega))]
    exact hc s h
  | succ d ih =>
    intro g f s h1 h2 h
    obtain ⟨f, rfl⟩ := q_fu (d + 1) h2
    have hG := h.1.2.1.2.1
    rw [fL_law_c319_s, z0, y0, h.e0, if_pos (nI_lt (by omega) (by omega)), q_bn]
    refine sg330 (fun s' hs' h3 => ?_) 5 0 k_F s (by omega) (q_kF (by omega)) h (fun j hj => by omega)
    unfold fL_law_c352
    rw [q_bn, q_bn, sg358 hK hs' (by omega) G 0 1 k_F (by omega) (q_kF (by omega)) (by omega) (by omega)]
    exact sg436 hK hs' (by omega) h3 (fun s2 hs2 => ih (g + 1) f s2 (by omega) (by omega) hs2)
