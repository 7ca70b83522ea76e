/-! ===== the law's turn: what each guest is told ===== -/
def PS (o : Option (Int32 × (k_S × k_S))) : Prop := ∃ s', o = some (1, s')
def tN (σ : k_S) (G : Nat) : k_S := k_sA (k_sf σ 7 (nI G)) 14 (pSet (qRow σ) (σ.2 14) 0 G)
theorem kTh.tN {σ : k_S} (G : Nat) : kTh σ (tN σ G) := kTh.talls _
theorem LR.tN {s : k_S × k_S} {G N m K : Nat} (h : LR s G N m K) : LR (tN s.1 G, s.2) G N m K := h.keep (kTh.tN G)
theorem LR.e0 {s : k_S × k_S} {G N m K : Nat} (h : LR s G N m K) : s.2.2 0 0 = nI G := h.2.1.1
theorem LR.e1 {s : k_S × k_S} {G N m K : Nat} (h : LR s G N m K) : s.2.2 0 1 = nI N := h.2.1.2.1
theorem LR.e32 {s : k_S × k_S} {G N m K : Nat} (h : LR s G N m K) : s.2.2 0 32 = nI m := h.2.1.2.2.1
theorem LR.e33 {s : k_S × k_S} {G N m K : Nat} (h : LR s G N m K) : s.2.2 0 33 = nI K := h.2.1.2.2.2
theorem LR.c {s : k_S × k_S} {G N m K g : Nat} (h : LR s G N m K) (hg : g < G) : s.2.2 2 g = s.1.2 10 g := by
  rw [h.2.2.2.2 g (by have := h.1.2.1.2.1; omega), if_pos hg]
theorem LR.row {s : k_S × k_S} {G N m K j : Nat} (h : LR s G N m K) (hj : j < G) : pCh (hTl s.1 G K) (s.2.2 2 j) = qRow s.1 j := by
  rw [h.c hj]
  unfold qRow
  rw [h.1.tl]
theorem LR.sV3 {s : k_S × k_S} {G N m K : Nat} (h : LR s G N m K) (i v : Int32) : LR (k_sV s 3 i v) G N m K := h.rows (s := s) (ρ' := k_sa s.2 3 i v) rfl rfl rfl
theorem LR.place {s : k_S × k_S} {G N m K g : Nat} (h : LR s G N m K) (hK : K ≤ 12) (hg : g < G) : fL_place (s.2.2 0) (s.2.2 1) (s.2.2 2) (nI K) (nI 0) (nI g) = some (nI (qPlace G (qRow s.1) g), ()) := by
  have hG := h.1.2.1.2.1
  rw [HR.place (a := 0) h.1 h.2 hK (Nat.le_refl K) (by decide) (fun j hj => HR.okC h.1 h.2 (by omega)) hg]
  rw [qPlace_congr (w := qRow s.1) hg (fun j hj => by rw [Nat.zero_add]; exact h.row hj)]
theorem LR.tall {s : k_S × k_S} {G N m K x : Nat} (h : LR s G N m K) (hK : K ≤ 12) (hx : x < N) : fL_tall (s.2.2 0) (s.2.2 1) (nI K) (nI x) = some (tTall s.1 x, ()) := by
  rw [HR.tall h.1 h.2 hK (Nat.le_refl K) hx, h.1.tl]
-- ---- each tale: how often, when, may it, how tall
theorem sg208 {Ls : Nat} {xs : Nat → Int32} {kh83 : k_S × k_S → Int32 → Option (Int32 × (k_S × k_S))} {l6 l7 : Int32} {G N m K : Nat} (hK : K ≤ 12) (hc : ∀ s', LR s' G N m K → PS (fL_law_c311 Ls xs kh83 s' l6 l7)) : ∀ (d x f : Nat) (s : k_S × k_S), x + d = N → d < f → LR s G N m K → PS (fL_law_c208 Ls xs kh83 f s l6 l7 (nI x)) := by
  intro d
  induction d with
  | zero =>
    intro x f s h1 h2 h
    obtain ⟨f, rfl⟩ := q_fu 0 h2
    have hN := h.1.2.1.2.2.1
    rw [fL_law_c208_s, q_gd (by decide) (by decide), q_cl (by decide), h.e1, if_neg (nI_nlt (by omega) (by omega))]
    exact hc s h
  | succ d ih =>
    intro x f s h1 h2 h
    obtain ⟨f, rfl⟩ := q_fu (d + 1) h2
    have hN := h.1.2.1.2.2.1
    have hx : x < N := by omega
    obtain ⟨o3, o4, o5, o6⟩ := h.1.ofTale hx
    have h89 := h.1.2.2.2.2.2.2
    rw [show s.1.2 8 = (hAll (s.1.2 11) G K 0 hZ).1 from congrArg Prod.fst h89] at o3
    rw [show s.1.2 9 = (hAll (s.1.2 11) G K 0 hZ).2 from congrArg Prod.snd h89] at o4
    rw [fL_law_c208_s, q_gd (by decide) (by decide), q_cl (by decide), h.e1, if_pos (nI_lt hx (by omega))]
    rw [o3, q_ob, q_bn, q_gd (by decide) (by decide), q_cl (by decide), h.e33, HR.times h.1 h.2 hK (Nat.le_refl K) hx, q_oq, if_pos rfl]
    rw [show ((s.1, s.2) : k_S × k_S).1 = s.1 from rfl, o4, q_ob, q_bn, q_gd (by decide) (by decide)]
    rw [show ((s.1, ((s.1, s.2) : k_S × k_S).2) : k_S × k_S).2.2 0 33 = nI K from h.e33, HR.last h.1 h.2 hK (Nat.le_refl K) hx, q_oq, if_pos rfl]
    rw [show (((s.1, ((s.1, s.2) : k_S × k_S).2) : k_S × k_S)).1 = s.1 from rfl, o5, q_ob, q_bn]
    show PS (k_oq (fL_may (s.2.2 0) (s.2.2 1) (nI x)) fun r12 => if r12 = 0 then fL_law_c278 Ls xs kh83 (fL_law_c208 Ls xs kh83 f) s l6 l7 (nI x) (tMay s.1 x) (nI 0) else fL_law_c278 Ls xs kh83 (fL_law_c208 Ls xs kh83 f) s l6 l7 (nI x) (tMay s.1 x) (nI 1))
    rw [HR.may h.1 h.2 hK hx, q_oq]
    have fin : ∀ t, PS (fL_law_c278 Ls xs kh83 (fL_law_c208 Ls xs kh83 f) s l6 l7 (nI x) t t) := fun t => by
      unfold fL_law_c278
      rw [if_pos rfl, o6, q_ob, q_bn, q_gd (by decide) (by decide), q_cl (by decide)]
      show PS (k_oq (fL_tall (s.2.2 0) (s.2.2 1) (s.2.2 0 33) (nI x)) fun r4 => if tTall s.1 x = r4 then k_bn (nI x + nI 1) fun v5 => fL_law_c208 Ls xs kh83 f s l6 l7 v5 else none)
      rw [h.e33, h.tall hK hx, q_oq, if_pos rfl, q_bn, q_add]
      exact ih (x + 1) f s (by omega) (by omega) h
    rcases pMay_b (s.1.2 5) (s.1.1 5) x (s.1.2 8 x) (s.1.2 9 x) (s.1.1 6) with q | q
    · rw [show tMay s.1 x = nI 0 from q, if_pos q_0i]; exact fin _
    · rw [show tMay s.1 x = nI 1 from q, if_neg q_n1]; exact fin _
-- ---- what a guest would need
theorem sg358 {Ls : Nat} {xs : Nat → Int32} {kh83 : k_S × k_S → Int32 → Option (Int32 × (k_S × k_S))} {kh319 : k_S × k_S → Int32 → Int32 → Int32 → Option (Int32 × (k_S × k_S))} {l6 l7 : Int32} {G N m K g : Nat} {s : k_S × k_S} (hK : K ≤ 12) (h : LR s G N m K) (hg : g < G) : ∀ (d k acc f : Nat), k + d = G → d < f → 1 ≤ acc → acc ≤ 10001 → fL_law_c358 Ls xs kh83 kh319 f s l6 l7 (nI g) (nI acc) (nI k) = fL_law_c436 Ls xs kh83 kh319 s l6 l7 (nI g) (nI (pNd (fun o => (qRow s.1 o).toNatClampNeg) g d k acc)) := by
  have hG := h.1.2.1.2.1
  have hN := h.1.2.1.2.2.1
  intro d
  induction d with
  | zero =>
    intro k acc f h1 h2 h3 h4
    obtain ⟨f, rfl⟩ := q_fu 0 h2
    rw [fL_law_c358_s, q_gd (by decide) (by decide), q_cl (by decide), h.e0, if_neg (nI_nlt (by omega) (by omega))]
    rfl
  | succ d ih =>
    intro k acc f h1 h2 h3 h4
    obtain ⟨f, rfl⟩ := q_fu (d + 1) h2
    have fin : ∀ its : Nat, its ≤ 10001 → fL_law_c412 Ls xs kh83 kh319 (fL_law_c358 Ls xs kh83 kh319 f) s l6 l7 (nI g) (nI acc) (nI k) (nI its) = fL_law_c436 Ls xs kh83 kh319 s l6 l7 (nI g) (nI (pNd (fun o => (qRow s.1 o).toNatClampNeg) g d (k + 1) (if acc < its then its else acc))) := fun its hi => by
      unfold fL_law_c412 fL_law_c428
      simp only [q_bn, q_add]
      by_cases c : acc < its
      · rw [if_pos (nI_lt c (by omega)), if_pos c]
        exact ih (k + 1) its f (by omega) (by omega) (by omega) hi
      · rw [if_neg (nI_nlt (by omega) (by omega)), if_neg c]
        exact ih (k + 1) acc f (by omega) (by omega) h3 h4
    rw [fL_law_c358_s, q_gd (by decide) (by decide), q_cl (by decide), h.e0, if_pos (nI_lt (by omega) (by omega))]
    unfold fL_law_c381 fL_law_c411 pNd
    by_cases hkg : k = g
    · rw [if_pos (by rw [hkg]), if_pos hkg, fin 0 (by omega), if_neg (by omega)]
    · rw [if_neg (by simp (disch := omega) only [q_bn, q_ob, q_z0, q_z1, q_gd, q_cl, q_add, q_mul, q_lt, q_eq, q_eq0, q_lt0, q_0lt, q_ngl, q_ngr, q_ng0, q_ngz, q_ngn, q_ngp, q_nlt]; exact hkg), if_neg hkg, q_gd (by omega) (by decide), q_cl (by omega), h.c (by omega)]
      rcases h.1.rowN (show k < G by omega) with ⟨q1, q2⟩ | ⟨q1, t, q2, q3, q4⟩
      · rw [q1, if_pos (by decide), fin 0 (by omega), if_neg (by omega), q2, q_cl (by decide)]
        rw [show (if k < g then if acc < 0 + 1 then 0 + 1 else acc else if acc < 0 then 0 else acc) = acc by
          repeat' split
          all_goals omega]
      · have hok := h.1.okC (show k < G by omega)
        rcases hok with q | ⟨x, hx, q⟩
        · exact absurd q q1
        have ht : tTall s.1 x = nI t := by
          rw [← q4]
          unfold qRow pCh
          rw [if_neg q1, q, q_cl (by omega)]
        rw [q4, q_cl (show t < 2 ^ 31 by omega), q, if_neg (by simp (disch := omega) only [q_bn, q_ob, q_z0, q_z1, q_gd, q_cl, q_add, q_mul, q_lt, q_eq, q_eq0, q_lt0, q_0lt, q_ngl, q_ngr, q_ng0, q_ngz, q_ngn, q_ngp, q_nlt]; exact not_false), q_gd (by decide) (by decide), q_cl (show 33 < 2 ^ 31 by decide), h.e33, q_gd (by omega) (by decide), h.tall hK hx, q_oq, ht, q_add, q_add, fin (t + 1) (by omega), fin (t + 0) (by omega)]
        by_cases c : k < g
        · rw [if_pos (nI_lt c (by omega)), if_pos c]
        · rw [if_neg (nI_nlt (by omega) (by omega)), if_neg c]
          rfl
theorem sg330 {Ls : Nat} {xs : Nat → Int32} {kh83 : k_S × k_S → Int32 → Option (Int32 × (k_S × k_S))} {kh319 : k_S × k_S → Int32 → Int32 → Int32 → Option (Int32 × (k_S × k_S))} {l6 l7 l9 : Int32} {G N m K : Nat} (hc : ∀ s', LR s' G N m K → (∀ j, j < 5 → s'.2.2 3 j = s'.2.2 2 j) → PS (fL_law_c352 Ls xs kh83 kh319 s' l6 l7 l9)) : ∀ (d k f : Nat) (s : k_S × k_S), k + d = 5 → d < f → LR s G N m K → (∀ j, j < k → s.2.2 3 j = s.2.2 2 j) → PS (fL_law_c330 Ls xs kh83 kh319 f s l6 l7 l9 (nI k)) := by
  intro d
  induction d with
  | zero =>
    intro k f s h1 h2 h h3
    obtain ⟨f, rfl⟩ := q_fu 0 h2
    rw [fL_law_c330_s, if_neg (nI_nlt (by omega) (by omega))]
    exact hc s h (fun j hj => h3 j (by omega))
  | succ d ih =>
    intro k f s h1 h2 h h3
    obtain ⟨f, rfl⟩ := q_fu (d + 1) h2
    rw [fL_law_c330_s, if_pos (nI_lt (by omega) (by omega)), q_gd (by omega) (by decide), q_gd (by omega) (by decide), q_bn, q_bn, q_add, q_cl (by omega)]
    refine ih (k + 1) f _ (by omega) (by omega) (h.sV3 _ _) (fun j hj => ?_)
    show upd (s.2.2 3) (nI k).toNatClampNeg (s.2.2 2 k) j = s.2.2 2 j
    rw [q_cl (by omega)]
    by_cases e : j = k
    · subst e; rw [pk_us]
    · rw [pk_un e]; exact h3 j (by omega)
-- ---- answers
def oO (σ : k_S) (g x : Nat) : Bool := decide (σ.2 6 x = nI g ∧ ¬ tMay σ x = 0)
def oL (σ : k_S) (g x : Nat) : Bool := decide (¬ σ.2 6 x = nI g ∧ ¬ tMay σ x = 0 ∧ ¬ σ.2 10 (σ.2 6 x).toNatClampNeg = nI x)
def aP (w : qA) (g G : Nat) (tl : Nat → Int32) : Option Nat → Int32
  | none => nI 9
  | some b => nI (qPl w g G tl b)
theorem qAns0 (w : qA) (g G : Nat) (tl : Nat → Int32) (res : Option Nat) : qAns w g G tl (nI 0) res = pEnc res := if_pos q_0i
theorem sg715 {Ls : Nat} {xs : Nat → Int32} {kh83 : k_S × k_S → Int32 → Option (Int32 × (k_S × k_S))} {kh319 : k_S × k_S → Int32 → Int32 → Int32 → Option (Int32 × (k_S × k_S))} {l6 l7 : Int32} {G N m K g : Nat} {s : k_S × k_S} (h : LR s G N m K) (hg : g < G) (hc : ∀ s', LR s' G N m K → PS (kh319 s' l6 l7 (nI (g + 1)))) : PS (fL_law_c715 Ls xs kh83 kh319 s l6 l7 (nI g) (pEnc (pBest (oO s.1 g) (qBt (qRow s.1) g G (tTall s.1)) N 0 none)) (aP (qRow s.1) g G (tTall s.1) (pBest (oO s.1 g) (qBt (qRow s.1) g G (tTall s.1)) N 0 none)) (pEnc (pBest (oL s.1 g) (qBt (qRow s.1) g G (tTall s.1)) N 0 none)) (aP (qRow s.1) g G (tTall s.1) (pBest (oL s.1 g) (qBt (qRow s.1) g G (tTall s.1)) N 0 none))) := by
  have hN := h.1.2.1.2.2.1
  have lt : ∀ off : Nat → Bool, ∀ b, pBest off (qBt (qRow s.1) g G (tTall s.1)) N 0 none = some b → b < N := fun off => pBest_lt N 0 none (by omega) (fun b hb => by cases hb)
  have ans : ∀ (σ : k_S) (y : Int32), HT σ G N m K → (y = nI 0 ∨ y = nI 1) → fX6_answer σ (nI g) y = some (qAns (qRow σ) g G (tTall σ) y (pBest (oO σ g) (qBt (qRow σ) g G (tTall σ)) N 0 none), tN σ G) := fun σ y hσ hy => T_answer _ _ _ (hσ.reply hg 0 (by decide) hy (oO σ g) (fun x _ => by rw [if_pos rfl]; rfl))
  have bor : ∀ (σ : k_S) (y : Int32), HT σ G N m K → (y = nI 0 ∨ y = nI 1) → fX6_borrowed σ (nI g) y = some (qAns (qRow σ) g G (tTall σ) y (pBest (oL σ g) (qBt (qRow σ) g G (tTall σ)) N 0 none), tN σ G) := fun σ y hσ hy => T_borrowed _ _ _ (hσ.reply hg 1 (by decide) hy (oL σ g) (fun x _ => by rw [if_neg (by decide)]; rfl))
  have a2 : ∀ (w : qA) (tl : Nat → Int32) (res : Option Nat), (∀ b, res = some b → b < N) → (if pEnc res < 0 then k_ng 9 else aP w g G tl res) = qAns w g G tl (nI 1) res := fun w tl res hr => by
    unfold qAns
    rw [if_neg q_n1]
    cases res with
    | none => rfl
    | some b =>
      have := hr b rfl
      rw [if_neg (show ¬ pEnc (some b) < 0 by show ¬ nI b < 0; simp (disch := omega) only [q_bn, q_ob, q_z0, q_z1, q_gd, q_cl, q_add, q_mul, q_lt, q_eq, q_eq0, q_lt0, q_0lt, q_ngl, q_ngr, q_ng0, q_ngz, q_ngn, q_ngp, q_nlt]; exact not_false)]
      rfl
  have h2 := h.tN
  have h3 := h2.tN
  have h4 := h3.tN
  have h5 := h4.tN
  have a1 : fX6_answer s.1 (nI g) (nI 0) = some (pEnc (pBest (oO s.1 g) (qBt (qRow s.1) g G (tTall s.1)) N 0 none), tN s.1 G) := by rw [ans s.1 (nI 0) h.1 (.inl rfl), qAns0]
  have a3 : fX6_answer (tN s.1 G) (nI g) (nI 1) = some (qAns (qRow s.1) g G (tTall s.1) (nI 1) (pBest (oO s.1 g) (qBt (qRow s.1) g G (tTall s.1)) N 0 none), tN (tN s.1 G) G) := ans (tN s.1 G) (nI 1) h2.1 (.inr rfl)
  have b1 : fX6_borrowed (tN (tN s.1 G) G) (nI g) (nI 0) = some (pEnc (pBest (oL s.1 g) (qBt (qRow s.1) g G (tTall s.1)) N 0 none), tN (tN (tN s.1 G) G) G) := by
    rw [bor _ (nI 0) h3.1 (.inl rfl), qAns0]
    rfl
  have b3 : fX6_borrowed (tN (tN (tN s.1 G) G) G) (nI g) (nI 1) = some (qAns (qRow s.1) g G (tTall s.1) (nI 1) (pBest (oL s.1 g) (qBt (qRow s.1) g G (tTall s.1)) N 0 none), tN (tN (tN (tN s.1 G) G) G) G) := bor (tN (tN (tN s.1 G) G) G) (nI 1) h4.1 (.inr rfl)
  unfold fL_law_c715
  rw [a1, q_ob, q_bn, if_pos rfl, a3, q_ob, q_bn]
  have fin : ∀ t1, t1 = qAns (qRow s.1) g G (tTall s.1) (nI 1) (pBest (oO s.1 g) (qBt (qRow s.1) g G (tTall s.1)) N 0 none) → PS (fL_law_c746 Ls xs kh83 kh319 (tN (tN s.1 G) G, s.2) l6 l7 (nI g) (pEnc (pBest (oL s.1 g) (qBt (qRow s.1) g G (tTall s.1)) N 0 none)) (aP (qRow s.1) g G (tTall s.1) (pBest (oL s.1 g) (qBt (qRow s.1) g G (tTall s.1)) N 0 none)) (qAns (qRow s.1) g G (tTall s.1) (nI 1) (pBest (oO s.1 g) (qBt (qRow s.1) g G (tTall s.1)) N 0 none)) t1) := by
    rintro _ rfl
    unfold fL_law_c746
    rw [if_pos rfl, b1, q_ob, q_bn, if_pos rfl, b3, q_ob, q_bn]
    show PS (if pEnc (pBest (oL s.1 g) (qBt (qRow s.1) g G (tTall s.1)) N 0 none) < 0 then _ else _)
    have fin2 : ∀ t1, t1 = qAns (qRow s.1) g G (tTall s.1) (nI 1) (pBest (oL s.1 g) (qBt (qRow s.1) g G (tTall s.1)) N 0 none) → PS (fL_law_c780 Ls xs kh83 kh319 (tN (tN (tN (tN s.1 G) G) G) G, s.2) l6 l7 (nI g) (qAns (qRow s.1) g G (tTall s.1) (nI 1) (pBest (oL s.1 g) (qBt (qRow s.1) g G (tTall s.1)) N 0 none)) t1) := by
      rintro _ rfl
      unfold fL_law_c780
      rw [if_pos rfl, q_bn, q_add]
      exact hc _ h5
    have := a2 (qRow s.1) (tTall s.1) _ (lt (oL s.1 g))
    split
    · rename_i c
      rw [if_pos c] at this
      exact fin2 _ this
    · rename_i c
      rw [if_neg c] at this
      exact fin2 _ this
  have := a2 (qRow s.1) (tTall s.1) _ (lt (oO s.1 g))
  split
  · rename_i c
    rw [if_pos c] at this
    exact fin _ this
  · rename_i c
    rw [if_neg c] at this
    exact fin _ this
def pAny (c : qA) (v : Int32) : Nat → Nat → Bool → Bool
  | 0, _, a => a
  | d + 1, k, a => pAny c v d (k + 1) (a || decide (c k = v))
theorem pAny_iff {c : qA} {v : Int32} : ∀ (d k : Nat) (a : Bool), pAny c v d k a = true ↔ a = true ∨ ∃ j, k ≤ j ∧ j < k + d ∧ c j = v
  | 0, k, a => by
    unfold pAny
    constructor
    · exact .inl
    · rintro (q | ⟨j, h1, h2, -⟩)
      · exact q
      · omega
  | d + 1, k, a => by
    unfold pAny
    rw [pAny_iff d (k + 1)]
    simp only [Bool.or_eq_true, decide_eq_true_eq]
    constructor
    · rintro ((q | q) | ⟨j, h1, h2, h3⟩)
      · exact .inl q
      · exact .inr ⟨k, Nat.le_refl k, by omega, q⟩
      · exact .inr ⟨j, by omega, by omega, h3⟩
    · rintro (q | ⟨j, h1, h2, h3⟩)
      · exact .inl (.inl q)
      · by_cases e : j = k
        · subst e; exact .inl (.inr h3)
        · exact .inr ⟨j, by omega, by omega, h3⟩
theorem sg627 {Ls : Nat} {xs : Nat → Int32} {kh83 : k_S × k_S → Int32 → Option (Int32 × (k_S × k_S))} {kh319 : k_S × k_S → Int32 → Int32 → Int32 → Option (Int32 × (k_S × k_S))} {kh508 : k_S × k_S → Int32 → Int32 → Int32 → Int32 → Int32 → Int32 → Int32 → Int32 → Option (Int32 × (k_S × k_S))} {l6 l7 l9 l11 l12 l13 l14 l15 l16 l17 : Int32} {G N m K : Nat} {s : k_S × k_S} (h : LR s G N m K) : ∀ (d k f : Nat) (a : Bool), k + d = G → d < f → fL_law_c627 Ls xs kh83 kh319 kh508 f s l6 l7 l9 l11 l12 l13 l14 l15 l16 l17 (bI a) (nI k) = fL_law_c663 Ls xs kh83 kh319 kh508 s l6 l7 l9 l11 l12 l13 l14 l15 l16 l17 (bI (pAny (s.2.2 2) l15 d k a)) := by
  have hG := h.1.2.1.2.1
  intro d
  induction d with
  | zero =>
    intro k f a h1 h2
    obtain ⟨f, rfl⟩ := q_fu 0 h2
    rw [fL_law_c627_s, q_gd (by decide) (by decide), q_cl (by decide), h.e0, if_neg (nI_nlt (by omega) (by omega))]
    rfl
  | succ d ih =>
    intro k f a h1 h2
    obtain ⟨f, rfl⟩ := q_fu (d + 1) h2
    rw [fL_law_c627_s, q_gd (by decide) (by decide), q_cl (by decide), h.e0, if_pos (nI_lt (by omega) (by omega))]
    unfold fL_law_c650 fL_law_c655 pAny
    simp only [q_bn, q_add]
    cases a with
    | true =>
      rw [show bI true = nI 1 from rfl, if_neg q_n1]
      exact ih (k + 1) f true (by omega) (by omega)
    | false =>
      rw [show bI false = nI 0 from rfl, if_pos q_0i, q_gd (by omega) (by decide), q_cl (by omega)]
      by_cases c : s.2.2 2 k = l15
      · rw [if_pos c, decide_eq_true c]
        exact ih (k + 1) f true (by omega) (by omega)
      · rw [if_neg c, decide_eq_false c]
        exact ih (k + 1) f false (by omega) (by omega)
theorem LR.any {s : k_S × k_S} {G N m K x : Nat} (h : LR s G N m K) (hx : x < N) : pAny (s.2.2 2) (nI x) G 0 false = true ↔ s.1.2 10 (s.1.2 6 x).toNatClampNeg = nI x := by
  have hG := h.1.2.1.2.1
  have hN := h.1.2.1.2.2.1
  obtain ⟨-, ⟨o, ho, hoe⟩, -⟩ := h.1.2.2.1 x hx
  rw [pAny_iff, hoe, q_cl (by omega)]
  constructor
  · rintro (q | ⟨j, -, hj, hje⟩)
    · cases q
    · rw [h.c (by omega)] at hje
      rcases h.1.2.2.2.1 j (by omega) with q9 | ⟨x', hx', c1, c2⟩
      · rw [q9] at hje
        have : (k_ng 9 = nI x) = False := q_ngl (by decide) (by decide) (by omega)
        rw [this] at hje
        exact hje.elim
      · rw [hje, nI_eq (by omega) (by omega)] at c1
        subst c1
        rw [hoe, nI_eq (by omega) (by omega)] at c2
        subst c2
        exact hje
  · intro q
    exact .inr ⟨o, Nat.zero_le o, by omega, by rw [h.c ho]; exact q⟩
