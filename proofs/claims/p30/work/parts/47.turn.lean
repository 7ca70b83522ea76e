/-! ===== the law's turn: a bishop, the night, nights undone, how all lay ===== -/
theorem sg827 {Ls : Nat} {xs : Nat → Int32} {kh83 : k_S × k_S → Int32 → Option (Int32 × (k_S × k_S))} {l6 l7 : Int32} {G N m K v : Nat} {s : k_S × k_S} (hK : K ≤ 12) (h : LR s G N m K) : ∀ (d k acc f : Nat), k + d = G → d < f → fL_law_c827 Ls xs kh83 f s l6 l7 (nI v) (nI acc) (nI k) = fL_law_c878 Ls xs kh83 s l6 l7 (nI v) (nI (pBi (qRow s.1) (nI v) d k acc)) := by
  have hG := h.1.2.1.2.1
  have hN := h.1.2.1.2.2.1
  intro d
  induction d with
  | zero =>
    intro k acc f h1 h2
    obtain ⟨f, rfl⟩ := q_fu 0 h2
    rw [fL_law_c827_s, z0, y0, h.e0, if_neg (nI_nlt (by omega) (by omega))]
    rfl
  | succ d ih =>
    intro k acc f h1 h2
    obtain ⟨f, rfl⟩ := q_fu (d + 1) h2
    rw [fL_law_c827_s, z0, y0, h.e0, if_pos (nI_lt (by omega) (by omega)), q_gd (by omega) (by decide), q_cl (show k < 2 ^ 31 by omega), h.c (by omega)]
    unfold fL_law_c868 fL_law_c869 pBi
    simp only [q_bn, q_add, Nat.add_zero]
    rcases h.1.rowN (show k < G by omega) with ⟨q1, q2⟩ | ⟨q1, t, q2, q3, q4⟩
    · rw [q1, if_pos (by decide), q2, if_neg (by decide)]
      exact ih (k + 1) acc f (by omega) (by omega)
    · rcases h.1.okC (show k < G by omega) with q | ⟨x, hx, q⟩
      · exact absurd q q1
      have ht : tTall s.1 x = nI t := by
        rw [← q4]
        unfold qRow pCh
        rw [if_neg q1, q, q_cl (by omega)]
      rw [q4, if_pos (show 0 < nI t by simp (disch := omega) only [q_bn, q_ob, q_z0, q_z1, q_gd, q_cl, q_add, q_mul, q_lt, q_eq, q_eq0, q_lt0, q_0lt, q_ngl, q_ngr, q_ng0, q_ngz, q_ngn, q_ngp, q_nlt]; omega), q, if_neg (show ¬ nI x < 0 by simp (disch := omega) only [q_bn, q_ob, q_z0, q_z1, q_gd, q_cl, q_add, q_mul, q_lt, q_eq, q_eq0, q_lt0, q_0lt, q_ngl, q_ngr, q_ng0, q_ngz, q_ngn, q_ngp, q_nlt]; exact not_false), z33, y33, h.e33, q_gd (by omega) (by decide), h.tall hK hx, q_oq, ht]
      by_cases c : nI t < nI v
      · rw [if_pos c, if_pos c]
        exact ih (k + 1) acc f (by omega) (by omega)
      · rw [if_neg c, if_neg c]
        exact ih (k + 1) (acc + 1) f (by omega) (by omega)
theorem sg897 {Ls : Nat} {xs : Nat → Int32} {kh83 : k_S × k_S → Int32 → Option (Int32 × (k_S × k_S))} {l6 l7 : Int32} {G N m K : Nat} {s : k_S × k_S} (hK : K ≤ 12) (h : LR s G N m K) : ∀ (d k f : Nat) (l11 : Int32), k + d = G → d < f → fL_law_c897 Ls xs kh83 f s l6 l7 l11 (nI k) = fL_law_c932 Ls xs kh83 s l6 l7 (pBd (fun g => qPlace G (qRow s.1) g) d k l11) := by
  have hG := h.1.2.1.2.1
  intro d
  induction d with
  | zero =>
    intro k f l11 h1 h2
    obtain ⟨f, rfl⟩ := q_fu 0 h2
    rw [fL_law_c897_s, z0, y0, h.e0, if_neg (nI_nlt (by omega) (by omega))]
    rfl
  | succ d ih =>
    intro k f l11 h1 h2
    obtain ⟨f, rfl⟩ := q_fu (d + 1) h2
    rw [fL_law_c897_s, z0, y0, h.e0, if_pos (nI_lt (by omega) (by omega)), z33, y33, h.e33, h.place hK (show k < G by omega), q_oq]
    unfold fL_law_c926 pBd
    simp only [q_bn, q_add]
    have hp := pPl_le (qRow s.1) k (qRow s.1 k) G 0 0
    by_cases c : qPlace G (qRow s.1) k = 0
    · rw [c, if_pos q_0i, if_pos rfl]
      exact ih (k + 1) f (nI k) (by omega) (by omega)
    · rw [if_neg (show ¬ nI (qPlace G (qRow s.1) k) = 0 by
        rw [q_eq0 (show qPlace G (qRow s.1) k < 2 ^ 31 by unfold qPlace; omega)]; exact c), if_neg c]
      exact ih (k + 1) f l11 (by omega) (by omega)
-- ---- the night's rows
def MB (σ : k_S) (G : Nat) : qA := fun j => if j % 5 < G then σ.2 11 j else k_ng 9
def MR (s : k_S × k_S) (G N m K k : Nat) : Prop := HT s.1 G N m (K + 1) ∧ (s.2.2 0 0 = nI G ∧ s.2.2 0 1 = nI N ∧ s.2.2 0 32 = nI m ∧ s.2.2 0 33 = nI K) ∧ (∀ x, x < N → s.2.2 0 (2 + x) = s.1.2 5 x ∧ s.2.2 0 (12 + x) = s.1.2 6 x ∧ s.2.2 0 (22 + x) = s.1.2 7 x) ∧ (∀ j, j < 5 * K + k → s.2.2 1 j = MB s.1 G j) ∧ (∀ j, j < 5 → s.2.2 2 j = if j < k then k_ng 9 else MB s.1 G (5 * K + j)) ∧ ∀ g, g < 5 → s.1.2 10 g = k_ng 9
theorem MR.start {s : k_S × k_S} {τ : k_S} {G N m K : Nat} (h : LR s G N m K) (hT : HT τ G N m (K + 1)) (hk : kTk s.1 τ) (ha : ∀ g, g < G → τ.2 11 (5 * K + g) = s.1.2 10 g) (hb : ∀ j, j < 5 * K → τ.2 11 j = s.1.2 11 j) (hz : ∀ g, g < 5 → τ.2 10 g = k_ng 9) : MR (τ, s.2) G N m K 0 := by
  obtain ⟨k5, k6, k7⟩ := hk
  refine ⟨hT, h.2.1, fun x hx => ?_, fun j hj => ?_, fun j hj => ?_, hz⟩
  · show s.2.2 0 (2 + x) = τ.2 5 x ∧ s.2.2 0 (12 + x) = τ.2 6 x ∧ s.2.2 0 (22 + x) = τ.2 7 x
    rw [k5, k6, k7]
    exact h.2.2.1 x hx
  · have e : 5 * (j / 5) + j % 5 = j := by omega
    have := h.2.2.2.1 (j / 5) (by omega) (j % 5) (by omega)
    rw [e] at this
    show s.2.2 1 j = if j % 5 < G then τ.2 11 j else k_ng 9
    rw [this, hb j (by omega)]
  · rw [if_neg (by omega)]
    show s.2.2 2 j = if (5 * K + j) % 5 < G then τ.2 11 (5 * K + j) else k_ng 9
    rw [h.2.2.2.2 j hj, show (5 * K + j) % 5 = j by omega]
    by_cases c : j < G
    · rw [if_pos c, if_pos c, ha j c]
    · rw [if_neg c, if_neg c]
theorem MR.step {s : k_S × k_S} {G N m K k : Nat} (h : MR s G N m K k) (hk : k < 5) (hK : K ≤ 11) : MR (k_sV (k_sV s 1 (nI (5 * K + k)) (s.2.2 2 k)) 2 (nI k) (k_ng 9)) G N m K (k + 1) := by
  obtain ⟨h1, h2, h3, h4, h5, h6⟩ := h
  refine ⟨h1, h2, h3, fun j hj => ?_, fun j hj => ?_, h6⟩
  · show upd (s.2.2 1) (nI (5 * K + k)).toNatClampNeg (s.2.2 2 k) j = MB s.1 G j
    rw [q_cl (by omega)]
    by_cases e : j = 5 * K + k
    · rw [e, pk_us, h5 k hk, if_neg (by omega)]
    · rw [pk_un e]; exact h4 j (by omega)
  · show upd (s.2.2 2) (nI k).toNatClampNeg (k_ng 9) j = if j < k + 1 then k_ng 9 else MB s.1 G (5 * K + j)
    rw [q_cl (by omega)]
    by_cases e : j = k
    · rw [e, pk_us, if_pos (by omega)]
    · rw [pk_un e, h5 j hj]
      by_cases c : j < k
      · rw [if_pos c, if_pos (by omega)]
      · rw [if_neg c, if_neg (by omega)]
theorem MR.done {s : k_S × k_S} {G N m K : Nat} (h : MR s G N m K 5) (v : Int32) (hv : v = nI (K + 1)) : LR (k_sV s 0 (nI 33) v) G N m (K + 1) := by
  obtain ⟨h1, ⟨a0, a1, a2, a3⟩, h3, h4, h5, h6⟩ := h
  have hG := h1.2.1.2.1
  have hN := h1.2.1.2.2.1
  have g0 : ∀ j, (k_sV s 0 (nI 33) v).2.2 0 j = if j = 33 then v else s.2.2 0 j := fun j => by
    show upd (s.2.2 0) (nI 33).toNatClampNeg v j = _
    rw [y33]
    by_cases e : j = 33
    · rw [if_pos e, e, pk_us]
    · rw [if_neg e, pk_un e]
  refine ⟨h1, ⟨by rw [g0, if_neg (by decide)]; exact a0, by rw [g0, if_neg (by decide)]; exact a1, by rw [g0, if_neg (by decide)]; exact a2, by rw [g0, if_pos rfl]; exact hv⟩, fun x hx => ?_, fun n hn g hg => ?_, fun g hg => ?_⟩
  · rw [g0, g0, g0, if_neg (by omega), if_neg (by omega), if_neg (by omega)]
    exact h3 x hx
  · show s.2.2 1 (5 * n + g) = if g < G then s.1.2 11 (5 * n + g) else k_ng 9
    rw [h4 _ (by omega)]
    unfold MB
    rw [show (5 * n + g) % 5 = g by omega]
  · show s.2.2 2 g = if g < G then s.1.2 10 g else k_ng 9
    rw [h5 g hg, if_pos (by omega), h6 g hg]
    split <;> rfl
theorem sg946 {Ls : Nat} {xs : Nat → Int32} {kh83 : k_S × k_S → Int32 → Option (Int32 × (k_S × k_S))} {l6 l7 : Int32} {G N m K : Nat} (hK : K ≤ 11) (hc : ∀ s', MR s' G N m K 5 → PS (fL_law_c981 Ls xs kh83 s' l6 l7)) : ∀ (d k f : Nat) (s : k_S × k_S), k + d = 5 → d < f → MR s G N m K k → PS (fL_law_c946 Ls xs kh83 f s l6 l7 (nI k)) := by
  intro d
  induction d with
  | zero =>
    intro k f s h1 h2 h
    obtain ⟨f, rfl⟩ := q_fu 0 h2
    rw [fL_law_c946_s, if_neg (nI_nlt (by omega) (by omega))]
    exact hc s (by rw [show k = 5 by omega] at h; exact h)
  | succ d ih =>
    intro k f s h1 h2 h
    obtain ⟨f, rfl⟩ := q_fu (d + 1) h2
    rw [fL_law_c946_s, if_pos (nI_lt (by omega) (by omega)), z33, y33, h.2.1.2.2.2, q_gd (show k < 5 by omega) (by decide), q_mul, q_add, q_gd (show 5 * K + k < 60 by omega) (by decide), q_bn, q_gd (show k < 5 by omega) (by decide), q_bn, q_bn, q_add, q_cl (show k < 2 ^ 31 by omega)]
    exact ih (k + 1) f _ (by omega) (by omega) (h.step (by omega) hK)
-- ---- how all lay
theorem pPl_lt (w : qA) (g : Nat) (t : Int32) : ∀ (d o acc : Nat), o ≤ g → g < o + d → pPl w g t d o acc + 1 ≤ acc + d
  | 0, o, acc, h1, h2 => by omega
  | d + 1, o, acc, h1, h2 => by
    unfold pPl
    by_cases e : o = g
    · rw [if_pos e]
      have := pPl_le w g t d (o + 1) acc
      omega
    · rw [if_neg e]
      have := pPl_lt w g t d (o + 1) (if t < w o then acc + 1 else if w o = t then (if o < g then acc + 1 else acc) else acc) (by omega) (by omega)
      have hb : (if t < w o then acc + 1 else if w o = t then (if o < g then acc + 1 else acc) else acc) ≤ acc + 1 := by
        repeat' split
        all_goals omega
      omega
theorem qPlace_lt {G : Nat} {v : qA} {g : Nat} (hg : g < G) : qPlace G v g < G := by
  have := pPl_lt v g (v g) G 0 0 (Nat.zero_le g) (by omega)
  unfold qPlace
  omega
theorem pNa_last {p : Nat → Int32} {x : Int32} : ∀ (d n acc : Nat), pNa p x (d + 1) n acc = if p (n + d) = x then pNa p x d n acc + 1 else pNa p x d n acc
  | 0, n, acc => rfl
  | d + 1, n, acc => by
    show pNa p x (d + 1) (n + 1) (if p n = x then acc + 1 else acc) = _
    rw [pNa_last d (n + 1), show n + 1 + d = n + (d + 1) by omega]
    rfl
theorem pNa_le {p : Nat → Int32} {x : Int32} : ∀ (d n acc : Nat), pNa p x d n acc ≤ acc + d
  | 0, n, acc => Nat.le_refl acc
  | d + 1, n, acc => by
    unfold pNa
    have := pNa_le (p := p) (x := x) d (n + 1) (if p n = x then acc + 1 else acc)
    have hb : (if p n = x then acc + 1 else acc) ≤ acc + 1 := by
      split <;> omega
    omega
def hadI (s : k_S × k_S) (G n g : Nat) : Prop := ∀ k, k < G → ∀ p, p < 5 → s.2.2 4 (5 * k + p) = nI (pNa (fun i => s.1.2 12 (5 * i + k)) (nI p) (if k < g then n + 1 else n) 0 0)
theorem LR.sV4 {s : k_S × k_S} {G N m K : Nat} (h : LR s G N m K) (i v : Int32) : LR (k_sV s 4 i v) G N m K := h.rows (s := s) (ρ' := k_sa s.2 4 i v) rfl rfl rfl
theorem sg1075 {Ls : Nat} {xs : Nat → Int32} {kh83 : k_S × k_S → Int32 → Option (Int32 × (k_S × k_S))} {kh1063 : k_S × k_S → Int32 → Int32 → Option (Int32 × (k_S × k_S))} {l6 : Int32} {G N m K n : Nat} (hK : K ≤ 12) (hn : n < K) (hc : ∀ s', LR s' G N m K → hadI s' G (n + 1) 0 → PS (kh1063 s' l6 (nI (n + 1)))) : ∀ (d g f : Nat) (s : k_S × k_S), g + d = G → d < f → LR s G N m K → hadI s G n g → PS (fL_law_c1075 Ls xs kh83 kh1063 f s l6 (nI n) (nI g)) := by
  intro d
  induction d with
  | zero =>
    intro g f s h1 h2 h h3
    obtain ⟨f, rfl⟩ := q_fu 0 h2
    have hG := h.1.2.1.2.1
    rw [fL_law_c1075_s, z0, y0, h.e0, if_neg (nI_nlt (by omega) (by omega))]
    unfold fL_law_c1190
    rw [q_bn, q_add]
    refine hc s h (fun k hk p hp => ?_)
    rw [h3 k hk p hp, if_pos (by omega), if_neg (by omega)]
  | succ d ih =>
    intro g f s h1 h2 h h3
    obtain ⟨f, rfl⟩ := q_fu (d + 1) h2
    have hG := h.1.2.1.2.1
    have hN := h.1.2.1.2.2.1
    have hg : g < G := by omega
    obtain ⟨b1, b2, b3⟩ := h.1.2.2.2.2.1 n hn g hg
    have hb : ∀ j, j < G → s.2.2 1 (5 * n + j) = s.1.2 11 (5 * n + j) := fun j hj => by
      rw [h.2.2.2.1 n hn j (by omega), if_pos hj]
    have ep : qPlace G (fun j => pCh (hTl s.1 G n) (s.2.2 1 (5 * n + j))) g = qPlace G (fun o => s.1.2 13 (5 * n + o)) g := qPlace_congr hg (fun j hj => by
      rw [hb j hj, (h.1.2.2.2.2.1 n hn j hj).2.1])
    have hp : qPlace G (fun o => s.1.2 13 (5 * n + o)) g < G := qPlace_lt hg
    rw [fL_law_c1075_s, z0, y0, h.e0, if_pos (nI_lt hg (by omega)), q_mul, HR.place_ab (a := 5 * n) h.1 h.2 hK (by omega) (by omega) (fun j hj => by rw [hb j hj]; exact h.1.okN hn hj) hg, q_oq, q_bn, ep]
    generalize hpe : qPlace G (fun o => s.1.2 13 (5 * n + o)) g = p at b3 hp
    rw [q_mul, q_add, q_gd (show 5 * g + p < 25 by omega) (by decide), q_gd (show 5 * g + p < 25 by omega) (by decide), q_bn, q_add, q_gd (show 5 * n + g < 60 by omega) (by decide), q_bn, q_cl (show 5 * g + p < 2 ^ 31 by omega), q_cl (show 5 * n + g < 2 ^ 31 by omega)]
    have g2 : LR (k_sV s 4 (nI (5 * g + p)) (s.2.2 4 (5 * g + p) + nI 1)) G N m K := h.sV4 _ _
    have i2 : hadI (k_sV s 4 (nI (5 * g + p)) (s.2.2 4 (5 * g + p) + nI 1)) G n (g + 1) := by
      intro k hk p' hp'
      show upd (s.2.2 4) (nI (5 * g + p)).toNatClampNeg (s.2.2 4 (5 * g + p) + nI 1) (5 * k + p') = nI (pNa (fun i => s.1.2 12 (5 * i + k)) (nI p') (if k < g + 1 then n + 1 else n) 0 0)
      rw [q_cl (by omega)]
      by_cases e : 5 * k + p' = 5 * g + p
      · have ek : k = g := by omega
        have ep' : p' = p := by omega
        subst ek ep'
        rw [pk_us, h3 k hk p' hp', if_neg (by omega), if_pos (by omega), pNa_last, Nat.zero_add, if_pos b3, q_add]
      · rw [pk_un e, h3 k hk p' hp']
        by_cases ek : k = g
        · subst ek
          rw [if_neg (by omega), if_pos (by omega), pNa_last, Nat.zero_add, if_neg (by rw [b3, q_eq (by omega) (by omega)]; omega)]
        · by_cases c : k < g
          · rw [if_pos c, if_pos (by omega)]
          · rw [if_neg c, if_neg (by omega)]
    have e0 : (k_sV s 4 (nI (5 * g + p)) (s.2.2 4 (5 * g + p) + nI 1)).1 = s.1 := rfl
    have e2 : (k_sV s 4 (nI (5 * g + p)) (s.2.2 4 (5 * g + p) + nI 1)).2.2 1 (5 * n + g) = s.1.2 11 (5 * n + g) := hb g hg
    generalize k_sV s 4 (nI (5 * g + p)) (s.2.2 4 (5 * g + p) + nI 1) = s2 at g2 i2 e0 e2 ⊢
    have o0 : fX6_ofNight s2.1 (nI n) (nI g) (nI 0) = some (s.1.2 11 (5 * n + g), s2.1) := by rw [e0]; exact h.1.ofNight hn hg (nI 0)
    have o1 : fX6_ofNight s2.1 (nI n) (nI g) (nI 1) = some (nI p, s2.1) := by rw [e0, ← b3]; exact h.1.ofNight hn hg (nI 1)
    have o2 : fX6_ofNight s2.1 (nI n) (nI g) (nI 2) = some (pCh (hTl s.1 G n) (s.1.2 11 (5 * n + g)), s2.1) := by rw [e0, ← b2]; exact h.1.ofNight hn hg (nI 2)
    have fin : ∀ t, t = pCh (hTl s.1 G n) (s.1.2 11 (5 * n + g)) → PS (fL_law_c1179 Ls xs kh83 kh1063 (fL_law_c1075 Ls xs kh83 kh1063 f) s2 l6 (nI n) (nI g) (pCh (hTl s.1 G n) (s.1.2 11 (5 * n + g))) t) := by
      rintro _ rfl
      unfold fL_law_c1179
      rw [if_pos rfl, q_bn, q_add]
      exact ih (g + 1) f s2 (by omega) (by omega) g2 i2
    rw [e2, o0, q_ob, q_bn, if_pos rfl]
    show PS (k_ob (fX6_ofNight s2.1 (nI n) (nI g) (nI 1)) _)
    rw [o1, q_ob, q_bn, if_pos rfl]
    show PS (k_ob (fX6_ofNight s2.1 (nI n) (nI g) (nI 2)) _)
    rw [o2, q_ob, q_bn]
    show PS (if s.1.2 11 (5 * n + g) < 0 then fL_law_c1179 Ls xs kh83 kh1063 (fL_law_c1075 Ls xs kh83 kh1063 f) s2 l6 (nI n) (nI g) (pCh (hTl s.1 G n) (s.1.2 11 (5 * n + g))) (nI 0) else k_oq (fL_tall (s2.2.2 0) (s2.2.2 1) (nI n) (s.1.2 11 (5 * n + g))) fun r14 => fL_law_c1179 Ls xs kh83 kh1063 (fL_law_c1075 Ls xs kh83 kh1063 f) s2 l6 (nI n) (nI g) (pCh (hTl s.1 G n) (s.1.2 11 (5 * n + g))) r14)
    rcases b1 with q | ⟨x, hx, q, -⟩
    · rw [if_pos (by rw [q]; decide)]
      exact fin _ (by rw [q]; rfl)
    · have hx2 : pCh (hTl s.1 G n) (s.1.2 11 (5 * n + g)) = hTl s.1 G n x := by
        unfold pCh
        rw [q, if_neg (by simp (disch := omega) only [q_bn, q_ob, q_z0, q_z1, q_gd, q_cl, q_add, q_mul, q_lt, q_eq, q_eq0, q_lt0, q_0lt, q_ngl, q_ngr, q_ng0, q_ngz, q_ngn, q_ngp, q_nlt]; exact not_false), q_cl (by omega)]
      rw [if_neg (by rw [q]; simp (disch := omega) only [q_bn, q_ob, q_z0, q_z1, q_gd, q_cl, q_add, q_mul, q_lt, q_eq, q_eq0, q_lt0, q_0lt, q_ngl, q_ngr, q_ng0, q_ngz, q_ngn, q_ngp, q_nlt]; exact not_false)]
      rw [show fL_tall (s2.2.2 0) (s2.2.2 1) (nI n) (s.1.2 11 (5 * n + g)) = some (hTl s.1 G n x, ()) by
        rw [q, HR.tall g2.1 g2.2 hK (by omega) hx, e0], q_oq]
      exact fin _ hx2.symm
theorem sg1254 {Ls : Nat} {xs : Nat → Int32} {kh83 : k_S × k_S → Int32 → Option (Int32 × (k_S × k_S))} {G N m K t : Nat} {s : k_S × k_S} (h : LR s G N m K) (hc : ∀ s', LR s' G N m K → PS (kh83 s' (nI (t + 1)))) : PS (fL_law_c1254 Ls xs kh83 s (nI t)) := by
  unfold fL_law_c1254
  rw [h.1.many.1, q_ob, q_bn, z33, y33]
  rw [if_pos (show nI K = s.2.2 0 33 from h.e33.symm)]
  show PS (k_ob (fX6_many s.1 (nI 3)) _)
  rw [h.1.many.2, q_ob, q_bn, z32, y32, if_pos (show nI m = s.2.2 0 32 from h.e32.symm), q_bn, q_add]
  exact hc _ h
theorem sg1199 {Ls : Nat} {xs : Nat → Int32} {kh83 : k_S × k_S → Int32 → Option (Int32 × (k_S × k_S))} {G N m K t : Nat} {s : k_S × k_S} (h : LR s G N m K) (h3 : hadI s G K 0) (hc : ∀ s', LR s' G N m K → PS (kh83 s' (nI (t + 1)))) : ∀ (d k f : Nat), k + d = 25 → d < f → PS (fL_law_c1199 Ls xs kh83 f s (nI t) (nI k)) := by
  have hG := h.1.2.1.2.1
  intro d
  induction d with
  | zero =>
    intro k f h1 h2
    obtain ⟨f, rfl⟩ := q_fu 0 h2
    rw [fL_law_c1199_s, if_neg (nI_nlt (by omega) (by omega))]
    exact sg1254 h hc
  | succ d ih =>
    intro k f h1 h2
    obtain ⟨f, rfl⟩ := q_fu (d + 1) h2
    have fin : PS (fL_law_c1248 Ls xs kh83 (fL_law_c1199 Ls xs kh83 f) s (nI t) (nI k)) := by
      unfold fL_law_c1248
      rw [q_bn, q_add]
      exact ih (k + 1) f (by omega) (by omega)
    rw [fL_law_c1199_s, if_pos (nI_lt (by omega) (by omega)), z0, y0, h.e0, pk_rem (show k < 2 ^ 31 by omega) (by decide) (by decide), pk_div (show k < 2 ^ 31 by omega) (by decide) (by decide)]
    by_cases c1 : k / 5 < G
    · rw [if_pos (nI_lt c1 (by omega)), z0]
      by_cases c2 : k % 5 < G
      · rw [if_pos (nI_lt c2 (by omega)), h.1.lay c1 c2, q_ob, q_bn, q_gd (show k < 25 by omega) (by decide), q_cl (show k < 2 ^ 31 by omega)]
        have := h3 (k / 5) c1 (k % 5) (by omega)
        rw [show 5 * (k / 5) + k % 5 = k by omega, if_neg (by omega)] at this
        rw [if_pos (show _ = s.2.2 4 k from this.symm)]
        exact fin
      · rw [if_neg (nI_nlt (by omega) (by omega))]
        exact fin
    · rw [if_neg (nI_nlt (by omega) (by omega))]
      exact fin
theorem sg1063 {Ls : Nat} {xs : Nat → Int32} {kh83 : k_S × k_S → Int32 → Option (Int32 × (k_S × k_S))} {G N m K t : Nat} (hK : K ≤ 12) (hc : ∀ s', LR s' G N m K → PS (kh83 s' (nI (t + 1)))) : ∀ (d n f : Nat) (s : k_S × k_S), n + d = K → d < f → LR s G N m K → hadI s G n 0 → PS (fL_law_c1063 Ls xs kh83 f s (nI t) (nI n)) := by
  intro d
  induction d with
  | zero =>
    intro n f s h1 h2 h h3
    obtain ⟨f, rfl⟩ := q_fu 0 h2
    rw [fL_law_c1063_s, z33, y33, h.e33, if_neg (nI_nlt (by omega) (by omega))]
    unfold fL_law_c1196
    rw [q_bn]
    exact sg1199 h (by rw [show n = K by omega] at h3; exact h3) hc 25 0 k_F (by omega) (q_kF (by omega))
  | succ d ih =>
    intro n f s h1 h2 h h3
    obtain ⟨f, rfl⟩ := q_fu (d + 1) h2
    have hG := h.1.2.1.2.1
    rw [fL_law_c1063_s, z33, y33, h.e33, if_pos (nI_lt (by omega) (by omega)), q_bn]
    exact sg1075 hK (by omega) (fun s' hs' hi => ih (n + 1) f s' (by omega) (by omega) hs' hi) G 0 k_F s (by omega) (q_kF (by omega)) h h3
theorem sg1054 {Ls : Nat} {xs : Nat → Int32} {kh83 : k_S × k_S → Int32 → Option (Int32 × (k_S × k_S))} {G N m K t : Nat} {s : k_S × k_S} (hK : K ≤ 12) (h : LR s G N m K) (hc : ∀ s', LR s' G N m K → PS (kh83 s' (nI (t + 1)))) : PS (fL_law_c1054 Ls xs kh83 s (nI t)) := by
  unfold fL_law_c1054
  rw [q_bn, q_bn]
  refine sg1063 hK hc K 0 k_F _ (by omega) (q_kF (by omega)) (h.rows (s := s) (ρ' := k_sA s.2 4 (fun _ => 0)) rfl rfl rfl) (fun k hk p hp => ?_)
  rw [if_neg (by omega)]
  rfl
theorem LR.back {s : k_S × k_S} {τ : k_S} {G N m K j : Nat} (h : LR s G N m K) (hj : j ≤ K) (hT : HT τ G N m (K - j)) (hk : kTk s.1 τ) (hb : τ.2 11 = s.1.2 11) (hz : ∀ g, g < 5 → τ.2 10 g = k_ng 9) (hz0 : ∀ g, g < 5 → s.1.2 10 g = k_ng 9) (v : Int32) (hv : v = nI (K - j)) : LR (τ, (k_sV s 0 (nI 33) v).2) G N m (K - j) := by
  have hG := h.1.2.1.2.1
  have hN := h.1.2.1.2.2.1
  obtain ⟨k5, k6, k7⟩ := hk
  have g0 : ∀ i, (k_sV s 0 (nI 33) v).2.2 0 i = if i = 33 then v else s.2.2 0 i := fun i => by
    show upd (s.2.2 0) (nI 33).toNatClampNeg v i = _
    rw [y33]
    by_cases e : i = 33
    · rw [if_pos e, e, pk_us]
    · rw [if_neg e, pk_un e]
  refine ⟨hT, ⟨by rw [g0, if_neg (by decide)]; exact h.e0, by rw [g0, if_neg (by decide)]; exact h.e1, by rw [g0, if_neg (by decide)]; exact h.e32, by rw [g0, if_pos rfl]; exact hv⟩, fun x hx => ?_, fun n hn g hg => ?_, fun g hg => ?_⟩
  · show (k_sV s 0 (nI 33) v).2.2 0 (2 + x) = τ.2 5 x ∧ (k_sV s 0 (nI 33) v).2.2 0 (12 + x) = τ.2 6 x ∧ (k_sV s 0 (nI 33) v).2.2 0 (22 + x) = τ.2 7 x
    rw [g0, g0, g0, if_neg (by omega), if_neg (by omega), if_neg (by omega), k5, k6, k7]
    exact h.2.2.1 x hx
  · show s.2.2 1 (5 * n + g) = if g < G then τ.2 11 (5 * n + g) else k_ng 9
    rw [hb]
    exact h.2.2.2.1 n (by omega) g hg
  · show s.2.2 2 g = if g < G then τ.2 10 g else k_ng 9
    rw [h.2.2.2.2 g hg, hz g hg, hz0 g hg]
theorem sg1014 {Ls : Nat} {xs : Nat → Int32} {kh83 : k_S × k_S → Int32 → Option (Int32 × (k_S × k_S))} {G N m K t j : Nat} {s : k_S × k_S} (hK : K ≤ 12) (h : LR s G N m K) (hz : ∀ g, g < 5 → s.1.2 10 g = k_ng 9) (hj : j < 3) (hc : ∀ K' s', K' ≤ K → LR s' G N m K' → PS (kh83 s' (nI (t + 1)))) : PS (fL_law_c1014 Ls xs kh83 s (nI t) (nI j)) := by
  unfold fL_law_c1014
  rw [q_bn]
  by_cases c0 : 0 < j
  · rw [if_pos (by simp (disch := omega) only [q_bn, q_ob, q_z0, q_z1, q_gd, q_cl, q_add, q_mul, q_lt, q_eq, q_eq0, q_lt0, q_0lt, q_ngl, q_ngr, q_ng0, q_ngz, q_ngn, q_ngp, q_nlt]; exact c0), z33, y33, h.e33]
    by_cases c1 : K < j
    · rw [if_pos (nI_lt c1 (by omega))]
      exact sg1054 hK h (hc K · (Nat.le_refl K))
    · rw [if_neg (nI_nlt (by omega) (by omega)), z33, z33, q_bn, q_sub (by omega)]
      obtain ⟨τ, u1, u2, u3, u4, u5⟩ := h.1.undo (show j ≤ K by omega)
      have hL : LR (τ, (k_sV s 0 (nI 33) (nI (K - j))).2) G N m (K - j) := h.back (by omega) u2 u3 u4 u5 hz _ rfl
      rw [show fX6_undo (k_sV s 0 (nI 33) (nI (K - j))).1 (nI j) = some (nI (K - j), τ) from u1, q_ob, q_bn, z33, hL.e33, if_pos rfl]
      exact sg1054 (by omega) hL (hc (K - j) · (by omega))
  · rw [if_neg (by simp (disch := omega) only [q_bn, q_ob, q_z0, q_z1, q_gd, q_cl, q_add, q_mul, q_lt, q_eq, q_eq0, q_lt0, q_0lt, q_ngl, q_ngr, q_ng0, q_ngz, q_ngn, q_ngp, q_nlt]; exact c0)]
    exact sg1054 hK h (hc K · (Nat.le_refl K))
theorem sg981 {Ls : Nat} {xs : Nat → Int32} {kh83 : k_S × k_S → Int32 → Option (Int32 × (k_S × k_S))} {l7 : Int32} {G N m K t : Nat} {s : k_S × k_S} (hK : K ≤ 11) (h : MR s G N m K 5) (hc : ∀ K' s', K' ≤ K + 1 → LR s' G N m K' → PS (kh83 s' (nI (t + 1)))) : PS (fL_law_c981 Ls xs kh83 s (nI t) l7) := by
  unfold fL_law_c981
  rw [z33, z33, y33, h.2.1.2.2.2, q_add, q_bn]
  have hL := h.done (nI (K + 1)) rfl
  obtain ⟨j, hj, e1⟩ := ev_some ((l7 : Int32) >>> (((nI 16) : Int32) &&& 31)) (n := 5) (by decide) (by decide)
  rw [e1, q_oq]
  by_cases c : nI j = 0
  · rw [if_pos c]
    obtain ⟨i, hi, e2⟩ := ev_some ((l7 : Int32) >>> (((nI 17) : Int32) &&& 31)) (n := 3) (by decide) (by decide)
    rw [e2, q_oq]
    exact sg1014 (by omega) hL h.2.2.2.2.2 hi hc
  · rw [if_neg c]
    exact sg1014 (by omega) hL h.2.2.2.2.2 (by decide) hc
theorem sg791 {Ls : Nat} {xs : Nat → Int32} {kh83 : k_S × k_S → Int32 → Option (Int32 × (k_S × k_S))} {l7 : Int32} {G N m K t : Nat} {s : k_S × k_S} (hK : K ≤ 11) (h : LR s G N m K) (hc : ∀ K' s', K' ≤ K + 1 → LR s' G N m K' → PS (kh83 s' (nI (t + 1)))) : PS (fL_law_c791 Ls xs kh83 s (nI t) l7) := by
  have hG := h.1.2.1.2.1
  have hG1 := h.1.2.1.1
  have key : ∀ v, v ≤ 999 → PS (fL_law_c821 Ls xs kh83 s (nI t) l7 (nI v)) := by
    intro v hv
    unfold fL_law_c821
    rw [q_bn, q_bn, sg827 (by omega) h G 0 0 k_F (by omega) (q_kF (by omega))]
    unfold fL_law_c878
    have hB : fX6_bishop s.1 (nI v) = some (nI (pBi (qRow s.1) (nI v) G 0 0), tN s.1 G) := h.1.bishop hv
    rw [hB, q_ob, q_bn, if_pos rfl]
    have h2 := h.tN
    unfold fL_law_c891
    rw [q_bn, q_bn, sg897 (by omega) h2 G 0 k_F _ (by omega) (q_kF (by omega))]
    unfold fL_law_c932
    obtain ⟨g0, τ, n1, n2, n3, n4, n5, n6, n7, n8⟩ := h2.1.night (by omega)
    rw [n3, q_ob, q_bn, pBd_eq n2 G 0 (nI 0) (by omega), if_pos (show 0 ≤ g0 ∧ g0 < G from ⟨Nat.zero_le g0, n1⟩), if_pos rfl]
    unfold fL_law_c943
    rw [q_bn]
    exact sg946 hK (fun s' hs' => sg981 hK hs' hc) 5 0 k_F _ (by omega) (q_kF (by omega)) (MR.start h2 n4 n5 n6 n7 n8)
  have key2 : ∀ (x : Int32) (n : Nat), 0 < n → n ≤ 1000 → PS (fL_law_c816 Ls xs kh83 s (nI t) l7 x (nI n)) := by
    intro x n h0 h1
    unfold fL_law_c816
    obtain ⟨v, hv, e⟩ := ev_some x (n := n) h0 (by omega)
    rw [e, q_oq, q_bn]
    exact key v (by omega)
  unfold fL_law_c791
  obtain ⟨j, hj, e1⟩ := ev_some ((l7 : Int32) >>> (((nI 14) : Int32) &&& 31)) (n := 2) (by decide) (by decide)
  rw [e1, q_oq]
  split
  · exact key2 _ 1000 (by decide) (by decide)
  · exact key2 _ 60 (by decide) (by decide)
