/-! ===== the house alone, and what its calls answer ===== -/
/-- how tall each tale was, n nights being over -/
def hTl (σ : k_S) (G n : Nat) : Nat → Int32 := fun x => pTall (σ.2 5) (σ.2 7) x ((hAll (σ.2 11) G n 0 hZ).1 x)
def hOwn (σ : k_S) (N g : Nat) (v : Int32) : Prop := v = k_ng 9 ∨ ∃ x, x < N ∧ v = nI x ∧ σ.2 6 x = nI g
def HT (σ : k_S) (G N m K : Nat) : Prop :=
  (σ.1 3 = nI G ∧ σ.1 4 = nI N ∧ σ.1 5 = nI m ∧ σ.1 6 = nI K) ∧
  (1 ≤ G ∧ G ≤ 5 ∧ N ≤ 10 ∧ m ≤ 99 ∧ K ≤ 59) ∧
  (∀ x, x < N → pKind (σ.2 5) x ∧ (∃ g, g < G ∧ σ.2 6 x = nI g) ∧ ∃ h, 1 ≤ h ∧ h ≤ 99 ∧ σ.2 7 x = nI h) ∧
  (∀ g, g < G → hOwn σ N g (σ.2 10 g)) ∧
  (∀ n, n < K → ∀ g, g < G → hOwn σ N g (σ.2 11 (5 * n + g)) ∧ σ.2 13 (5 * n + g) = pCh (hTl σ G n) (σ.2 11 (5 * n + g)) ∧ σ.2 12 (5 * n + g) = nI (qPlace G (fun o => σ.2 13 (5 * n + o)) g)) ∧
  hTail (σ.2 8, σ.2 9) ∧ (σ.2 8, σ.2 9) = hAll (σ.2 11) G K 0 hZ
def kTh (σ σ' : k_S) : Prop := (σ'.1 3 = σ.1 3 ∧ σ'.1 4 = σ.1 4 ∧ σ'.1 5 = σ.1 5 ∧ σ'.1 6 = σ.1 6) ∧ σ'.2 5 = σ.2 5 ∧ σ'.2 6 = σ.2 6 ∧ σ'.2 7 = σ.2 7 ∧ σ'.2 8 = σ.2 8 ∧ σ'.2 9 = σ.2 9 ∧ σ'.2 10 = σ.2 10 ∧ σ'.2 11 = σ.2 11 ∧ σ'.2 12 = σ.2 12 ∧ σ'.2 13 = σ.2 13
theorem kTh.rf {σ : k_S} : kTh σ σ := ⟨⟨rfl, rfl, rfl, rfl⟩, rfl, rfl, rfl, rfl, rfl, rfl, rfl, rfl, rfl⟩
theorem kTh.talls {σ : k_S} {G : Nat} (r : qA) : kTh σ (k_sA (k_sf σ 7 (nI G)) 14 r) := ⟨⟨rfl, rfl, rfl, rfl⟩, rfl, rfl, rfl, rfl, rfl, rfl, rfl, rfl, rfl⟩
theorem HT.keep {σ σ' : k_S} {G N m K : Nat} (h : HT σ G N m K) (hT : kTh σ σ') : HT σ' G N m K := by
  obtain ⟨⟨a1, a2, a3, a4⟩, a5, a6, a7, a8, a9, a10, a11, a12, a13⟩ := hT
  unfold HT hOwn hTl
  simp only [a1, a2, a3, a4, a5, a6, a7, a8, a9, a10, a11, a12, a13]
  exact h
theorem hOwn.ok {σ : k_S} {N g : Nat} {v : Int32} (h : hOwn σ N g v) : hOk N v := by
  rcases h with q | ⟨x, h1, h2, -⟩
  · exact .inl q
  · exact .inr ⟨x, h1, h2⟩
theorem HT.okC {σ : k_S} {G N m K g : Nat} (h : HT σ G N m K) (hg : g < G) : hOk N (σ.2 10 g) := (h.2.2.2.1 g hg).ok
theorem HT.okN {σ : k_S} {G N m K n g : Nat} (h : HT σ G N m K) (hn : n < K) (hg : g < G) : hOk N (σ.2 11 (5 * n + g)) := (h.2.2.2.2.1 n hn g hg).1.ok
-- ---- the history of each tale: never told, or so often, the last time then
def hI (s : qA × qA) (b n : Nat) : Prop := ∀ x, x < 10 → (s.1 x = nI 0 ∧ s.2 x = k_ng 9) ∨ ∃ t l, 1 ≤ t ∧ t ≤ b ∧ l < n ∧ s.1 x = nI t ∧ s.2 x = nI l
theorem hI_step {N n n' b : Nat} {s : qA × qA} {x : Int32} (hN : N ≤ 10) (hx : hOk N x) (hn : n < n') (h : hI s b n') : hI (hStep s x n) (b + 1) n' := by
  unfold hStep
  rcases hx with rfl | ⟨a, ha, rfl⟩
  · rw [if_pos rfl]
    intro j hj
    rcases h j hj with q | ⟨t, l, h1, h2, h3⟩
    · exact .inl q
    · exact .inr ⟨t, l, h1, by omega, h3⟩
  · rw [if_neg (by simp (disch := omega) only [q_bn, q_ob, q_z0, q_z1, q_gd, q_cl, q_add, q_mul, q_lt, q_eq, q_eq0, q_lt0, q_0lt, q_ngl, q_ngr, q_ng0, q_ngz, q_ngn, q_ngp, q_nlt]; exact not_false), q_cl (by omega)]
    intro j hj
    by_cases e : j = a
    · subst e
      refine .inr ?_
      show ∃ t l, 1 ≤ t ∧ t ≤ b + 1 ∧ l < n' ∧ upd s.1 j (s.1 j + nI 1) j = nI t ∧ upd s.2 j (nI n) j = nI l
      rw [pk_us, pk_us]
      rcases h j hj with ⟨q, -⟩ | ⟨t, l, h1, h2, h3, h4, h5⟩
      · exact ⟨1, n, by omega, by omega, hn, by rw [q]; rfl, rfl⟩
      · exact ⟨t + 1, n, by omega, by omega, hn, by rw [h4, q_add], rfl⟩
    · show (upd s.1 a _ j = nI 0 ∧ upd s.2 a _ j = k_ng 9) ∨ ∃ t l, 1 ≤ t ∧ t ≤ b + 1 ∧ l < n' ∧ upd s.1 a _ j = nI t ∧ upd s.2 a _ j = nI l
      rw [pk_un e, pk_un e]
      rcases h j hj with q | ⟨t, l, h1, h2, h3⟩
      · exact .inl q
      · exact .inr ⟨t, l, h1, by omega, h3⟩
theorem hI_row {nT : qA} {N n n' : Nat} (hN : N ≤ 10) (hn : n < n') : ∀ (d g b : Nat) (s : qA × qA), (∀ j, g ≤ j → j < g + d → hOk N (nT (5 * n + j))) → hI s b n' → hI (hRow nT n d g s) (b + d) n'
  | 0, _, _, _, _, h => h
  | d + 1, g, b, s, ho, h => by
    have := hI_row hN hn d (g + 1) (b + 1) _ (fun j h1 h2 => ho j (by omega) (by omega)) (hI_step hN (ho g (Nat.le_refl g) (by omega)) hn h)
    rw [show b + (d + 1) = b + 1 + d by omega]
    exact this
theorem hI.mono {s : qA × qA} {b n b' n' : Nat} (h : hI s b n) (hb : b ≤ b') (hn : n ≤ n') : hI s b' n' := by
  intro j hj
  rcases h j hj with q | ⟨t, l, h1, h2, h3, h4⟩
  · exact .inl q
  · exact .inr ⟨t, l, h1, by omega, by omega, h4⟩
theorem hI_all {nT : qA} {N G : Nat} (hN : N ≤ 10) : ∀ (d n b : Nat) (s : qA × qA), (∀ i j, n ≤ i → i < n + d → j < G → hOk N (nT (5 * i + j))) → hI s b n → hI (hAll nT G d n s) (b + G * d) (n + d)
  | 0, _, _, _, _, h => h
  | d + 1, n, b, s, ho, h => by
    have := hI_all hN d (n + 1) (b + G) _ (fun i j h1 h2 h3 => ho i j (by omega) (by omega) h3) (hI_row hN (Nat.lt_succ_self n) G 0 b s (fun j _ h2 => ho n j (Nat.le_refl n) (by omega) (by omega)) (h.mono (Nat.le_refl b) (Nat.le_succ n)))
    rw [show b + G * (d + 1) = b + G + G * d by rw [Nat.mul_succ]; omega, show n + (d + 1) = n + 1 + d by omega]
    exact this
theorem hI_Z : hI hZ 0 0 := fun x hx => .inl ⟨rfl, if_pos hx⟩
theorem HT.hist {σ : k_S} {G N m K : Nat} (h : HT σ G N m K) {n : Nat} (hn : n ≤ K) : hI (hAll (σ.2 11) G n 0 hZ) 300 n := by
  have := hI_all (nT := σ.2 11) (G := G) h.2.1.2.2.1 n 0 0 hZ (fun i j _ h2 h3 => h.okN (by omega) h3) hI_Z
  rw [Nat.zero_add, Nat.zero_add] at this
  refine this.mono ?_ (Nat.le_refl n)
  have h5 : G ≤ 5 := h.2.1.2.1
  have hk : n ≤ 60 := by have := h.2.1.2.2.2.2; omega
  exact Nat.le_trans (Nat.mul_le_mul h5 hk) (by decide)
/-- a tale's height is some number of inches, n nights being over -/
theorem HT.tlN {σ : k_S} {G N m K : Nat} (h : HT σ G N m K) {n x : Nat} (hn : n ≤ K) (hx : x < N) : ∃ t, 1 ≤ t ∧ t ≤ 5000 ∧ hTl σ G n x = nI t := by
  have hi := h.hist hn x (by have := h.2.1.2.2.1; omega)
  obtain ⟨hk, -, b, h1, h2, h3⟩ := h.2.2.1 x hx
  have hto : ∃ t, t ≤ 300 ∧ (hAll (σ.2 11) G n 0 hZ).1 x = nI t := by
    rcases hi with ⟨q, -⟩ | ⟨t, l, -, q1, -, q2, -⟩
    · exact ⟨0, by omega, q⟩
    · exact ⟨t, q1, q2⟩
  obtain ⟨t, h4, h5⟩ := hto
  unfold hTl pTall
  rw [h3, h5]
  rcases hk with hk | hk | hk
  · rw [hk]; simp (disch := omega) only [q_bn, q_ob, q_z0, q_z1, q_gd, q_cl, q_add, q_mul, q_lt, q_eq, q_eq0, q_lt0, q_0lt, q_ngl, q_ngr, q_ng0, q_ngz, q_ngn, q_ngp, q_nlt]; exact ⟨b, h1, by omega, rfl⟩
  · rw [hk]; simp (disch := omega) only [q_bn, q_ob, q_z0, q_z1, q_gd, q_cl, q_add, q_mul, q_lt, q_eq, q_eq0, q_lt0, q_0lt, q_ngl, q_ngr, q_ng0, q_ngz, q_ngn, q_ngp, q_nlt, if_true]; exact ⟨b + 10 * t, by omega, by omega, rfl⟩
  · rw [hk]; simp (disch := omega) only [q_bn, q_ob, q_z0, q_z1, q_gd, q_cl, q_add, q_mul, q_lt, q_eq, q_eq0, q_lt0, q_0lt, q_ngl, q_ngr, q_ng0, q_ngz, q_ngn, q_ngp, q_nlt, if_true, if_false]; exact ⟨b + 900, by omega, by omega, rfl⟩
theorem HT.tl {σ : k_S} {G N m K : Nat} (h : HT σ G N m K) : tTall σ = hTl σ G K := by
  funext x
  unfold tTall hTl
  rw [← h.2.2.2.2.2.2]
-- ---- calls
theorem HT.talls {σ : k_S} {G N m K : Nat} (h : HT σ G N m K) : fX0_tallsAsChosen σ = some ((), k_sA (k_sf σ 7 (nI G)) 14 (pSet (qRow σ) (σ.2 14) 0 G)) :=
  T_talls h.1.1 h.2.1.2.1 h.1.2.1 h.2.1.2.2.1 (fun g hg => h.okC hg)
theorem HT.rowN {σ : k_S} {G N m K : Nat} (h : HT σ G N m K) {g : Nat} (hg : g < G) : (σ.2 10 g = k_ng 9 ∧ qRow σ g = nI 0) ∨ (¬ σ.2 10 g = k_ng 9 ∧ ∃ t, 1 ≤ t ∧ t ≤ 5000 ∧ qRow σ g = nI t) := by
  have hN : N ≤ 10 := h.2.1.2.2.1
  rcases h.okC hg with q | ⟨x, hx, q⟩
  · exact .inl ⟨q, by unfold qRow pCh; rw [if_pos q]⟩
  · have h9 : ¬ σ.2 10 g = k_ng 9 := by rw [q]; simp (disch := omega) only [q_bn, q_ob, q_z0, q_z1, q_gd, q_cl, q_add, q_mul, q_lt, q_eq, q_eq0, q_lt0, q_0lt, q_ngl, q_ngr, q_ng0, q_ngz, q_ngn, q_ngp, q_nlt]; exact not_false
    obtain ⟨t, h1, h2, h3⟩ := h.tlN (Nat.le_refl K) hx
    refine .inr ⟨h9, t, h1, h2, ?_⟩
    unfold qRow pCh
    rw [if_neg h9, q, q_cl (by omega), h.tl, h3]
theorem HT.rowW {σ : k_S} {G N m K : Nat} (h : HT σ G N m K) {g : Nat} (hg : g < G) : qRow σ g = nI (qRow σ g).toNatClampNeg ∧ (qRow σ g).toNatClampNeg ≤ 10000 := by
  rcases h.rowN hg with ⟨-, q⟩ | ⟨-, t, h1, h2, q⟩
  · rw [q]; exact ⟨rfl, by rw [q_cl (by decide)]; omega⟩
  · rw [q, q_cl (by omega)]; exact ⟨rfl, by omega⟩
theorem HT.tonight {σ : k_S} {G N m K g : Nat} (h : HT σ G N m K) (hg : g < G) (y : Int32) : fX6_tonight σ (nI g) y = some (if y = nI 0 then σ.2 10 g else if y = nI 1 then nI (qPlace G (qRow σ) g) else if y = nI 2 then nI (pNd (fun o => (qRow σ o).toNatClampNeg) g G 0 1) else k_ng 2, k_sA (k_sf σ 7 (nI G)) 14 (pSet (qRow σ) (σ.2 14) 0 G)) := by
  have hG : G ≤ 5 := h.2.1.2.1
  unfold fX6_tonight
  rw [T_hasGuest_in h.1.1 hG hg, q_ob, if_neg q_n1, h.talls, q_ob]
  have hw1 : ∀ o, o < G → (k_sA (k_sf σ 7 (nI G)) 14 (pSet (qRow σ) (σ.2 14) 0 G)).2 14 o = nI (qRow σ o).toNatClampNeg ∧ (qRow σ o).toNatClampNeg ≤ 10000 := fun o ho => by
    show pSet (qRow σ) (σ.2 14) 0 G o = _ ∧ _
    rw [pSet_in (Nat.zero_le o) ho]
    exact h.rowW ho
  rw [T_needOf (σ := k_sA (k_sf σ 7 (nI G)) 14 _) rfl hG (show g < 5 by omega) hw1]
  simp (disch := omega) only [q_bn, q_ob, q_z0, q_z1, q_gd, q_cl, q_add, q_mul, q_lt, q_eq, q_eq0, q_lt0, q_0lt, q_ngl, q_ngr, q_ng0, q_ngz, q_ngn, q_ngp, q_nlt]
  rw [T_placeOf (σ := k_sA (k_sf σ 7 (nI G)) 14 _) rfl hG (show g < 5 by omega)]
  simp only [s_sA2, Nat.reduceEqDiff, reduceIte, qPlace_set hg]
  simp only [q_ob, ← nI_0]
  repeat' split
  all_goals rfl
theorem T_out {σ : k_S} {G : Nat} (hG : σ.1 3 = nI G) (hG5 : G ≤ 5) : fX0_hasGuest σ (nI G) = some (nI 0, σ) := T_hasGuest_out hG (.inr ⟨by simp (disch := omega) only [q_bn, q_ob, q_z0, q_z1, q_gd, q_cl, q_add, q_mul, q_lt, q_eq, q_eq0, q_lt0, q_0lt, q_ngl, q_ngr, q_ng0, q_ngz, q_ngn, q_ngp, q_nlt]; exact not_false, by simp (disch := omega) only [q_bn, q_ob, q_z0, q_z1, q_gd, q_cl, q_add, q_mul, q_lt, q_eq, q_eq0, q_lt0, q_0lt, q_ngl, q_ngr, q_ng0, q_ngz, q_ngn, q_ngp, q_nlt]; exact not_false⟩)
theorem T_neg {σ : k_S} {G : Nat} (hG : σ.1 3 = nI G) : fX0_hasGuest σ (k_ng 1) = some (nI 0, σ) := T_hasGuest_out hG (.inl (by decide))
theorem HT.g0 {σ : k_S} {G N m K : Nat} (h : HT σ G N m K) : fX0_hasGuest σ (nI 0) = some (nI 1, σ) := T_hasGuest_in h.1.1 h.2.1.2.1 (by have := h.2.1.1; omega)
theorem HT.tonight_out {σ : k_S} {G N m K : Nat} (h : HT σ G N m K) (y : Int32) : fX6_tonight σ (nI G) y = some (k_ng 1, σ) := by
  unfold fX6_tonight
  rw [T_out h.1.1 h.2.1.2.1]; rfl
theorem HT.isOpen {σ : k_S} {G N m K : Nat} (h : HT σ G N m K) : fX0_isOpen σ = some (nI 1, σ) := by
  rw [T_isOpen h.1.1 h.2.1.2.1, if_neg (by have := h.2.1.1; omega)]
theorem HT.bishop {σ : k_S} {G N m K v : Nat} (h : HT σ G N m K) (hv : v ≤ 999) : fX6_bishop σ (nI v) = some (nI (pBi (qRow σ) (nI v) G 0 0), k_sA (k_sf σ 7 (nI G)) 14 (pSet (qRow σ) (σ.2 14) 0 G)) := by
  have hG : G ≤ 5 := h.2.1.2.1
  unfold fX6_bishop
  rw [if_neg (by simp (disch := omega) only [q_bn, q_ob, q_z0, q_z1, q_gd, q_cl, q_add, q_mul, q_lt, q_eq, q_eq0, q_lt0, q_0lt, q_ngl, q_ngr, q_ng0, q_ngz, q_ngn, q_ngp, q_nlt]; exact not_false), if_neg (by simp (disch := omega) only [q_bn, q_ob, q_z0, q_z1, q_gd, q_cl, q_add, q_mul, q_lt, q_eq, q_eq0, q_lt0, q_0lt, q_ngl, q_ngr, q_ng0, q_ngz, q_ngn, q_ngp, q_nlt]; omega), h.isOpen, q_ob, if_neg q_n1, h.talls, q_ob]
  rw [T_noLess (σ := k_sA (k_sf σ 7 (nI G)) 14 _) rfl hG, q_ob]
  show some (nI (pBi (pSet (qRow σ) (σ.2 14) 0 G) (nI v) G 0 0), _) = _
  rw [pBi_congr (w := qRow σ) G 0 0 (fun j _ h2 => pSet_in (Nat.zero_le j) (by omega))]
theorem T_bishop_out (σ : k_S) : fX6_bishop σ (nI 1000) = some (k_ng 2, σ) ∧ fX6_bishop σ (k_ng 1) = some (k_ng 2, σ) := by
  unfold fX6_bishop
  exact ⟨by rw [if_neg (by decide), if_pos (by decide)], by rw [if_pos (by decide)]⟩
theorem HT.ofTale {σ : k_S} {G N m K x : Nat} (h : HT σ G N m K) (hx : x < N) : fX6_ofTale σ (nI x) (nI 3) = some (σ.2 8 x, σ) ∧ fX6_ofTale σ (nI x) (nI 4) = some (σ.2 9 x, σ) ∧ fX6_ofTale σ (nI x) (nI 5) = some (tMay σ x, σ) ∧ fX6_ofTale σ (nI x) (nI 6) = some (tTall σ x, σ) := by
  have hN : N ≤ 10 := h.2.1.2.2.1
  have hb : (if tMay σ x = 0 then nI 0 else nI 1) = tMay σ x := by
    rcases pMay_b (σ.2 5) (σ.1 5) x (σ.2 8 x) (σ.2 9 x) (σ.1 6) with q | q
    · rw [show tMay σ x = nI 0 from q]; rfl
    · rw [show tMay σ x = nI 1 from q]; rfl
  unfold fX6_ofTale
  simp only [T_hasTale_in h.1.2.1 hN hx, q_ob, if_neg q_n1, T_isTellable σ (show x < 10 by omega), T_tallOf σ (show x < 10 by omega)]
  refine ⟨?_, ?_, ?_, ?_⟩
  all_goals
    simp (disch := omega) only [q_bn, q_ob, q_z0, q_z1, q_gd, q_cl, q_add, q_mul, q_lt, q_eq, q_eq0, q_lt0, q_0lt, q_ngl, q_ngr, q_ng0, q_ngz, q_ngn, q_ngp, q_nlt]
  · simp; done
  · simp; done
  · simp only [Nat.reduceEqDiff, reduceIte]
    rcases pMay_b (σ.2 5) (σ.1 5) x (σ.2 8 x) (σ.2 9 x) (σ.1 6) with q | q
    · rw [show tMay σ x = nI 0 from q]; rfl
    · rw [show tMay σ x = nI 1 from q]; rfl
  · simp; done
theorem HT.ofTale_out {σ : k_S} {G N m K : Nat} (h : HT σ G N m K) (h1 : 1 ≤ N) : fX6_ofTale σ (nI N) (nI 0) = some (k_ng 1, σ) ∧ fX6_ofTale σ (nI 0) (nI 7) = some (k_ng 2, σ) := by
  have hN : N ≤ 10 := h.2.1.2.2.1
  unfold fX6_ofTale
  refine ⟨?_, ?_⟩
  · rw [T_hasTale_out h.1.2.1 (.inr ⟨by simp (disch := omega) only [q_bn, q_ob, q_z0, q_z1, q_gd, q_cl, q_add, q_mul, q_lt, q_eq, q_eq0, q_lt0, q_0lt, q_ngl, q_ngr, q_ng0, q_ngz, q_ngn, q_ngp, q_nlt]; exact not_false, by simp (disch := omega) only [q_bn, q_ob, q_z0, q_z1, q_gd, q_cl, q_add, q_mul, q_lt, q_eq, q_eq0, q_lt0, q_0lt, q_ngl, q_ngr, q_ng0, q_ngz, q_ngn, q_ngp, q_nlt]; exact not_false⟩)]; rfl
  · rw [T_hasTale_in h.1.2.1 hN (show 0 < N by omega), q_ob, if_neg q_n1]
    repeat' split
    all_goals first | rfl | (rename_i q; exact absurd q (by decide))
theorem HT.memory {σ : k_S} {G N m K v : Nat} (h : HT σ G N m K) (hv : v ≤ 99) : fX6_memory σ (nI v) = some (nI m, k_sf σ 5 (nI v)) ∧ HT (k_sf σ 5 (nI v)) G N v K := by
  obtain ⟨⟨h1, h2, h3, h4⟩, ⟨h5, h6, h7, h8, h9⟩, h10⟩ := id h
  refine ⟨?_, ⟨h1, h2, rfl, h4⟩, ⟨h5, h6, h7, hv, h9⟩, h10⟩
  unfold fX6_memory
  rw [if_neg (by simp (disch := omega) only [q_bn, q_ob, q_z0, q_z1, q_gd, q_cl, q_add, q_mul, q_lt, q_eq, q_eq0, q_lt0, q_0lt, q_ngl, q_ngr, q_ng0, q_ngz, q_ngn, q_ngp, q_nlt]; exact not_false), if_neg (by simp (disch := omega) only [q_bn, q_ob, q_z0, q_z1, q_gd, q_cl, q_add, q_mul, q_lt, q_eq, q_eq0, q_lt0, q_0lt, q_ngl, q_ngr, q_ng0, q_ngz, q_ngn, q_ngp, q_nlt]; omega), h.isOpen, q_ob, if_neg q_n1, h3]
  rfl
theorem T_memory_out (σ : k_S) : fX6_memory σ (nI 100) = some (k_ng 2, σ) ∧ fX6_memory σ (k_ng 1) = some (k_ng 2, σ) := by
  unfold fX6_memory
  exact ⟨by rw [if_neg (by decide), if_pos (by decide)], by rw [if_pos (by decide)]⟩
theorem HT.set {σ : k_S} {G N m K g : Nat} {v : Int32} (h : HT σ G N m K) (hg : g < G) (hv : hOwn σ N g v) : HT (k_sA σ 10 (upd (σ.2 10) g v)) G N m K := by
  obtain ⟨h1, h2, h3, h4, h5, h6⟩ := h
  refine ⟨h1, h2, h3, fun g' hg' => ?_, h5, h6⟩
  show hOwn σ N g' (upd (σ.2 10) g v g')
  by_cases e : g' = g
  · subst e; rw [pk_us]; exact hv
  · rw [pk_un e]; exact h4 g' hg'
theorem HT.choose {σ : k_S} {G N m K g : Nat} {v : Int32} (h : HT σ G N m K) (hg : g < G) (hv : v = k_ng 9 ∨ ∃ x, x < N ∧ v = nI x ∧ σ.2 6 x = nI g ∧ tMay σ x = nI 1) : fX6_choose σ (nI g) v = some (σ.2 10 g, k_sA σ 10 (upd (σ.2 10) g v)) := by
  have hG : G ≤ 5 := h.2.1.2.1
  have hN : N ≤ 10 := h.2.1.2.2.1
  unfold fX6_choose
  rw [T_hasGuest_in h.1.1 hG hg, q_ob, if_neg q_n1]
  have fin : fX6_choose_c59 σ (nI g) v = some (σ.2 10 g, k_sA σ 10 (upd (σ.2 10) g v)) := by
    unfold fX6_choose_c59
    simp (disch := omega) only [q_bn, q_ob, q_z0, q_z1, q_gd, q_cl, q_add, q_mul, q_lt, q_eq, q_eq0, q_lt0, q_0lt, q_ngl, q_ngr, q_ng0, q_ngz, q_ngn, q_ngp, q_nlt, s_sa]
  rcases hv with rfl | ⟨x, hx, rfl, ho, hm⟩
  · rw [if_pos rfl]; exact fin
  · rw [if_neg (by simp (disch := omega) only [q_bn, q_ob, q_z0, q_z1, q_gd, q_cl, q_add, q_mul, q_lt, q_eq, q_eq0, q_lt0, q_0lt, q_ngl, q_ngr, q_ng0, q_ngz, q_ngn, q_ngp, q_nlt]; exact not_false), T_hasTale_in h.1.2.1 hN hx, q_ob, if_neg q_n1]
    simp (disch := omega) only [q_bn, q_ob, q_z0, q_z1, q_gd, q_cl, q_add, q_mul, q_lt, q_eq, q_eq0, q_lt0, q_0lt, q_ngl, q_ngr, q_ng0, q_ngz, q_ngn, q_ngp, q_nlt]
    rw [T_isTellable σ (show x < 10 by omega), if_pos ho, q_ob, hm, if_neg q_n1]
    exact fin
theorem HT.choose_no {σ : k_S} {G N m K g x : Nat} (h : HT σ G N m K) (hg : g < G) (hx : x < N) (hv : ¬ (σ.2 6 x = nI g ∧ tMay σ x = nI 1)) : fX6_choose σ (nI g) (nI x) = some (k_ng 3, σ) := by
  have hG : G ≤ 5 := h.2.1.2.1
  have hN : N ≤ 10 := h.2.1.2.2.1
  unfold fX6_choose
  rw [T_hasGuest_in h.1.1 hG hg, q_ob, if_neg q_n1, if_neg (by simp (disch := omega) only [q_bn, q_ob, q_z0, q_z1, q_gd, q_cl, q_add, q_mul, q_lt, q_eq, q_eq0, q_lt0, q_0lt, q_ngl, q_ngr, q_ng0, q_ngz, q_ngn, q_ngp, q_nlt]; exact not_false), T_hasTale_in h.1.2.1 hN hx, q_ob, if_neg q_n1]
  simp (disch := omega) only [q_bn, q_ob, q_z0, q_z1, q_gd, q_cl, q_add, q_mul, q_lt, q_eq, q_eq0, q_lt0, q_0lt, q_ngl, q_ngr, q_ng0, q_ngz, q_ngn, q_ngp, q_nlt]
  rw [T_isTellable σ (show x < 10 by omega)]
  by_cases ho : σ.2 6 x = nI g
  · rw [if_pos ho, q_ob]
    have hm : tMay σ x = nI 0 := by
      rcases pMay_b (σ.2 5) (σ.1 5) x (σ.2 8 x) (σ.2 9 x) (σ.1 6) with q | q
      · exact q
      · exact absurd ⟨ho, q⟩ hv
    rw [hm, if_pos q_0i]
  · rw [if_neg ho]
theorem HT.choose_out {σ : k_S} {G N m K : Nat} (h : HT σ G N m K) : fX6_choose σ (nI G) (k_ng 9) = some (k_ng 1, σ) ∧ fX6_choose σ (nI 0) (nI N) = some (k_ng 1, σ) ∧ fX6_choose σ (nI 0) (k_ng 1) = some (k_ng 1, σ) := by
  have hN : N ≤ 10 := h.2.1.2.2.1
  unfold fX6_choose
  refine ⟨by rw [T_out h.1.1 h.2.1.2.1]; rfl, ?_, ?_⟩
  · rw [h.g0, q_ob, if_neg q_n1, if_neg (by simp (disch := omega) only [q_bn, q_ob, q_z0, q_z1, q_gd, q_cl, q_add, q_mul, q_lt, q_eq, q_eq0, q_lt0, q_0lt, q_ngl, q_ngr, q_ng0, q_ngz, q_ngn, q_ngp, q_nlt]; exact not_false), T_hasTale_out h.1.2.1 (.inr ⟨by simp (disch := omega) only [q_bn, q_ob, q_z0, q_z1, q_gd, q_cl, q_add, q_mul, q_lt, q_eq, q_eq0, q_lt0, q_0lt, q_ngl, q_ngr, q_ng0, q_ngz, q_ngn, q_ngp, q_nlt]; exact not_false, by simp (disch := omega) only [q_bn, q_ob, q_z0, q_z1, q_gd, q_cl, q_add, q_mul, q_lt, q_eq, q_eq0, q_lt0, q_0lt, q_ngl, q_ngr, q_ng0, q_ngz, q_ngn, q_ngp, q_nlt]; exact not_false⟩)]; rfl
  · rw [h.g0, q_ob, if_neg q_n1, if_neg (by decide), T_hasTale_out h.1.2.1 (.inl (by decide))]; rfl
theorem HT.ofNight {σ : k_S} {G N m K n g : Nat} (h : HT σ G N m K) (hn : n < K) (hg : g < G) (y : Int32) : fX6_ofNight σ (nI n) (nI g) y = some (if y = nI 0 then σ.2 11 (5 * n + g) else if y = nI 1 then σ.2 12 (5 * n + g) else if y = nI 2 then σ.2 13 (5 * n + g) else k_ng 2, σ) := by
  have hG : G ≤ 5 := h.2.1.2.1
  have hK : K ≤ 59 := h.2.1.2.2.2.2
  unfold fX6_ofNight
  rw [T_hasNight_in h.1.2.2.2 (by omega) hn, q_ob, if_neg q_n1, T_hasGuest_in h.1.1 hG hg, q_ob, if_neg q_n1]
  simp (disch := omega) only [q_bn, q_ob, q_z0, q_z1, q_gd, q_cl, q_add, q_mul, q_lt, q_eq, q_eq0, q_lt0, q_0lt, q_ngl, q_ngr, q_ng0, q_ngz, q_ngn, q_ngp, q_nlt]
  rw [show n * 5 + g = 5 * n + g by omega]
  repeat' split
  all_goals rfl
theorem HT.ofNight_out {σ : k_S} {G N m K : Nat} (h : HT σ G N m K) (y z : Int32) : fX6_ofNight σ (nI K) y z = some (k_ng 1, σ) ∧ fX6_ofNight σ (k_ng 1) y z = some (k_ng 1, σ) := by
  have hK : K ≤ 59 := h.2.1.2.2.2.2
  unfold fX6_ofNight
  exact ⟨by rw [T_hasNight_out h.1.2.2.2 (.inr ⟨by simp (disch := omega) only [q_bn, q_ob, q_z0, q_z1, q_gd, q_cl, q_add, q_mul, q_lt, q_eq, q_eq0, q_lt0, q_0lt, q_ngl, q_ngr, q_ng0, q_ngz, q_ngn, q_ngp, q_nlt]; exact not_false, by simp (disch := omega) only [q_bn, q_ob, q_z0, q_z1, q_gd, q_cl, q_add, q_mul, q_lt, q_eq, q_eq0, q_lt0, q_0lt, q_ngl, q_ngr, q_ng0, q_ngz, q_ngn, q_ngp, q_nlt]; exact not_false⟩)]; rfl, by rw [T_hasNight_out h.1.2.2.2 (.inl (by decide))]; rfl⟩
theorem HT.lay {σ : k_S} {G N m K g p : Nat} (h : HT σ G N m K) (hg : g < G) (hp : p < G) : fX6_lay σ (nI g) (nI p) = some (nI (pNa (fun n => σ.2 12 (5 * n + g)) (nI p) K 0 0), σ) := by
  have hG : G ≤ 5 := h.2.1.2.1
  have hK : K ≤ 59 := h.2.1.2.2.2.2
  unfold fX6_lay
  rw [T_hasGuest_in h.1.1 hG hg, q_ob, if_neg q_n1, T_hasGuest_in h.1.1 hG hp, q_ob, if_neg q_n1, T_nightsAt h.1.2.2.2 (by omega) (show g < 5 by omega)]
  rfl
theorem HT.lay_out {σ : k_S} {G N m K : Nat} (h : HT σ G N m K) : fX6_lay σ (nI G) (nI 0) = some (k_ng 1, σ) ∧ fX6_lay σ (nI 0) (nI G) = some (k_ng 1, σ) := by
  unfold fX6_lay
  exact ⟨by rw [T_out h.1.1 h.2.1.2.1]; rfl, by rw [h.g0, q_ob, if_neg q_n1, T_out h.1.1 h.2.1.2.1]; rfl⟩
theorem HT.many {σ : k_S} {G N m K : Nat} (h : HT σ G N m K) : fX6_many σ (nI 2) = some (nI K, σ) ∧ fX6_many σ (nI 3) = some (nI m, σ) := by
  unfold fX6_many
  rw [h.1.2.2.1, h.1.2.2.2]
  exact ⟨rfl, rfl⟩
theorem HT.reply {σ : k_S} {G N m K g : Nat} (h : HT σ G N m K) (hg : g < G) (fl : Nat) (hfl : fl < 2) {y : Int32} (hy : y = nI 0 ∨ y = nI 1) (off : Nat → Bool) (hoff : ∀ x, x < N → (off x = if fl = 0 then decide (σ.2 6 x = nI g ∧ ¬ tMay σ x = 0) else decide (¬ σ.2 6 x = nI g ∧ ¬ tMay σ x = 0 ∧ ¬ σ.2 10 (σ.2 6 x).toNatClampNeg = nI x))) : fX6_bestReply σ (nI g) y (nI fl) = some (qAns (qRow σ) g G (tTall σ) y (pBest off (qBt (qRow σ) g G (tTall σ)) N 0 none), k_sA (k_sf σ 7 (nI G)) 14 (pSet (qRow σ) (σ.2 14) 0 G)) := by
  have hG : G ≤ 5 := h.2.1.2.1
  have hN : N ≤ 10 := h.2.1.2.2.1
  unfold fX6_bestReply
  rw [T_hasGuest_in h.1.1 hG hg, q_ob, if_neg q_n1]
  rw [if_neg (show ¬ y < 0 by rcases hy with rfl | rfl <;> decide), if_neg (show ¬ nI 1 < y by rcases hy with rfl | rfl <;> decide), h.talls]
  simp only [q_ob, q_bn]
  have eT := T_reply_loop (σ := k_sA (k_sf σ 7 (nI G)) 14 (pSet (qRow σ) (σ.2 14) 0 G)) (G := G) (N := N) (g := g) rfl hG (by omega) h.1.2.1 hN y (nI fl) off (fun x hx => by
    obtain ⟨-, ⟨o, ho, hoe⟩, -⟩ := h.2.2.1 x hx
    rw [T_isOffered (σ := k_sA (k_sf σ 7 (nI G)) 14 (pSet (qRow σ) (σ.2 14) 0 G)) (show x < 10 by omega) fl hfl (o := o) hoe (by omega) (by omega)]
    have : off x = (if fl = 0 then decide (o = g ∧ ¬ tMay σ x = 0) else decide (o ≠ g ∧ ¬ tMay σ x = 0 ∧ ¬ σ.2 10 o = nI x)) := by
      rw [hoff x hx, hoe, q_cl (by omega)]
      simp only [q_eq (show o < 2 ^ 31 by omega) (show g < 2 ^ 31 by omega), ne_eq]
    rw [this]
    rfl) N 0 k_F none (by omega) (q_kF (by omega)) (fun b hb => by cases hb)
  rw [show k_ng 9 = pEnc none from rfl, eT]
  have hw : ∀ j, j < G → j ≠ g → pSet (qRow σ) (σ.2 14) 0 G j = qRow σ j := fun j hj _ => pSet_in (Nat.zero_le j) hj
  have e2 : qAns ((k_sA (k_sf σ 7 (nI G)) 14 (pSet (qRow σ) (σ.2 14) 0 G)).2 14) g G (tTall (k_sA (k_sf σ 7 (nI G)) 14 (pSet (qRow σ) (σ.2 14) 0 G))) y (pBest off (qBt ((k_sA (k_sf σ 7 (nI G)) 14 (pSet (qRow σ) (σ.2 14) 0 G)).2 14) g G (tTall (k_sA (k_sf σ 7 (nI G)) 14 (pSet (qRow σ) (σ.2 14) 0 G)))) N 0 none) = qAns (qRow σ) g G (tTall σ) y (pBest off (qBt (qRow σ) g G (tTall σ)) N 0 none) := by
    show qAns (pSet (qRow σ) (σ.2 14) 0 G) g G (tTall σ) y (pBest off (qBt (pSet (qRow σ) (σ.2 14) 0 G) g G (tTall σ)) N 0 none) = _
    unfold qAns
    rw [qBt_congr hw]
    split
    · rfl
    · rw [qPl_congr hw]
  rw [e2]
theorem HT.reply_out {σ : k_S} {G N m K : Nat} (h : HT σ G N m K) (fl : Int32) : fX6_bestReply σ (nI G) (nI 0) fl = some (k_ng 1, σ) ∧ fX6_bestReply σ (nI 0) (nI 2) fl = some (k_ng 2, σ) ∧ fX6_bestReply σ (k_ng 1) (nI 0) fl = some (k_ng 1, σ) ∧ fX6_bestReply σ (nI 0) (k_ng 1) fl = some (k_ng 2, σ) := by
  unfold fX6_bestReply
  refine ⟨by rw [T_out h.1.1 h.2.1.2.1]; rfl, ?_, by rw [T_neg h.1.1]; rfl, ?_⟩
  · rw [h.g0, q_ob, if_neg q_n1, if_neg (by decide), if_pos (by decide)]
  · rw [h.g0, q_ob, if_neg q_n1, if_pos (by decide)]
theorem T_answer (σ : k_S) (x y : Int32) {r : Int32} {τ : k_S} (h : fX6_bestReply σ x y (nI 0) = some (r, τ)) : fX6_answer σ x y = some (r, τ) := by unfold fX6_answer; rw [h]; rfl
theorem T_borrowed (σ : k_S) (x y : Int32) {r : Int32} {τ : k_S} (h : fX6_bestReply σ x y (nI 1) = some (r, τ)) : fX6_borrowed σ x y = some (r, τ) := by unfold fX6_borrowed; rw [h]; rfl
