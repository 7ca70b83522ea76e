/-! ===== nights: undone, going by; tonight; parts ===== -/
theorem q_n1 : ¬ nI 1 = (0 : Int32) := by decide
theorem RH.hOkM {σ τ : k_S} {G N m K : Nat} (h : RH σ τ G N m K) {k : Nat} (hk : k < 5 * K) : hOk N (τ.2 9 k) := by
  obtain ⟨-, -, -, -, -, -, -, -, hnn, hz, -⟩ := h
  have hn : k / 5 < K := by omega
  have e : 5 * (k / 5) + k % 5 = k := by omega
  by_cases hg : k % 5 < G
  · have := hnn (k / 5) hn (k % 5) hg
    rw [e] at this
    rw [← this.1]
    rcases this.2.2.1 with q | ⟨x, h1, h2, -⟩
    · exact .inl q
    · exact .inr ⟨x, h1, h2⟩
  · have := hz (k / 5) hn (k % 5) (by omega) (by omega)
    rw [e] at this
    exact .inl this
theorem pu_undo {σ τ : k_S} (h : RR σ τ) (x : Int32) : qOk (fX6_undo σ x) (fX7_undo τ x) := by
  obtain ⟨⟨G, N, m, K, hH⟩, hS, h0, h1⟩ := id h
  have hH' := hH
  obtain ⟨⟨g1, g2⟩, ⟨n1, n2⟩, ⟨m1, m2⟩, ⟨k1, k2⟩, ⟨hG, hN, hm, hK, hz⟩, ⟨a5, a6, a7, a8, a9, a10⟩, ht, hc, hnn, hzz, hl, hh⟩ := hH
  unfold fX6_undo fX7_undo
  rw [M_within, q_ob, k1, k2]
  by_cases hx : x < nI 0 ∨ nI K < x
  · rw [if_pos hx, if_pos (show nI 0 = (0 : Int32) from rfl)]
    refine ⟨k_ng 2, σ, τ, ?_, rfl, h⟩
    by_cases hx0 : x < 0
    · rw [if_pos hx0]
    · rw [if_neg hx0, if_pos (hx.resolve_left hx0)]
  · obtain ⟨k, hk, rfl⟩ := q_pass (by omega) hx
    rw [if_neg hx, if_neg q_n1]
    rw [if_neg (by simp (disch := omega) only [q_bn, q_ob, q_z0, q_z1, q_gd, q_cl, q_add, q_mul, q_lt, q_eq, q_eq0, q_lt0, q_0lt, q_ngl, q_ngr, q_ng0, q_ngz, q_ngn, q_ngp, q_nlt]; exact not_false), if_neg (by simp (disch := omega) only [q_bn, q_ob, q_z0, q_z1, q_gd, q_cl, q_add, q_mul, q_lt, q_eq, q_eq0, q_lt0, q_0lt, q_ngl, q_ngr, q_ng0, q_ngz, q_ngn, q_ngp, q_nlt]; omega)]
    rw [T_goBack g1 hG n1 hN k1 hK hk (fun i j hi hj => hH'.hOkN (by omega) hj) hl, q_ob]
    have eM : fX7_countTold (k_sf τ 8 (nI (K - k))) = some ((), sCD (k_sf τ 8 (nI (K - k))) (hAll (σ.2 11) G (K - k) 0 hZ)) := by
      rw [M_countTold (τ := k_sf τ 8 (nI (K - k))) (N := N) (K := K - k) hN rfl (by omega) (fun j hj => hH'.hOkM (by omega)) (by
        show hTail (τ.2 12, τ.2 13)
        rw [← a8, ← a9]; exact hl)]
      have := hFlat_all (τ.2 9) hG (K - k) 0 hZ (fun i j _ h2 h3 h4 => hzz i (by omega) j h3 h4)
      rw [Nat.mul_zero] at this
      rw [show (k_sf τ 8 (nI (K - k))).2 9 = τ.2 9 from rfl, this]
      rw [hAll_congr (a := τ.2 9) (b := σ.2 11) (K - k) 0 hZ (fun i j _ h2 h3 => ((hnn i (by omega) j h3).1).symm)]
    simp (disch := omega) only [q_bn, q_ob, q_z0, q_z1, q_gd, q_cl, q_add, q_mul, q_lt, q_eq, q_eq0, q_lt0, q_0lt, q_ngl, q_ngr, q_ng0, q_ngz, q_ngn, q_ngp, q_nlt, k2, q_sub, eM]
    rw [M_chooseNone, q_ob]
    refine ⟨nI (K - k), s89 (k_sA (k_sf σ 6 (nI (K - k))) 10 (k_fl (σ.2 10) 0 5 (k_ng 9))) (hAll (σ.2 11) G (K - k) 0 hZ), k_sA (sCD (k_sf τ 8 (nI (K - k))) (hAll (σ.2 11) G (K - k) 0 hZ)) 11 (k_fl (τ.2 11) 0 5 (k_ng 9)), rfl, rfl, ⟨G, N, m, K - k, ⟨g1, g2⟩, ⟨n1, n2⟩, ⟨m1, m2⟩, ⟨rfl, rfl⟩, ⟨hG, hN, hm, by omega, fun q => ⟨(hz q).1, by have := (hz q).2; omega⟩⟩, ⟨a5, a6, a7, rfl, rfl, ?_⟩, ht, fun g hg => .inl ?_, fun n hn g hg => hnn n (by omega) g hg, fun n hn g hg1 hg2 => hzz n (by omega) g hg1 hg2, ?_, fun _ => rfl⟩, hS.keep ⟨rfl, rfl, rfl⟩ ⟨rfl, rfl, rfl⟩, h0, h1⟩
    · show k_fl (σ.2 10) 0 5 (k_ng 9) = k_fl (τ.2 11) 0 5 (k_ng 9)
      rw [a10]
    · show (if 0 ≤ g ∧ g < 5 then k_ng 9 else _) = k_ng 9
      rw [if_pos ⟨Nat.zero_le g, by omega⟩]
    · exact hAll_tail hN (K - k) 0 hZ (fun i j _ h2 h3 => hH'.hOkN (by omega) h3) hZ_tail
-- ---- tonight
def qRow (σ : k_S) : qA := fun g => pCh (tTall σ) (σ.2 10 g)
theorem RH.row {σ τ : k_S} {G N m K : Nat} (h : RH σ τ G N m K) : (fun g => pCh (mTall τ) (τ.2 11 g)) = qRow σ := by
  have hT := h.tall
  obtain ⟨-, -, -, -, -, ⟨a5, a6, a7, a8, a9, a10⟩, -⟩ := h
  funext g
  unfold qRow
  rw [hT, a10]
theorem RH.talls {σ τ : k_S} {G N m K : Nat} (h : RH σ τ G N m K) : fX0_tallsAsChosen σ = some ((), k_sA (k_sf σ 7 (nI G)) 14 (pSet (qRow σ) (σ.2 14) 0 G)) ∧ fX7_layTall τ = some ((), k_sA τ 14 (pSet (qRow σ) (τ.2 14) 0 G)) := by
  have h' := h
  obtain ⟨⟨g1, g2⟩, ⟨n1, n2⟩, -, -, ⟨hG, hN, -⟩, ⟨a5, a6, a7, a8, a9, a10⟩, -⟩ := h
  refine ⟨T_talls g1 hG n1 hN (fun g hg => h'.hOkC hg), ?_⟩
  rw [M_layTall g2 hG hN (fun g hg => by rw [← a10]; exact h'.hOkC hg) (fun x hx => h'.kindM hx), h'.row]
theorem RH.rowN {σ τ : k_S} {G N m K : Nat} (h : RH σ τ G N m K) {g : Nat} (hg : g < G) : (σ.2 10 g = k_ng 9 ∧ qRow σ g = nI 0) ∨ (¬ σ.2 10 g = k_ng 9 ∧ ∃ t, 1 ≤ t ∧ t ≤ 5000 ∧ qRow σ g = nI t) := by
  have hN : N ≤ 10 := h.2.2.2.2.1.2.1
  rcases h.hOkC hg with q | ⟨x, hx, q⟩
  · exact .inl ⟨q, by unfold qRow pCh; rw [if_pos q]⟩
  · have h9 : ¬ σ.2 10 g = k_ng 9 := by rw [q]; simp (disch := omega) only [q_bn, q_ob, q_z0, q_z1, q_gd, q_cl, q_add, q_mul, q_lt, q_eq, q_eq0, q_lt0, q_0lt, q_ngl, q_ngr, q_ng0, q_ngz, q_ngn, q_ngp, q_nlt]; exact not_false
    obtain ⟨t, h1, h2, h3⟩ := h.tallN hx
    refine .inr ⟨h9, t, h1, h2, ?_⟩
    unfold qRow pCh
    rw [if_neg h9, q, q_cl (by omega), h3]
theorem RH.rowW {σ τ : k_S} {G N m K : Nat} (h : RH σ τ G N m K) {g : Nat} (hg : g < G) : qRow σ g = nI (qRow σ g).toNatClampNeg ∧ (qRow σ g).toNatClampNeg ≤ 10000 := by
  rcases h.rowN hg with ⟨-, q⟩ | ⟨-, t, h1, h2, q⟩
  · rw [q]; exact ⟨rfl, by rw [q_cl (by decide)]; omega⟩
  · rw [q, q_cl (by omega)]; exact ⟨rfl, by omega⟩
theorem kT.talls {σ : k_S} {G : Nat} (r : qA) : kT σ (k_sA (k_sf σ 7 (nI G)) 14 r) := ⟨⟨⟨rfl, rfl, rfl, rfl⟩, rfl, rfl, rfl, rfl, rfl, rfl, rfl, rfl, rfl⟩, ⟨rfl, rfl, rfl⟩, rfl, rfl⟩
theorem kM.tall {τ : k_S} (r : qA) : kM τ (k_sA τ 14 r) := ⟨⟨⟨rfl, rfl, rfl, rfl⟩, rfl, rfl, rfl, rfl, rfl, rfl, rfl, rfl⟩, ⟨rfl, rfl, rfl⟩, rfl, rfl⟩
theorem qPlace_set {G g : Nat} (hg : g < G) (f old : qA) : pPl (pSet f old 0 G) g (pSet f old 0 G g) G 0 0 = qPlace G f g := qPlace_congr (v := pSet f old 0 G) (w := f) hg (fun j hj => pSet_in (Nat.zero_le j) hj)
theorem pu_tonight {σ τ : k_S} (h : RR σ τ) (x y : Int32) : qOk (fX6_tonight σ x y) (fX7_tonight τ x y) := by
  obtain ⟨⟨G, N, m, K, hH⟩, hS, h0, h1⟩ := id h
  have hH' := hH
  obtain ⟨⟨g1, g2⟩, ⟨n1, n2⟩, ⟨m1, m2⟩, ⟨k1, k2⟩, ⟨hG, hN, hm, hK, hz⟩, ⟨a5, a6, a7, a8, a9, a10⟩, ht, hc, hnn, hzz, hl, hh⟩ := hH
  unfold fX6_tonight fX7_tonight
  rcases q_ix x (n := G) (by omega) with ⟨g, hg, rfl⟩ | hx
  · rw [T_hasGuest_in g1 hG hg, M_isGuest_in g2 hG hg, q_ob, q_ob, if_neg q_n1, if_neg q_n1, hH'.talls.1, hH'.talls.2, q_ob, q_ob]
    have hw1 : ∀ o, o < G → (k_sA (k_sf σ 7 (nI G)) 14 (pSet (qRow σ) (σ.2 14) 0 G)).2 14 o = nI (qRow σ o).toNatClampNeg ∧ (qRow σ o).toNatClampNeg ≤ 10000 := fun o ho => by
      show pSet (qRow σ) (σ.2 14) 0 G o = _ ∧ _
      rw [pSet_in (Nat.zero_le o) ho]
      exact hH'.rowW ho
    have hw2 : ∀ o, o < G → (k_sA τ 14 (pSet (qRow σ) (τ.2 14) 0 G)).2 14 o = nI (qRow σ o).toNatClampNeg ∧ (qRow σ o).toNatClampNeg ≤ 10000 := fun o ho => by
      show pSet (qRow σ) (τ.2 14) 0 G o = _ ∧ _
      rw [pSet_in (Nat.zero_le o) ho]
      exact hH'.rowW ho
    rw [M_placeOf (τ := k_sA τ 14 _) g2 hG (show g < 5 by omega), M_need (τ := k_sA τ 14 _) g2 hG (show g < 5 by omega) hw2, T_needOf (σ := k_sA (k_sf σ 7 (nI G)) 14 _) rfl hG (show g < 5 by omega) hw1]
    simp (disch := omega) only [q_bn, q_ob, q_z0, q_z1, q_gd, q_cl, q_add, q_mul, q_lt, q_eq, q_eq0, q_lt0, q_0lt, q_ngl, q_ngr, q_ng0, q_ngz, q_ngn, q_ngp, q_nlt]
    rw [T_placeOf (σ := k_sA (k_sf σ 7 (nI G)) 14 _) rfl hG (show g < 5 by omega)]
    simp only [s_sA2, Nat.reduceEqDiff, reduceIte, qPlace_set hg]
    refine ⟨if y = nI 0 then σ.2 10 g else if y = nI 1 then nI (qPlace G (qRow σ) g) else if y = nI 2 then nI (pNd (fun o => (qRow σ o).toNatClampNeg) g G 0 1) else k_ng 2, k_sA (k_sf σ 7 (nI G)) 14 (pSet (qRow σ) (σ.2 14) 0 G), k_sA τ 14 (pSet (qRow σ) (τ.2 14) 0 G), ?_, ?_, h.keep (kT.talls _) (kM.tall _)⟩
    · simp only [q_ob, ← nI_0]
      repeat' split
      all_goals rfl
    · simp only [q_ob, ← nI_0, a10]
      repeat' split
      all_goals rfl
  · have hx' := q_out (by omega) hx
    rw [T_hasGuest_out g1 hx', M_isGuest_out g2 hx']
    exact ⟨k_ng 1, σ, τ, rfl, rfl, h⟩
theorem pBi_congr {v w : qA} {t : Int32} : ∀ (d o acc : Nat), (∀ j, o ≤ j → j < o + d → v j = w j) → pBi v t d o acc = pBi w t d o acc
  | 0, _, _, _ => rfl
  | d + 1, o, acc, h => by
    unfold pBi
    rw [h o (Nat.le_refl o) (by omega)]
    exact pBi_congr d (o + 1) _ (fun j h1 h2 => h j (by omega) (by omega))
theorem pu_bishop {σ τ : k_S} (h : RR σ τ) (x : Int32) : qOk (fX6_bishop σ x) (fX7_bishop τ x) := by
  obtain ⟨⟨G, N, m, K, hH⟩, hS, h0, h1⟩ := id h
  have hH' := hH
  obtain ⟨⟨g1, g2⟩, ⟨n1, n2⟩, ⟨m1, m2⟩, ⟨k1, k2⟩, ⟨hG, hN, hm, hK, hz⟩, ⟨a5, a6, a7, a8, a9, a10⟩, ht, hc, hnn, hzz, hl, hh⟩ := hH
  unfold fX6_bishop fX7_bishop
  rw [M_within, q_ob]
  by_cases hx : x < nI 0 ∨ nI 999 < x
  · rw [if_pos hx, if_pos (show nI 0 = (0 : Int32) from rfl)]
    refine ⟨k_ng 2, σ, τ, ?_, rfl, h⟩
    by_cases hx0 : x < 0
    · rw [if_pos hx0]
    · rw [if_neg hx0, if_pos (hx.resolve_left hx0)]
  · obtain ⟨v, hv, rfl⟩ := q_pass (by decide) hx
    rw [if_neg hx, if_neg q_n1]
    rw [if_neg (by simp (disch := omega) only [q_bn, q_ob, q_z0, q_z1, q_gd, q_cl, q_add, q_mul, q_lt, q_eq, q_eq0, q_lt0, q_0lt, q_ngl, q_ngr, q_ng0, q_ngz, q_ngn, q_ngp, q_nlt]; exact not_false), if_neg (by simp (disch := omega) only [q_bn, q_ob, q_z0, q_z1, q_gd, q_cl, q_add, q_mul, q_lt, q_eq, q_eq0, q_lt0, q_0lt, q_ngl, q_ngr, q_ng0, q_ngz, q_ngn, q_ngp, q_nlt]; omega)]
    rw [T_isOpen g1 hG, q_ob, g2]
    by_cases hG0 : G = 0
    · rw [if_pos hG0, if_pos (show nI 0 = (0 : Int32) from rfl), if_pos (by rw [hG0]; rfl)]
      exact ⟨k_ng 3, σ, τ, rfl, rfl, h⟩
    · rw [if_neg hG0, if_neg q_n1, if_neg (by simp (disch := omega) only [q_bn, q_ob, q_z0, q_z1, q_gd, q_cl, q_add, q_mul, q_lt, q_eq, q_eq0, q_lt0, q_0lt, q_ngl, q_ngr, q_ng0, q_ngz, q_ngn, q_ngp, q_nlt]; omega), hH'.talls.1, hH'.talls.2, q_ob, q_ob]
      rw [T_noLess (σ := k_sA (k_sf σ 7 (nI G)) 14 _) rfl hG, q_ob]
      simp (disch := omega) only [q_bn, q_ob, q_z0, q_z1, q_gd, q_cl, q_add, q_mul, q_lt, q_eq, q_eq0, q_lt0, q_0lt, q_ngl, q_ngr, q_ng0, q_ngz, q_ngn, q_ngp, q_nlt]
      rw [M_bishop_loop (τ := k_sA τ 14 _) g2 hG (fun o ho => by
        show (0 < pSet (qRow σ) (τ.2 14) 0 G o) = ¬ τ.2 11 o = k_ng 9
        rw [pSet_in (Nat.zero_le o) ho, ← a10]
        rcases hH'.rowN ho with ⟨q1, q2⟩ | ⟨q1, t, q2, q3, q4⟩
        · rw [q1, q2]
          exact propext ⟨fun q => absurd q (by decide), fun q => absurd rfl q⟩
        · rw [q4]
          exact propext ⟨fun _ => q1, fun _ => by simp (disch := omega) only [q_bn, q_ob, q_z0, q_z1, q_gd, q_cl, q_add, q_mul, q_lt, q_eq, q_eq0, q_lt0, q_0lt, q_ngl, q_ngr, q_ng0, q_ngz, q_ngn, q_ngp, q_nlt]; omega⟩) (nI v) G 0 0 k_F (by omega) (q_kF (by omega))]
      have e : pBi (pSet (qRow σ) (σ.2 14) 0 G) (nI v) G 0 0 = pBi (pSet (qRow σ) (τ.2 14) 0 G) (nI v) G 0 0 := pBi_congr G 0 0 (fun j _ h2 => by rw [pSet_in (Nat.zero_le j) (by omega), pSet_in (Nat.zero_le j) (by omega)])
      show qOk (some (nI (pBi (pSet (qRow σ) (σ.2 14) 0 G) (nI v) G 0 0), _)) (some (nI (pBi (pSet (qRow σ) (τ.2 14) 0 G) (nI v) G 0 0), _))
      rw [e]
      exact ⟨_, _, _, rfl, rfl, h.keep (kT.talls _) (kM.tall _)⟩
-- ---- parts
theorem s_sfsf (σ : k_S) (k : Nat) (a b : Int32) : k_sf (k_sf σ k a) k b = k_sf σ k b := by
  unfold k_sf k_up
  refine Prod.ext (funext fun j => ?_) rfl
  by_cases hj : j = k <;> simp [hj]
theorem T_leave (σ : k_S) (b : Int32) : fX6_leaveTrace σ b = some ((), k_sf σ 0 (nI 31 * σ.1 0 + b)) := rfl
theorem M_begins (τ : k_S) (b : Int32) : fX7_begins τ b = some ((), k_sf τ 1 (nI 31 * τ.1 1 + b)) := rfl
theorem pu_tell {σ τ : k_S} (h : RR σ τ) (x : Int32) : qOk (fX6_tell σ x) (fX7_tell τ x) := by
  obtain ⟨⟨G, N, m, K, hH⟩, hS, h0, h1⟩ := id h
  obtain ⟨⟨g1, g2⟩, ⟨n1, n2⟩, ⟨m1, m2⟩, ⟨k1, k2⟩, ⟨hG, hN, hm, hK, hz⟩, ⟨a5, a6, a7, a8, a9, a10⟩, ht, hc, hnn, hzz, hl, hh⟩ := hH
  unfold fX6_tell fX7_tell
  rcases q_ix x (n := N) (by omega) with ⟨j, hj, rfl⟩ | hx
  · rw [T_hasTale_in n1 hN hj, M_isTale_in n2 hN hj, q_ob, q_ob, if_neg q_n1, if_neg q_n1]
    obtain ⟨hk, -, hb, h2, h3, h4⟩ := ht j hj
    unfold fX6_tellAsTrue fX6_tellAsGrown fX6_tellAsTale
    simp (disch := omega) only [q_bn, q_ob, q_z0, q_z1, q_gd, q_cl, q_add, q_mul, q_lt, q_eq, q_eq0, q_lt0, q_0lt, q_ngl, q_ngr, q_ng0, q_ngz, q_ngn, q_ngp, q_nlt, T_leave, M_begins, s_sf2, ← a5, ← a7]
    rw [h4]
    simp only [s_sf1, if_true, s_sfsf, h0]
    rcases hk with hk | hk | hk
    · rw [hk]
      simp (disch := omega) only [q_bn, q_ob, q_z0, q_z1, q_gd, q_cl, q_add, q_mul, q_lt, q_eq, q_eq0, q_lt0, q_0lt, q_ngl, q_ngr, q_ng0, q_ngz, q_ngn, q_ngp, q_nlt, if_false]
      exact ⟨nI hb, _, _, rfl, rfl, h.trace _⟩
    · rw [hk]
      simp (disch := omega) only [q_bn, q_ob, q_z0, q_z1, q_gd, q_cl, q_add, q_mul, q_lt, q_eq, q_eq0, q_lt0, q_0lt, q_ngl, q_ngr, q_ng0, q_ngz, q_ngn, q_ngp, q_nlt, if_true]
      exact ⟨_, _, _, rfl, rfl, h.trace _⟩
    · rw [hk]
      simp (disch := omega) only [q_bn, q_ob, q_z0, q_z1, q_gd, q_cl, q_add, q_mul, q_lt, q_eq, q_eq0, q_lt0, q_0lt, q_ngl, q_ngr, q_ng0, q_ngz, q_ngn, q_ngp, q_nlt, if_true, if_false]
      refine ⟨nI (hb + 100 + hb), _, _, rfl, ?_, h.trace _⟩
      rw [show 2 * hb + 100 = hb + 100 + hb by omega]
      rfl
  · have hx' := q_out (by omega) hx
    rw [T_hasTale_out n1 hx', M_isTale_out n2 hx']
    exact ⟨k_ng 1, σ, τ, rfl, rfl, h⟩
theorem pu_swear {σ τ : k_S} (h : RR σ τ) (x : Int32) : qOk (fX6_swear σ x) (fX7_swear τ x) := by
  obtain ⟨⟨G, N, m, K, hH⟩, hS, h0, h1⟩ := id h
  obtain ⟨⟨g1, g2⟩, ⟨n1, n2⟩, ⟨m1, m2⟩, ⟨k1, k2⟩, ⟨hG, hN, hm, hK, hz⟩, ⟨a5, a6, a7, a8, a9, a10⟩, ht, hc, hnn, hzz, hl, hh⟩ := hH
  unfold fX6_swear fX7_swear
  rcases q_ix x (n := N) (by omega) with ⟨j, hj, rfl⟩ | hx
  · rw [T_hasTale_in n1 hN hj, M_isTale_in n2 hN hj, q_ob, q_ob, if_neg q_n1, if_neg q_n1]
    unfold fX7_swear_c26
    simp (disch := omega) only [q_bn, q_ob, q_z0, q_z1, q_gd, q_cl, q_add, q_mul, q_lt, q_eq, q_eq0, q_lt0, q_0lt, q_ngl, q_ngr, q_ng0, q_ngz, q_ngn, q_ngp, q_nlt, T_leave, M_begins, s_sf2, ← a5]
    rw [h0]
    by_cases hk : σ.2 5 j = nI 2
    · rw [if_pos hk, if_pos hk, if_pos hk]
      exact ⟨_, _, _, rfl, rfl, h.trace _⟩
    · rw [if_neg hk, if_neg hk, if_neg hk]
      exact ⟨_, _, _, rfl, rfl, h.trace _⟩
  · have hx' := q_out (by omega) hx
    rw [T_hasTale_out n1 hx', M_isTale_out n2 hx']
    exact ⟨k_ng 1, σ, τ, rfl, rfl, h⟩
theorem T_faulty (σ : k_S) (f : Int32) : fX6_faulty σ f = some (k_ng 10 - f, k_sf σ 1 f) := rfl
theorem M_fails (τ : k_S) (f : Int32) : fX7_fails τ f = some (k_ng 10 - f, k_sf τ 0 f) := rfl
theorem pu_as {σ τ : k_S} (h : RR σ τ) (x y : Int32) : qOk (fX6_as σ x y) (fX7_as τ x y) := by
  have hf := h.fault (nI 0)
  unfold fX6_as fX7_as
  rw [q_bn, q_bn]
  generalize hσ : k_sf σ 1 (nI 0) = σ1 at hf ⊢
  generalize hτ : k_sf τ 0 (nI 0) = τ1 at hf ⊢
  obtain ⟨⟨G, N, m, K, hH⟩, hS, h0, h1⟩ := id hf
  obtain ⟨⟨g1, g2⟩, ⟨n1, n2⟩, ⟨m1, m2⟩, ⟨k1, k2⟩, ⟨hG, hN, hm, hK, hz⟩, ⟨a5, a6, a7, a8, a9, a10⟩, ht, hc, hnn, hzz, hl, hh⟩ := hH
  rcases q_ix x (n := N) (by omega) with ⟨j, hj, rfl⟩ | hx
  · rw [T_hasTale_in n1 hN hj, M_isTale_in n2 hN hj, q_ob, q_ob, if_neg q_n1, if_neg q_n1, M_within, q_ob]
    by_cases hy : y < nI 0 ∨ nI 2 < y
    · rw [if_pos hy, if_pos (show nI 0 = (0 : Int32) from rfl)]
      refine ⟨k_ng 2, σ1, τ1, ?_, rfl, hf⟩
      by_cases hx0 : y < 0
      · rw [if_pos hx0]
      · rw [if_neg hx0, if_pos (hy.resolve_left hx0)]
    · rw [if_neg hy, if_neg q_n1, if_neg (show ¬ y < 0 from fun q => hy (.inl q)), if_neg (fun q => hy (.inr q))]
      simp (disch := omega) only [q_bn, q_ob, q_z0, q_z1, q_gd, q_cl, q_add, q_mul, q_lt, q_eq, q_eq0, q_lt0, q_0lt, q_ngl, q_ngr, q_ng0, q_ngz, q_ngn, q_ngp, q_nlt, T_faulty, M_fails, ← a5]
      by_cases hk : σ1.2 5 j < y
      · rw [if_pos hk, if_pos hk]
        exact ⟨_, _, _, rfl, rfl, hf.fault _⟩
      · rw [if_neg hk, if_neg hk]
        exact ⟨_, _, _, rfl, rfl, hf⟩
  · have hx' := q_out (by omega) hx
    rw [T_hasTale_out n1 hx', M_isTale_out n2 hx']
    exact ⟨k_ng 1, σ1, τ1, rfl, rfl, hf⟩
-- ---- a night goes by
def qBeat (w : qA) (g o : Nat) : Prop := o ≠ g ∧ (w g < w o ∨ (w o = w g ∧ o < g))
theorem pPl_zero (w : qA) (g : Nat) : ∀ (d o acc : Nat), pPl w g (w g) d o acc = 0 ↔ acc = 0 ∧ ∀ j, o ≤ j → j < o + d → ¬ qBeat w g j
  | 0, o, acc => ⟨fun h => ⟨h, fun j h1 h2 => by omega⟩, fun h => h.1⟩
  | d + 1, o, acc => by
    unfold pPl
    rw [pPl_zero w g d (o + 1)]
    have key : ((if o = g then acc else if w g < w o then acc + 1 else if w o = w g then if o < g then acc + 1 else acc else acc) = 0) ↔ (acc = 0 ∧ ¬ qBeat w g o) := by
      unfold qBeat
      by_cases h1 : o = g
      · simp [h1]
      · by_cases h2 : w g < w o
        · simp [h1, h2]
        · by_cases h3 : w o = w g
          · by_cases h4 : o < g <;> simp [h1, h2, h3, h4, q_nlt]
          · simp [h1, h2, h3]
    rw [key]
    constructor
    · rintro ⟨⟨h1, h2⟩, h3⟩
      refine ⟨h1, fun j h4 h5 => ?_⟩
      by_cases hj : j = o
      · rw [hj]; exact h2
      · exact h3 j (by omega) (by omega)
    · rintro ⟨h1, h2⟩
      exact ⟨⟨h1, h2 o (Nat.le_refl o) (by omega)⟩, fun j h4 h5 => h2 j (by omega) (by omega)⟩
theorem bed_exists (w : qA) : ∀ n, 1 ≤ n → ∃ g, g < n ∧ ∀ j, j < n → ¬ qBeat w g j := by
  intro n
  induction n with
  | zero => intro h; omega
  | succ n ih =>
    intro _
    by_cases hn : n = 0
    · subst hn
      exact ⟨0, by omega, fun j hj hb => hb.1 (by omega)⟩
    · obtain ⟨g, hg, hb⟩ := ih (by omega)
      by_cases hnb : qBeat w g n
      · refine ⟨n, by omega, fun j hj hb2 => ?_⟩
        by_cases hjn : j = n
        · exact hb2.1 hjn
        · have := hb j (by omega)
          by_cases hjg : j = g
          · subst hjg
            unfold qBeat at hnb hb2
            simp only [Int32.lt_iff_toInt_lt, ← Int32.toInt_inj] at hnb hb2
            omega
          · unfold qBeat at hnb hb2 this
            simp only [Int32.lt_iff_toInt_lt, ← Int32.toInt_inj] at hnb hb2 this
            omega
      · refine ⟨g, by omega, fun j hj => ?_⟩
        by_cases hjn : j = n
        · rw [hjn]; exact hnb
        · exact hb j (by omega)
theorem bed_one (w : qA) {G : Nat} (hG : G ≠ 0) : ∃ g0, g0 < G ∧ ∀ g, g < G → (qPlace G w g = 0 ↔ g = g0) := by
  obtain ⟨g0, h1, h2⟩ := bed_exists w G (by omega)
  refine ⟨g0, h1, fun g hg => ?_⟩
  unfold qPlace
  rw [pPl_zero]
  constructor
  · rintro ⟨-, h3⟩
    by_cases e : g = g0
    · exact e
    · have a := h3 g0 (Nat.zero_le _) (by omega)
      have b := h2 g hg
      exfalso
      unfold qBeat at a b
      simp only [Int32.lt_iff_toInt_lt, ← Int32.toInt_inj] at a b
      omega
  · rintro rfl
    exact ⟨rfl, fun j _ h4 => h2 j (by omega)⟩
def pBd (p : Nat → Nat) : Nat → Nat → Int32 → Int32
  | 0, _, acc => acc
  | d + 1, g, acc => pBd p d (g + 1) (if p g = 0 then nI g else acc)
theorem pBd_eq {p : Nat → Nat} {G g0 : Nat} (hp : ∀ g, g < G → (p g = 0 ↔ g = g0)) : ∀ (d g : Nat) (acc : Int32), g + d = G → pBd p d g acc = if g ≤ g0 ∧ g0 < G then nI g0 else acc
  | 0, g, acc, h => by rw [if_neg (by omega)]; rfl
  | d + 1, g, acc, h => by
    unfold pBd
    rw [pBd_eq hp d (g + 1) _ (by omega)]
    by_cases e : g = g0
    · rw [if_pos ((hp g (by omega)).mpr e)]
      rw [if_neg (by omega), if_pos (by omega), e]
    · rw [if_neg (fun q => e ((hp g (by omega)).mp q))]
      by_cases h2 : g ≤ g0 ∧ g0 < G
      · rw [if_pos (by omega), if_pos h2]
      · rw [if_neg (by omega), if_neg h2]
def s3 (σ : k_S) (a c b : qA) : k_S := k_sA (k_sA (k_sA σ 11 a) 13 c) 12 b
theorem s3_step (σ : k_S) (a c b a' c' b' : qA) : k_sA (k_sA (k_sA (s3 σ a c b) 11 a') 13 c') 12 b' = s3 σ a' c' b' := by
  unfold s3 k_sA k_up
  refine Prod.ext rfl ?_
  funext j
  by_cases h1 : j = 12
  · simp [h1]
  · by_cases h2 : j = 13
    · simp [h2]
    · by_cases h3 : j = 11 <;> simp [h1, h2, h3]
theorem T_goBy_lay {σ : k_S} {G K : Nat} (hG : σ.1 3 = nI G) (hG7 : σ.1 7 = nI G) (hG5 : G ≤ 5) (hK : σ.1 6 = nI K) (hK60 : K < 60) : ∀ (d g f : Nat) (a c b : qA) (bed : Int32), g + d = G → d < f → fX0_goBy_c5 f (s3 σ a c b) bed (nI g) = fX0_goBy_c87 k_F (s3 σ (pSet (fun j => σ.2 10 (j - 5 * K)) a (5 * K + g) (5 * K + G)) (pSet (fun j => σ.2 14 (j - 5 * K)) c (5 * K + g) (5 * K + G)) (pSet (fun j => nI (qPlace G (σ.2 14) (j - 5 * K))) b (5 * K + g) (5 * K + G))) (pBd (qPlace G (σ.2 14)) d g bed) (nI 0) := by
  intro d
  induction d with
  | zero =>
    intro g f a c b bed h1 h2
    obtain ⟨f, rfl⟩ := q_fu 0 h2
    rw [fX0_goBy_c5_s, show (s3 σ a c b).1 3 = nI G from hG, if_neg (by simp (disch := omega) only [q_bn, q_ob, q_z0, q_z1, q_gd, q_cl, q_add, q_mul, q_lt, q_eq, q_eq0, q_lt0, q_0lt, q_ngl, q_ngr, q_ng0, q_ngz, q_ngn, q_ngp, q_nlt]; omega), pSet_no _ _ (by omega), pSet_no _ _ (by omega), pSet_no _ _ (by omega)]
    rfl
  | succ d ih =>
    intro g f a c b bed h1 h2
    obtain ⟨f, rfl⟩ := q_fu (d + 1) h2
    rw [fX0_goBy_c5_s, show (s3 σ a c b).1 3 = nI G from hG, if_pos (by simp (disch := omega) only [q_bn, q_ob, q_z0, q_z1, q_gd, q_cl, q_add, q_mul, q_lt, q_eq, q_eq0, q_lt0, q_0lt, q_ngl, q_ngr, q_ng0, q_ngz, q_ngn, q_ngp, q_nlt]; omega), show (s3 σ a c b).1 6 = nI K from hK]
    unfold fX0_goBy_c79
    simp (disch := omega) only [q_bn, q_ob, q_z0, q_z1, q_gd, q_cl, q_add, q_mul, q_lt, q_eq, q_eq0, q_lt0, q_0lt, q_ngl, q_ngr, q_ng0, q_ngz, q_ngn, q_ngp, q_nlt]
    rw [show K * 5 + g = 5 * K + g by omega]
    rw [show (s3 σ a c b).2 10 g = σ.2 10 g from rfl]
    have e1 : (k_sa (s3 σ a c b) 11 (nI (5 * K + g)) (σ.2 10 g)) = k_sA (s3 σ a c b) 11 (upd a (5 * K + g) (σ.2 10 g)) := by
      rw [s_sa, q_cl (by omega)]; rfl
    rw [e1]
    have e2 : (k_sa (k_sA (s3 σ a c b) 11 (upd a (5 * K + g) (σ.2 10 g))) 13 (nI (5 * K + g)) ((k_sA (s3 σ a c b) 11 (upd a (5 * K + g) (σ.2 10 g))).2 14 g)) = k_sA (k_sA (s3 σ a c b) 11 (upd a (5 * K + g) (σ.2 10 g))) 13 (upd c (5 * K + g) (σ.2 14 g)) := by
      rw [s_sa, q_cl (by omega)]; rfl
    rw [e2]
    rw [T_placeOf (σ := k_sA (k_sA (s3 σ a c b) 11 (upd a (5 * K + g) (σ.2 10 g))) 13 (upd c (5 * K + g) (σ.2 14 g))) hG7 hG5 (show g < 5 by omega), q_ob]
    have e3 : pPl ((k_sA (k_sA (s3 σ a c b) 11 (upd a (5 * K + g) (σ.2 10 g))) 13 (upd c (5 * K + g) (σ.2 14 g))).2 14) g ((k_sA (k_sA (s3 σ a c b) 11 (upd a (5 * K + g) (σ.2 10 g))) 13 (upd c (5 * K + g) (σ.2 14 g))).2 14 g) G 0 0 = qPlace G (σ.2 14) g := rfl
    rw [e3]
    have e4 : k_sa (k_sA (k_sA (s3 σ a c b) 11 (upd a (5 * K + g) (σ.2 10 g))) 13 (upd c (5 * K + g) (σ.2 14 g))) 12 (nI (5 * K + g)) (nI (qPlace G (σ.2 14) g)) = s3 σ (upd a (5 * K + g) (σ.2 10 g)) (upd c (5 * K + g) (σ.2 14 g)) (upd b (5 * K + g) (nI (qPlace G (σ.2 14) g))) := by
      rw [s_sa, q_cl (by omega)]
      exact s3_step σ a c b _ _ _
    rw [e4]
    have e5 : (s3 σ (upd a (5 * K + g) (σ.2 10 g)) (upd c (5 * K + g) (σ.2 14 g)) (upd b (5 * K + g) (nI (qPlace G (σ.2 14) g)))).2 12 (5 * K + g) = nI (qPlace G (σ.2 14) g) := pk_us
    have hle : qPlace G (σ.2 14) g ≤ 5 := by
      have := pPl_le (σ.2 14) g (σ.2 14 g) G 0 0
      unfold qPlace
      omega
    rw [e5]
    have st : ∀ (fn : qA) (old : qA) (v : Int32), v = fn (5 * K + g) → pSet fn (upd old (5 * K + g) v) (5 * K + (g + 1)) (5 * K + G) = pSet fn old (5 * K + g) (5 * K + G) := by
      intro fn old v hv
      rw [hv]
      exact pSet_step fn old (show 5 * K + g < 5 * K + G by omega)
    have hsub : 5 * K + g - 5 * K = g := by omega
    have fin : ∀ bd : Int32, fX0_goBy_c5 f (s3 σ (upd a (5 * K + g) (σ.2 10 g)) (upd c (5 * K + g) (σ.2 14 g)) (upd b (5 * K + g) (nI (qPlace G (σ.2 14) g)))) bd (nI (g + 1)) = fX0_goBy_c87 k_F (s3 σ (pSet (fun j => σ.2 10 (j - 5 * K)) a (5 * K + g) (5 * K + G)) (pSet (fun j => σ.2 14 (j - 5 * K)) c (5 * K + g) (5 * K + G)) (pSet (fun j => nI (qPlace G (σ.2 14) (j - 5 * K))) b (5 * K + g) (5 * K + G))) (pBd (qPlace G (σ.2 14)) d (g + 1) bd) (nI 0) := by
      intro bd
      rw [ih (g + 1) f _ _ _ bd (by omega) (by omega)]
      rw [st (fun j => σ.2 10 (j - 5 * K)) a _ (by show _ = σ.2 10 (5 * K + g - 5 * K); rw [hsub]), st (fun j => σ.2 14 (j - 5 * K)) c _ (by show _ = σ.2 14 (5 * K + g - 5 * K); rw [hsub]), st (fun j => nI (qPlace G (σ.2 14) (j - 5 * K))) b _ (by show _ = nI (qPlace G (σ.2 14) (5 * K + g - 5 * K)); rw [hsub])]
    unfold pBd
    by_cases hq : qPlace G (σ.2 14) g = 0
    · rw [if_pos (show nI (qPlace G (σ.2 14) g) = 0 by rw [hq]; rfl), if_pos hq]
      exact fin (nI g)
    · rw [if_neg (show ¬ nI (qPlace G (σ.2 14) g) = 0 by rw [q_eq0 (by omega)]; exact hq), if_neg hq]
      exact fin bed
theorem M_inBed {τ : k_S} {G g0 : Nat} (hG : τ.1 2 = nI G) (hG5 : G ≤ 5) (hg0 : g0 < G) (hp : ∀ g, g < G → (qPlace G (τ.2 14) g = 0 ↔ g = g0)) : fX7_inBed τ = some (nI g0, τ) := by
  have key : ∀ (d g f : Nat), g + d = g0 → d < f → fX7_inBed_c2 f τ (nI g) = some (nI g0, τ) := by
    intro d
    induction d with
    | zero =>
      intro g f h1 h2
      obtain ⟨f, rfl⟩ := q_fu 0 h2
      have e : g = g0 := by omega
      rw [fX7_inBed_c2_s, M_placeOf hG hG5 (by omega), q_ob]
      rw [show pPl (τ.2 14) g (τ.2 14 g) G 0 0 = 0 from (hp g (by omega)).mpr e, e]
      rfl
    | succ d ih =>
      intro g f h1 h2
      obtain ⟨f, rfl⟩ := q_fu (d + 1) h2
      have e : ¬ pPl (τ.2 14) g (τ.2 14 g) G 0 0 = 0 := fun q => by
        have := (hp g (by omega)).mp q
        omega
      have hle := pPl_le (τ.2 14) g (τ.2 14 g) G 0 0
      rw [fX7_inBed_c2_s, M_placeOf hG hG5 (by omega), q_ob]
      rw [if_neg (by rw [q_eq0 (by omega)]; exact e), q_bn, nI_add]
      exact ih (g + 1) f (by omega) (by omega)
  unfold fX7_inBed
  simp (disch := omega) only [q_bn, q_ob, q_z0, q_z1, q_gd, q_cl, q_add, q_mul, q_lt, q_eq, q_eq0, q_lt0, q_0lt, q_ngl, q_ngr, q_ng0, q_ngz, q_ngn, q_ngp, q_nlt]
  exact key g0 0 k_F (by omega) (q_kF (by omega))
theorem M_night_lay {τ : k_S} {G K : Nat} (hG : τ.1 2 = nI G) (hG5 : G ≤ 5) (hK : τ.1 8 = nI K) (hK60 : K < 60) (Z : Option (Int32 × k_S)) : ∀ (d g f : Nat) (a b : qA), g + d = 5 → d < f → (Z = k_ob (fX7_inBed (k_sA (k_sA τ 9 (pSet (fun j => if j - 5 * K < G then τ.2 11 (j - 5 * K) else k_ng 9) a (5 * K + g) (5 * K + 5))) 10 (pSet (fun j => if j - 5 * K < G then τ.2 14 (j - 5 * K) else nI 0) b (5 * K + g) (5 * K + 5)))) fun r1 σ2 => k_bn r1 fun v3 => k_bn (k_sf σ2 8 (σ2.1 8 + nI 1)) fun σ4 => k_ob (fX7_countTold σ4) fun r5 σ6 => k_ob (fX7_chooseNone σ6) fun r7 σ8 => some (v3, σ8)) → fX7_night_c28 f (k_sA (k_sA τ 9 a) 10 b) (nI g) = Z := by
  intro d
  induction d with
  | zero =>
    intro g f a b h1 h2 hZ
    obtain ⟨f, rfl⟩ := q_fu 0 h2
    rw [fX7_night_c28_s, if_neg (by simp (disch := omega) only [q_bn, q_ob, q_z0, q_z1, q_gd, q_cl, q_add, q_mul, q_lt, q_eq, q_eq0, q_lt0, q_0lt, q_ngl, q_ngr, q_ng0, q_ngz, q_ngn, q_ngp, q_nlt]; omega)]
    rw [hZ, pSet_no _ _ (by omega), pSet_no _ _ (by omega)]
  | succ d ih =>
    intro g f a b h1 h2 hZ
    obtain ⟨f, rfl⟩ := q_fu (d + 1) h2
    rw [fX7_night_c28_s, if_pos (by simp (disch := omega) only [q_bn, q_ob, q_z0, q_z1, q_gd, q_cl, q_add, q_mul, q_lt, q_eq, q_eq0, q_lt0, q_0lt, q_ngl, q_ngr, q_ng0, q_ngz, q_ngn, q_ngp, q_nlt]; omega)]
    have hsub : 5 * K + g - 5 * K = g := by omega
    have st : ∀ (fn : qA) (old : qA) (v : Int32), v = fn (5 * K + g) → pSet fn (upd old (5 * K + g) v) (5 * K + (g + 1)) (5 * K + 5) = pSet fn old (5 * K + g) (5 * K + 5) := by
      intro fn old v hv
      rw [hv]
      exact pSet_step fn old (show 5 * K + g < 5 * K + 5 by omega)
    have fin : ∀ va vb : Int32, va = (if g < G then τ.2 11 g else k_ng 9) → vb = (if g < G then τ.2 14 g else nI 0) → fX7_night_c28 f (k_sA (k_sA τ 9 (upd a (5 * K + g) va)) 10 (upd b (5 * K + g) vb)) (nI (g + 1)) = Z := by
      intro va vb hva hvb
      refine ih (g + 1) f _ _ (by omega) (by omega) ?_
      rw [st (fun j => if j - 5 * K < G then τ.2 11 (j - 5 * K) else k_ng 9) a va (by show va = if 5 * K + g - 5 * K < G then _ else _; rw [hsub]; exact hva), st (fun j => if j - 5 * K < G then τ.2 14 (j - 5 * K) else nI 0) b vb (by show vb = if 5 * K + g - 5 * K < G then _ else _; rw [hsub]; exact hvb)]
      exact hZ
    have e9 : ∀ v : Int32, k_sa (k_sA (k_sA τ 9 a) 10 b) 9 (nI (5 * K + g)) v = k_sA (k_sA (k_sA τ 9 a) 10 b) 9 (upd a (5 * K + g) v) := by
      intro v
      rw [s_sa, q_cl (by omega)]; rfl
    have e10 : ∀ va vb : Int32, k_sa (k_sA (k_sA (k_sA τ 9 a) 10 b) 9 (upd a (5 * K + g) va)) 10 (nI (5 * K + g)) vb = k_sA (k_sA τ 9 (upd a (5 * K + g) va)) 10 (upd b (5 * K + g) vb) := by
      intro va vb
      rw [s_sa, q_cl (by omega)]
      unfold k_sA k_up
      refine Prod.ext rfl ?_
      funext j
      by_cases h1 : j = 10
      · simp [h1]
      · by_cases h2 : j = 9 <;> simp [h1, h2]
    have eG : (k_sA (k_sA τ 9 a) 10 b).1 2 = nI G := hG
    have eG2 : ∀ x, (k_sA (k_sA (k_sA τ 9 a) 10 b) 9 x).1 2 = nI G := fun _ => hG
    have eK : (k_sA (k_sA τ 9 a) 10 b).1 8 = nI K := hK
    have eK2 : ∀ x, (k_sA (k_sA (k_sA τ 9 a) 10 b) 9 x).1 8 = nI K := fun _ => hK
    unfold fX7_night_c64 fX7_night_c95
    by_cases hg : g < G
    · simp (disch := omega) only [q_bn, q_ob, q_z0, q_z1, q_gd, q_cl, q_add, q_mul, q_lt, q_eq, q_eq0, q_lt0, q_0lt, q_ngl, q_ngr, q_ng0, q_ngz, q_ngn, q_ngp, q_nlt, eG, eK, hg, if_true, e9, e10, eG2, eK2]
      exact fin _ _ (by rw [if_pos hg]; rfl) (by rw [if_pos hg]; rfl)
    · simp (disch := omega) only [q_bn, q_ob, q_z0, q_z1, q_gd, q_cl, q_add, q_mul, q_lt, q_eq, q_eq0, q_lt0, q_0lt, q_ngl, q_ngr, q_ng0, q_ngz, q_ngn, q_ngp, q_nlt, eG, eK, hg, if_false, e9, e10, eG2, eK2]
      exact fin _ _ (by rw [if_neg hg]) (by rw [if_neg hg])
theorem pu_night {σ τ : k_S} (h : RR σ τ) : qOk (fX6_night σ) (fX7_night τ) := by
  obtain ⟨⟨G, N, m, K, hH⟩, hS, h0, h1⟩ := id h
  have hH' := hH
  obtain ⟨⟨g1, g2⟩, ⟨n1, n2⟩, ⟨m1, m2⟩, ⟨k1, k2⟩, ⟨hG, hN, hm, hK, hz⟩, ⟨a5, a6, a7, a8, a9, a10⟩, ht, hc, hnn, hzz, hl, hh⟩ := hH
  unfold fX6_night fX7_night
  rw [T_isOpen g1 hG, q_ob, g2]
  by_cases hG0 : G = 0
  · rw [if_pos hG0, if_pos (show nI 0 = (0 : Int32) from rfl), if_pos (by rw [hG0]; rfl)]
    exact ⟨k_ng 3, σ, τ, rfl, rfl, h⟩
  rw [if_neg hG0, if_neg q_n1, k1, k2, if_neg (show ¬ nI G = 0 by rw [q_eq0 (by omega)]; exact hG0)]
  by_cases hK0 : K = 60
  · rw [if_neg (by simp (disch := omega) only [q_bn, q_ob, q_z0, q_z1, q_gd, q_cl, q_add, q_mul, q_lt, q_eq, q_eq0, q_lt0, q_0lt, q_ngl, q_ngr, q_ng0, q_ngz, q_ngn, q_ngp, q_nlt]; omega), if_pos (by rw [hK0])]
    exact ⟨k_ng 4, σ, τ, rfl, rfl, h⟩
  rw [if_pos (by simp (disch := omega) only [q_bn, q_ob, q_z0, q_z1, q_gd, q_cl, q_add, q_mul, q_lt, q_eq, q_eq0, q_lt0, q_0lt, q_ngl, q_ngr, q_ng0, q_ngz, q_ngn, q_ngp, q_nlt]; omega), if_neg (by simp (disch := omega) only [q_bn, q_ob, q_z0, q_z1, q_gd, q_cl, q_add, q_mul, q_lt, q_eq, q_eq0, q_lt0, q_0lt, q_ngl, q_ngr, q_ng0, q_ngz, q_ngn, q_ngp, q_nlt]; omega), hH'.talls.1, hH'.talls.2, q_ob, q_ob, q_bn]
  let σ1 : k_S := k_sA (k_sf σ 7 (nI G)) 14 (pSet (qRow σ) (σ.2 14) 0 G)
  let τ1 : k_S := k_sA τ 14 (pSet (qRow σ) (τ.2 14) 0 G)
  have hr1 : ∀ j, j < G → σ1.2 14 j = qRow σ j := fun j hj => pSet_in (Nat.zero_le j) hj
  have hr2 : ∀ j, j < G → τ1.2 14 j = qRow σ j := fun j hj => pSet_in (Nat.zero_le j) hj
  obtain ⟨g0, hg0, hbed⟩ := bed_one (qRow σ) hG0
  have hb1 : ∀ g, g < G → (qPlace G (σ1.2 14) g = 0 ↔ g = g0) := fun g hg => by rw [qPlace_congr hg hr1]; exact hbed g hg
  have hb2 : ∀ g, g < G → (qPlace G (τ1.2 14) g = 0 ↔ g = g0) := fun g hg => by rw [qPlace_congr hg hr2]; exact hbed g hg
  -- the class
  let A := pSet (fun j => σ1.2 10 (j - 5 * K)) (σ1.2 11) (5 * K + 0) (5 * K + G)
  let C := pSet (fun j => σ1.2 14 (j - 5 * K)) (σ1.2 13) (5 * K + 0) (5 * K + G)
  let B := pSet (fun j => nI (qPlace G (σ1.2 14) (j - 5 * K))) (σ1.2 12) (5 * K + 0) (5 * K + G)
  let σ2 : k_S := s3 σ1 A C B
  have hA : ∀ j, j < G → A (5 * K + j) = σ.2 10 j := fun j hj => by
    show pSet _ _ _ _ _ = _
    rw [pSet_in (by omega) (by omega), show 5 * K + j - 5 * K = j by omega]; rfl
  have hAo : ∀ j, j < 5 * K → A j = σ.2 11 j := fun j hj => if_neg (by omega)
  have hC : ∀ j, j < G → C (5 * K + j) = qRow σ j := fun j hj => by
    show pSet _ _ _ _ _ = _
    rw [pSet_in (by omega) (by omega), show 5 * K + j - 5 * K = j by omega]; exact hr1 j hj
  have hCo : ∀ j, j < 5 * K → C j = σ.2 13 j := fun j hj => if_neg (by omega)
  have hB : ∀ j, j < G → B (5 * K + j) = nI (qPlace G (qRow σ) j) := fun j hj => by
    show pSet _ _ _ _ _ = _
    rw [pSet_in (by omega) (by omega), show 5 * K + j - 5 * K = j by omega, qPlace_congr hj hr1]
  have hBo : ∀ j, j < 5 * K → B j = σ.2 12 j := fun j hj => if_neg (by omega)
  have eT : fX0_goBy σ1 = some (nI g0, k_sA (k_sf (s89 σ2 (hRow A K G 0 (σ.2 8, σ.2 9))) 6 (nI (K + 1))) 10 (k_fl (σ.2 10) 0 5 (k_ng 9))) := by
    unfold fX0_goBy
    rw [q_bn, q_bn]
    have e0 : σ1 = s3 σ1 (σ1.2 11) (σ1.2 13) (σ1.2 12) := by
      unfold s3
      rw [s_Aid, s_Aid, s_Aid]
    rw [show fX0_goBy_c5 k_F σ1 (k_ng 9) (nI 0) = fX0_goBy_c5 k_F (s3 σ1 (σ1.2 11) (σ1.2 13) (σ1.2 12)) (k_ng 9) (nI 0) from congrArg (fun z => fX0_goBy_c5 k_F z (k_ng 9) (nI 0)) e0]
    rw [T_goBy_lay (σ := σ1) g1 rfl hG k1 (by omega) G 0 k_F _ _ _ _ (by omega) (q_kF (by omega))]
    rw [pBd_eq hb1 G 0 _ (by omega), if_pos ⟨Nat.zero_le _, hg0⟩]
    have e1 : s3 σ1 (pSet (fun j => σ1.2 10 (j - 5 * K)) (σ1.2 11) (5 * K + 0) (5 * K + G)) (pSet (fun j => σ1.2 14 (j - 5 * K)) (σ1.2 13) (5 * K + 0) (5 * K + G)) (pSet (fun j => nI (qPlace G (σ1.2 14) (j - 5 * K))) (σ1.2 12) (5 * K + 0) (5 * K + G)) = s89 σ2 (σ.2 8, σ.2 9) := (s89_id σ2).symm
    rw [e1]
    exact T_goBy_told (σ0 := σ2) g1 hG n1 hN k1 (by omega) (fun j hj => hH'.hOkC hj) A hA (nI g0) G 0 k_F _ (by omega) (q_kF (by omega))
  rw [eT, q_ob]
  -- the reference
  let A' := pSet (fun j => if j - 5 * K < G then τ1.2 11 (j - 5 * K) else k_ng 9) (τ1.2 9) (5 * K + 0) (5 * K + 5)
  let C' := pSet (fun j => if j - 5 * K < G then τ1.2 14 (j - 5 * K) else nI 0) (τ1.2 10) (5 * K + 0) (5 * K + 5)
  let τ2 : k_S := k_sA (k_sA τ1 9 A') 10 C'
  have hA' : ∀ j, j < G → A' (5 * K + j) = σ.2 10 j := fun j hj => by
    show pSet _ _ _ _ _ = _
    rw [pSet_in (by omega) (by omega), show 5 * K + j - 5 * K = j by omega, if_pos hj, a10]; rfl
  have hAz : ∀ j, G ≤ j → j < 5 → A' (5 * K + j) = k_ng 9 := fun j hj hj5 => by
    show pSet _ _ _ _ _ = _
    rw [pSet_in (by omega) (by omega), show 5 * K + j - 5 * K = j by omega, if_neg (by omega)]
  have hAo' : ∀ j, j < 5 * K → A' j = τ.2 9 j := fun j hj => if_neg (by omega)
  have hC' : ∀ j, j < G → C' (5 * K + j) = qRow σ j := fun j hj => by
    show pSet _ _ _ _ _ = _
    rw [pSet_in (by omega) (by omega), show 5 * K + j - 5 * K = j by omega, if_pos hj]; exact hr2 j hj
  have hCo' : ∀ j, j < 5 * K → C' j = τ.2 10 j := fun j hj => if_neg (by omega)
  have hOkA : ∀ n, n < K + 1 → ∀ j, j < G → hOk N (A (5 * n + j)) := by
    intro n hn j hj
    by_cases hnK : n = K
    · rw [hnK, hA j hj]; exact hH'.hOkC hj
    · rw [hAo _ (by omega)]; exact hH'.hOkN (by omega) hj
  have hAA : ∀ n, n < K + 1 → ∀ j, j < G → A' (5 * n + j) = A (5 * n + j) := by
    intro n hn j hj
    by_cases hnK : n = K
    · rw [hnK, hA j hj, hA' j hj]
    · rw [hAo _ (by omega), hAo' _ (by omega)]; exact (hnn n (by omega) j hj).1.symm
  have hAZ : ∀ n, n < K + 1 → ∀ j, G ≤ j → j < 5 → A' (5 * n + j) = k_ng 9 := by
    intro n hn j hj hj5
    by_cases hnK : n = K
    · rw [hnK]; exact hAz j hj hj5
    · rw [hAo' _ (by omega)]; exact hzz n (by omega) j hj hj5
  have hist : hAll A G (K + 1) 0 hZ = hRow A K G 0 (σ.2 8, σ.2 9) := by
    rw [hAll_last, Nat.zero_add, hAll_congr (a := A) (b := σ.2 11) K 0 hZ (fun i j _ h2 h3 => hAo _ (by omega)), ← hh hG0]
  have eC : fX7_countTold (k_sf τ2 8 (nI (K + 1))) = some ((), sCD (k_sf τ2 8 (nI (K + 1))) (hRow A K G 0 (σ.2 8, σ.2 9))) := by
    rw [M_countTold (τ := k_sf τ2 8 (nI (K + 1))) (N := N) (K := K + 1) hN rfl (by omega) (fun j hj => by
      show hOk N (A' j)
      have e : 5 * (j / 5) + j % 5 = j := by omega
      rw [← e]
      by_cases hjg : j % 5 < G
      · rw [hAA (j / 5) (by omega) _ hjg]; exact hOkA (j / 5) (by omega) _ hjg
      · exact .inl (hAZ (j / 5) (by omega) _ (by omega) (by omega))) (by
      show hTail (τ.2 12, τ.2 13)
      rw [← a8, ← a9]; exact hl)]
    have := hFlat_all A' hG (K + 1) 0 hZ (fun i j _ h2 h3 h4 => hAZ i (by omega) j h3 h4)
    rw [Nat.mul_zero] at this
    rw [show (k_sf τ2 8 (nI (K + 1))).2 9 = A' from rfl, this, hAll_congr (a := A') (b := A) (K + 1) 0 hZ (fun i j _ h2 h3 => hAA i (by omega) j h3), hist]
  have eM : fX7_night_c28 k_F τ1 (nI 0) = some (nI g0, k_sA (sCD (k_sf τ2 8 (nI (K + 1))) (hRow A K G 0 (σ.2 8, σ.2 9))) 11 (k_fl (τ.2 11) 0 5 (k_ng 9))) := by
    have e0 : τ1 = k_sA (k_sA τ1 9 (τ1.2 9)) 10 (τ1.2 10) := by rw [s_Aid, s_Aid]
    rw [show fX7_night_c28 k_F τ1 (nI 0) = fX7_night_c28 k_F (k_sA (k_sA τ1 9 (τ1.2 9)) 10 (τ1.2 10)) (nI 0) from congrArg (fun z => fX7_night_c28 k_F z (nI 0)) e0]
    refine M_night_lay (τ := τ1) g2 hG k2 (by omega) _ 5 0 k_F _ _ (by omega) (q_kF (by omega)) ?_
    show _ = k_ob (fX7_inBed τ2) _
    rw [M_inBed (τ := τ2) g2 hG hg0 hb2, q_ob, q_bn, q_bn]
    rw [show τ2.1 8 = nI K from k2, nI_add, eC, q_ob, M_chooseNone, q_ob]
    rfl
  rw [eM]
  refine ⟨nI g0, _, _, rfl, rfl, ⟨G, N, m, K + 1, ⟨g1, g2⟩, ⟨n1, n2⟩, ⟨m1, m2⟩, ⟨rfl, rfl⟩, ⟨hG, hN, hm, by omega, fun q => absurd q hG0⟩, ⟨a5, a6, a7, rfl, rfl, ?_⟩, ht, fun g hg => .inl ?_, ?_, hAZ, ?_, fun _ => ?_⟩, hS.keep ⟨rfl, rfl, rfl⟩ ⟨rfl, rfl, rfl⟩, h0, h1⟩
  · show k_fl (σ.2 10) 0 5 (k_ng 9) = k_fl (τ.2 11) 0 5 (k_ng 9)
    rw [a10]
  · show (if 0 ≤ g ∧ g < 5 then k_ng 9 else _) = k_ng 9
    rw [if_pos ⟨Nat.zero_le g, by omega⟩]
  · intro n hn g hg
    show A (5 * n + g) = A' (5 * n + g) ∧ C (5 * n + g) = C' (5 * n + g) ∧ (A (5 * n + g) = k_ng 9 ∨ ∃ x, x < N ∧ A (5 * n + g) = nI x ∧ σ.2 6 x = nI g) ∧ B (5 * n + g) = nI (qPlace G (fun o => C (5 * n + o)) g)
    refine ⟨(hAA n hn g hg).symm, ?_⟩
    by_cases hnK : n = K
    · subst hnK
      rw [hC g hg, hC' g hg, hA g hg, hB g hg]
      exact ⟨rfl, hc g hg, congrArg nI (qPlace_congr hg (fun j hj => (hC j hj).symm))⟩
    · rw [hCo _ (by omega), hCo' _ (by omega), hAo _ (by omega), hBo _ (by omega)]
      obtain ⟨-, b2, b3, b4⟩ := hnn n (by omega) g hg
      exact ⟨b2, b3, b4.trans (congrArg nI (qPlace_congr hg (fun j hj => (hCo _ (by omega)).symm)))⟩
  · exact hRow_tail hN G 0 _ (fun j _ h2 => hOkA K (by omega) j (by omega)) hl
  · exact hist.symm
