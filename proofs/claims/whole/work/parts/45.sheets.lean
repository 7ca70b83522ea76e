/-! ===== sheets ===== -/
theorem q_0i : (nI 0 = (0 : Int32)) := rfl
theorem T_hasRow {σ : k_S} {k : Nat} (hk : k < 4) : fX2_hasRow σ (nI k) = some (if σ.2 3 k = k_ng 9 then nI 0 else nI 1, σ) := by
  unfold fX2_hasRow
  simp (disch := omega) only [q_bn, q_ob, q_z0, q_z1, q_gd, q_cl, q_add, q_mul, q_lt, q_eq, q_eq0, q_lt0, q_0lt, q_ngl, q_ngr, q_ng0, q_ngz, q_ngn, q_ngp, q_nlt]
  split <;> rfl
/-- cells that are there: from i on, n of them, of len -/
def qCells (len : Nat) (i n : Int32) : Prop := ∃ a b : Nat, i = nI a ∧ n = nI b ∧ a + b ≤ len
theorem T_hasCells {σ : k_S} {k len : Nat} (hk : k < 4) (hl : σ.2 3 k = nI len) (hlen : len ≤ 60) (i n : Int32) : (fX2_hasCells σ (nI k) i n = some (nI 1, σ) ∧ qCells len i n) ∨ (fX2_hasCells σ (nI k) i n = some (nI 0, σ) ∧ ¬ qCells len i n) := by
  unfold fX2_hasCells
  by_cases hi : i < 0
  · rw [if_pos hi]
    refine .inr ⟨rfl, ?_⟩
    rintro ⟨a, b, rfl, rfl, h⟩
    rw [q_lt0 (by omega)] at hi
    exact hi
  · by_cases hn : n < 0
    · rw [if_neg hi, if_pos hn]
      refine .inr ⟨rfl, ?_⟩
      rintro ⟨a, b, rfl, rfl, h⟩
      rw [q_lt0 (by omega)] at hn
      exact hn
    · rw [if_neg hi, if_neg hn]
      obtain ⟨a, ha, rfl⟩ := nI_of hi
      obtain ⟨b, hb, rfl⟩ := nI_of hn
      simp (disch := omega) only [q_bn, q_ob, q_z0, q_z1, q_gd, q_cl, q_add, q_mul, q_lt, q_eq, q_eq0, q_lt0, q_0lt, q_ngl, q_ngr, q_ng0, q_ngz, q_ngn, q_ngp, q_nlt, hl]
      by_cases h1 : len < b
      · rw [if_pos h1]
        refine .inr ⟨rfl, ?_⟩
        rintro ⟨a', b', e1, e2, h⟩
        rw [nI_eq hb (by omega)] at e2
        omega
      · rw [if_neg h1]
        simp (disch := omega) only [q_bn, q_ob, q_z0, q_z1, q_gd, q_cl, q_add, q_mul, q_lt, q_eq, q_eq0, q_lt0, q_0lt, q_ngl, q_ngr, q_ng0, q_ngz, q_ngn, q_ngp, q_nlt, q_sub]
        by_cases h2 : len - b < a
        · rw [if_pos h2]
          refine .inr ⟨rfl, ?_⟩
          rintro ⟨a', b', e1, e2, h⟩
          rw [nI_eq hb (by omega)] at e2
          rw [nI_eq ha (by omega)] at e1
          omega
        · rw [if_neg h2]
          exact .inl ⟨rfl, a, b, rfl, rfl, by omega⟩
/-- what the machine has against taking cells: the same on both sides -/
theorem RS.against {σ τ : k_S} (h : RS σ τ) {k : Nat} (hk : k < 4) (s i n : Int32) : ∃ c : Nat, c < 5 ∧ fX2_faultOf σ (nI k) s i n = some (nI c, σ) ∧ fX7_against τ (nI k) s i n = some (nI c, τ) ∧ (c = 0 → ∃ len a b : Nat, len ≤ 60 ∧ i = nI a ∧ n = nI b ∧ a + b ≤ len ∧ ∀ j, j < len → σ.2 1 (60 * k + j) = τ.2 2 (60 * k + j)) := by
  unfold fX2_faultOf fX7_against
  rw [T_hasRow hk, q_ob]
  rcases h k hk with ⟨h1, h2⟩ | ⟨len, so, h3, h4, h5, h6, h7, h8, h9⟩
  · refine ⟨1, by decide, ?_, ?_, fun q => by cases q⟩
    · rw [if_pos h1]; rfl
    · unfold fX7_against_c23
      simp (disch := omega) only [q_bn, q_ob, q_z0, q_z1, q_gd, q_cl, q_add, q_mul, q_lt, q_eq, q_eq0, q_lt0, q_0lt, q_ngl, q_ngr, q_ng0, q_ngz, q_ngn, q_ngp, q_nlt, h2, if_true]
  · have e9 : ¬ nI len = k_ng 9 := by simp (disch := omega) only [q_bn, q_ob, q_z0, q_z1, q_gd, q_cl, q_add, q_mul, q_lt, q_eq, q_eq0, q_lt0, q_0lt, q_ngl, q_ngr, q_ng0, q_ngz, q_ngn, q_ngp, q_nlt]; exact not_false
    have e10 : ¬ nI so = k_ng 9 := by simp (disch := omega) only [q_bn, q_ob, q_z0, q_z1, q_gd, q_cl, q_add, q_mul, q_lt, q_eq, q_eq0, q_lt0, q_0lt, q_ngl, q_ngr, q_ng0, q_ngz, q_ngn, q_ngp, q_nlt]; exact not_false
    rw [h5, if_neg e9, if_neg q_n1]
    simp (disch := omega) only [q_bn, q_ob, q_z0, q_z1, q_gd, q_cl, q_add, q_mul, q_lt, q_eq, q_eq0, q_lt0, q_0lt, q_ngl, q_ngr, q_ng0, q_ngz, q_ngn, q_ngp, q_nlt, h7, h8]
    simp only [if_false]
    by_cases hs : nI so = s
    · rw [if_pos hs, if_pos hs]
      unfold fX7_against_c23 fX7_against_c70
      simp (disch := omega) only [q_bn, q_ob, q_z0, q_z1, q_gd, q_cl, q_add, q_mul, q_lt, q_eq, q_eq0, q_lt0, q_0lt, q_ngl, q_ngr, q_ng0, q_ngz, q_ngn, q_ngp, q_nlt, h8, h6]
      simp only [if_false]
      by_cases hn : n < 0
      · rw [if_pos hn, if_pos hn]
        exact ⟨4, by decide, rfl, rfl, fun q => by cases q⟩
      · rw [if_neg hn, if_neg hn]
        obtain ⟨b, hb, rfl⟩ := nI_of hn
        have hM : ((if i < 0 then some (nI 3, τ) else if nI len < i then some (nI 3, τ) else if nI len - i < nI b then some (nI 3, τ) else some (nI 0, τ)) = some (nI 0, τ) ∧ qCells len i (nI b)) ∨ ((if i < 0 then some (nI 3, τ) else if nI len < i then some (nI 3, τ) else if nI len - i < nI b then some (nI 3, τ) else some (nI 0, τ)) = some (nI 3, τ) ∧ ¬ qCells len i (nI b)) := by
          by_cases hi : i < 0
          · refine .inr ⟨if_pos hi, ?_⟩
            rintro ⟨a', b', rfl, e2, h⟩
            rw [q_lt0 (by omega)] at hi
            exact hi
          · rw [if_neg hi]
            obtain ⟨a, ha, rfl⟩ := nI_of hi
            simp only [q_lt (show len < 2 ^ 31 by omega) ha]
            by_cases h1 : len < a
            · refine .inr ⟨if_pos h1, ?_⟩
              rintro ⟨a', b', e1, e2, h⟩
              rw [nI_eq ha (by omega)] at e1
              omega
            · simp only [if_neg h1, q_sub (show a ≤ len by omega), q_lt (show len - a < 2 ^ 31 by omega) hb]
              by_cases h2 : len - a < b
              · refine .inr ⟨if_pos h2, ?_⟩
                rintro ⟨a', b', e1, e2, h⟩
                rw [nI_eq ha (by omega)] at e1
                rw [nI_eq hb (by omega)] at e2
                omega
              · exact .inl ⟨if_neg h2, a, b, rfl, rfl, by omega⟩
        rcases T_hasCells hk h5 h3 i (nI b) with ⟨q1, q2⟩ | ⟨q1, q2⟩
        · rcases hM with ⟨m1, m2⟩ | ⟨m1, m2⟩
          · rw [q1, q_ob, if_neg q_n1, m1]
            obtain ⟨a', b', e1, e2, h⟩ := q2
            exact ⟨0, by decide, rfl, rfl, fun _ => ⟨len, a', b', h3, e1, e2, h, h9⟩⟩
          · exact absurd q2 m2
        · rcases hM with ⟨m1, m2⟩ | ⟨m1, m2⟩
          · exact absurd m2 q2
          · rw [q1, q_ob, if_pos q_0i, m1]
            exact ⟨3, by decide, rfl, rfl, fun q => by cases q⟩
    · rw [if_neg hs, if_neg hs]
      exact ⟨2, by decide, rfl, rfl, fun q => by cases q⟩
/-- the beginning of a call that names faults -/
theorem pu_sheet {σ τ : k_S} (h : RR σ τ) (x y z : Int32) : qOk (fX6_sheet σ x y z) (fX7_sheet τ x y z) := by
  have hf := h.fault (nI 0)
  unfold fX6_sheet fX7_sheet
  rw [q_bn, q_bn]
  generalize hσ : k_sf σ 1 (nI 0) = σ1 at hf ⊢
  generalize hτ : k_sf τ 0 (nI 0) = τ1 at hf ⊢
  rw [T_isSheet, M_isSheet, q_ob, q_ob]
  by_cases hx : x < nI 0 ∨ nI 3 < x
  · rw [if_pos hx, if_pos q_0i, if_pos q_0i]
    exact ⟨k_ng 1, σ1, τ1, rfl, rfl, hf⟩
  rw [if_neg hx, if_neg q_n1, if_neg q_n1, T_isSort, M_isSort, q_ob, q_ob]
  by_cases hy : y < nI 0 ∨ nI 2 < y
  · rw [if_pos hy, if_pos q_0i, if_pos q_0i]
    exact ⟨k_ng 2, σ1, τ1, rfl, rfl, hf⟩
  rw [if_neg hy, if_neg q_n1, if_neg q_n1]
  by_cases hz : nI 60 < z
  · rw [if_pos hz, if_pos hz]
    exact ⟨k_ng 2, σ1, τ1, rfl, rfl, hf⟩
  rw [if_neg hz, if_neg hz]
  by_cases hz0 : z < 0
  · rw [if_pos hz0, if_pos hz0]
    exact ⟨_, _, _, rfl, rfl, hf.fault _⟩
  rw [if_neg hz0, if_neg hz0]
  obtain ⟨k, hk, rfl⟩ := q_pass (by decide) hx
  obtain ⟨so, hso, rfl⟩ := q_pass (by decide) hy
  obtain ⟨n, hn, rfl⟩ := q_pass (n := 60) (x := z) (by decide) (by rintro (q | q); exact hz0 q; exact hz q)
  unfold fX2_makeRow k_gf
  have hk4 : k < 4 := by omega
  simp (disch := omega) only [q_bn, q_ob, q_z0, q_z1, q_gd, q_cl, q_add, q_mul, q_lt, q_eq, q_eq0, q_lt0, q_0lt, q_ngl, q_ngr, q_ng0, q_ngz, q_ngn, q_ngp, q_nlt, s_sa]
  rw [if_neg (show ¬ (k * 60 + n < k * 60 ∨ False ∨ 240 < k * 60 + n) by rintro (q | q | q) <;> first | exact q | omega)]
  have key : ∀ (d i f : Nat) (r : qA), i + d = 60 → d < f → fX7_sheet_c57 f (k_sA (k_sA (k_sA τ1 0 (upd (τ1.2 0) k (nI so))) 1 (upd (τ1.2 1) k (nI n))) 2 r) (nI k) (nI i) = some (nI 1, k_sA (k_sA (k_sA τ1 0 (upd (τ1.2 0) k (nI so))) 1 (upd (τ1.2 1) k (nI n))) 2 (pSet (fun _ => nI 0) r (60 * k + i) (60 * k + 60))) := by
    intro d
    induction d with
    | zero =>
      intro i f r h1 h2
      obtain ⟨f, rfl⟩ := q_fu 0 h2
      rw [fX7_sheet_c57_s, if_neg (by simp (disch := omega) only [q_bn, q_ob, q_z0, q_z1, q_gd, q_cl, q_add, q_mul, q_lt, q_eq, q_eq0, q_lt0, q_0lt, q_ngl, q_ngr, q_ng0, q_ngz, q_ngn, q_ngp, q_nlt]; omega), pSet_no _ _ (by omega)]
    | succ d ih =>
      intro i f r h1 h2
      obtain ⟨f, rfl⟩ := q_fu (d + 1) h2
      rw [fX7_sheet_c57_s, if_pos (by simp (disch := omega) only [q_bn, q_ob, q_z0, q_z1, q_gd, q_cl, q_add, q_mul, q_lt, q_eq, q_eq0, q_lt0, q_0lt, q_ngl, q_ngr, q_ng0, q_ngz, q_ngn, q_ngp, q_nlt]; omega)]
      simp (disch := omega) only [q_bn, q_ob, q_z0, q_z1, q_gd, q_cl, q_add, q_mul, q_lt, q_eq, q_eq0, q_lt0, q_0lt, q_ngl, q_ngr, q_ng0, q_ngz, q_ngn, q_ngp, q_nlt, s_sa, s_sA2, s_AA, if_true]
      rw [ih (i + 1) f _ (by omega) (by omega), ← pSet_step (fun _ => nI 0) r (show 60 * k + i < 60 * k + 60 by omega)]
      rfl
  have e1 : (k_sA (k_sA τ1 0 (upd (τ1.2 0) k (nI so))) 1 (upd ((k_sA τ1 0 (upd (τ1.2 0) k (nI so))).2 1) k (nI n))) = k_sA (k_sA (k_sA τ1 0 (upd (τ1.2 0) k (nI so))) 1 (upd (τ1.2 1) k (nI n))) 2 (τ1.2 2) := by
    have := s_Aid (k_sA (k_sA τ1 0 (upd (τ1.2 0) k (nI so))) 1 (upd (τ1.2 1) k (nI n))) 2
    exact this.symm
  rw [e1, key 60 0 k_F _ (by omega) (q_kF (by omega))]
  obtain ⟨⟨G, N, m, K, hH⟩, hS, h0, h1⟩ := hf
  refine ⟨nI 1, _, _, rfl, rfl, ⟨G, N, m, K, hH.keep ⟨⟨rfl, rfl, rfl, rfl⟩, rfl, rfl, rfl, rfl, rfl, rfl, rfl, rfl, rfl⟩ ⟨⟨rfl, rfl, rfl, rfl⟩, rfl, rfl, rfl, rfl, rfl, rfl, rfl, rfl⟩⟩, fun k' hk' => ?_, h0, h1⟩
  show (upd (σ1.2 3) k (nI n) k' = k_ng 9 ∧ upd (τ1.2 0) k (nI so) k' = k_ng 9) ∨ ∃ len s, len ≤ 60 ∧ s ≤ 2 ∧ upd (σ1.2 3) k (nI n) k' = nI len ∧ upd (τ1.2 1) k (nI n) k' = nI len ∧ upd (σ1.2 2) k (nI so) k' = nI s ∧ upd (τ1.2 0) k (nI so) k' = nI s ∧ ∀ i, i < len → k_fl (σ1.2 1) (k * 60) (k * 60 + n) (nI 0) (60 * k' + i) = pSet (fun _ => nI 0) (τ1.2 2) (60 * k + 0) (60 * k + 60) (60 * k' + i)
  by_cases e : k' = k
  · subst e
    refine .inr ⟨n, so, hn, hso, pk_us, pk_us, pk_us, pk_us, fun i hi => ?_⟩
    unfold k_fl
    rw [if_pos (by omega), pSet_in (by omega) (by omega)]
  · rw [pk_un e, pk_un e, pk_un e, pk_un e]
    rcases hS k' hk' with q | ⟨len, s, b1, b2, b3, b4, b5, b6, b7⟩
    · exact .inl q
    · refine .inr ⟨len, s, b1, b2, b3, b4, b5, b6, fun i hi => ?_⟩
      unfold k_fl pSet
      rw [if_neg (by omega), if_neg (by omega)]
      exact b7 i hi
theorem pu_lose {σ τ : k_S} (h : RR σ τ) (x : Int32) : qOk (fX6_lose σ x) (fX7_lose τ x) := by
  unfold fX6_lose fX7_lose
  rw [T_isSheet, M_isSheet, q_ob, q_ob]
  by_cases hx : x < nI 0 ∨ nI 3 < x
  · rw [if_pos hx, if_pos q_0i, if_pos q_0i]
    exact ⟨k_ng 1, σ, τ, rfl, rfl, h⟩
  rw [if_neg hx, if_neg q_n1, if_neg q_n1]
  obtain ⟨k, hk, rfl⟩ := q_pass (by decide) hx
  have hk4 : k < 4 := by omega
  obtain ⟨⟨G, N, m, K, hH⟩, hS, h0, h1⟩ := id h
  have hR : RR (k_sA σ 3 (upd (σ.2 3) k (k_ng 9))) (k_sA τ 0 (upd (τ.2 0) k (k_ng 9))) := by
    refine ⟨⟨G, N, m, K, hH.keep ⟨⟨rfl, rfl, rfl, rfl⟩, rfl, rfl, rfl, rfl, rfl, rfl, rfl, rfl, rfl⟩ ⟨⟨rfl, rfl, rfl, rfl⟩, rfl, rfl, rfl, rfl, rfl, rfl, rfl, rfl⟩⟩, fun k' hk' => ?_, h0, h1⟩
    show (upd (σ.2 3) k (k_ng 9) k' = k_ng 9 ∧ upd (τ.2 0) k (k_ng 9) k' = k_ng 9) ∨ ∃ len s, len ≤ 60 ∧ s ≤ 2 ∧ upd (σ.2 3) k (k_ng 9) k' = nI len ∧ τ.2 1 k' = nI len ∧ σ.2 2 k' = nI s ∧ upd (τ.2 0) k (k_ng 9) k' = nI s ∧ ∀ i, i < len → σ.2 1 (60 * k' + i) = τ.2 2 (60 * k' + i)
    by_cases e : k' = k
    · subst e
      exact .inl ⟨pk_us, pk_us⟩
    · rw [pk_un e, pk_un e]
      exact hS k' hk'
  unfold fX2_dropRow fX7_lose_c25
  rw [T_hasRow hk4, q_ob, q_bn]
  rcases hS k hk4 with ⟨h1, h2⟩ | ⟨len, so, h3, h4, h5, h6, h7, h8, h9⟩
  · rw [if_pos h1]
    simp (disch := omega) only [q_bn, q_ob, q_z0, q_z1, q_gd, q_cl, q_add, q_mul, q_lt, q_eq, q_eq0, q_lt0, q_0lt, q_ngl, q_ngr, q_ng0, q_ngz, q_ngn, q_ngp, q_nlt, s_sa, h2, if_true]
    exact ⟨_, _, _, rfl, rfl, hR⟩
  · have e9 : ¬ σ.2 3 k = k_ng 9 := by rw [h5]; simp (disch := omega) only [q_bn, q_ob, q_z0, q_z1, q_gd, q_cl, q_add, q_mul, q_lt, q_eq, q_eq0, q_lt0, q_0lt, q_ngl, q_ngr, q_ng0, q_ngz, q_ngn, q_ngp, q_nlt]; exact not_false
    have e10 : ¬ τ.2 0 k = k_ng 9 := by rw [h8]; simp (disch := omega) only [q_bn, q_ob, q_z0, q_z1, q_gd, q_cl, q_add, q_mul, q_lt, q_eq, q_eq0, q_lt0, q_0lt, q_ngl, q_ngr, q_ng0, q_ngz, q_ngn, q_ngp, q_nlt]; exact not_false
    rw [if_neg e9]
    simp (disch := omega) only [q_bn, q_ob, q_z0, q_z1, q_gd, q_cl, q_add, q_mul, q_lt, q_eq, q_eq0, q_lt0, q_0lt, q_ngl, q_ngr, q_ng0, q_ngz, q_ngn, q_ngp, q_nlt, s_sa]
    rw [if_neg e10]
    exact ⟨_, _, _, rfl, rfl, hR⟩
/-- a cell becomes a number on both sides -/
theorem RR.put {σ τ : k_S} (h : RR σ τ) {k p : Nat} (hp : p < 60) (hk : k < 4) (v : Int32) : RR (k_sA σ 1 (upd (σ.2 1) (60 * k + p) v)) (k_sA τ 2 (upd (τ.2 2) (60 * k + p) v)) := by
  obtain ⟨⟨G, N, m, K, hH⟩, hS, h0, h1⟩ := h
  refine ⟨⟨G, N, m, K, hH.keep ⟨⟨rfl, rfl, rfl, rfl⟩, rfl, rfl, rfl, rfl, rfl, rfl, rfl, rfl, rfl⟩ ⟨⟨rfl, rfl, rfl, rfl⟩, rfl, rfl, rfl, rfl, rfl, rfl, rfl, rfl⟩⟩, fun k' hk' => ?_, h0, h1⟩
  show (σ.2 3 k' = k_ng 9 ∧ τ.2 0 k' = k_ng 9) ∨ ∃ len s, len ≤ 60 ∧ s ≤ 2 ∧ σ.2 3 k' = nI len ∧ τ.2 1 k' = nI len ∧ σ.2 2 k' = nI s ∧ τ.2 0 k' = nI s ∧ ∀ i, i < len → upd (σ.2 1) (60 * k + p) v (60 * k' + i) = upd (τ.2 2) (60 * k + p) v (60 * k' + i)
  rcases hS k' hk' with q | ⟨len, s, b1, b2, b3, b4, b5, b6, b7⟩
  · exact .inl q
  · refine .inr ⟨len, s, b1, b2, b3, b4, b5, b6, fun i hi => ?_⟩
    by_cases e : 60 * k' + i = 60 * k + p
    · rw [e, pk_us, pk_us]
    · rw [pk_un e, pk_un e]
      exact b7 i hi
theorem pu_put {σ τ : k_S} (h : RR σ τ) (x y z : Int32) : qOk (fX6_put σ x y z) (fX7_put τ x y z) := by
  have hf := h.fault (nI 0)
  unfold fX6_put fX7_put
  rw [q_bn, q_bn]
  generalize hσ : k_sf σ 1 (nI 0) = σ1 at hf ⊢
  generalize hτ : k_sf τ 0 (nI 0) = τ1 at hf ⊢
  rw [T_isSheet, M_isSheet, q_ob, q_ob]
  by_cases hx : x < nI 0 ∨ nI 3 < x
  · rw [if_pos hx, if_pos q_0i, if_pos q_0i]
    exact ⟨k_ng 1, σ1, τ1, rfl, rfl, hf⟩
  rw [if_neg hx, if_neg q_n1, if_neg q_n1]
  obtain ⟨k, hk, rfl⟩ := q_pass (by decide) hx
  have hk4 : k < 4 := by omega
  rw [T_hasRow hk4, q_ob]
  rcases hf.2.1 k hk4 with ⟨h1, h2⟩ | ⟨len, so, h3, h4, h5, h6, h7, h8, h9⟩
  · rw [if_pos h1, if_pos q_0i]
    simp (disch := omega) only [q_bn, q_ob, q_z0, q_z1, q_gd, q_cl, q_add, q_mul, q_lt, q_eq, q_eq0, q_lt0, q_0lt, q_ngl, q_ngr, q_ng0, q_ngz, q_ngn, q_ngp, q_nlt, h2, if_true]
    exact ⟨_, _, _, rfl, rfl, hf.fault _⟩
  · have e9 : ¬ σ1.2 3 k = k_ng 9 := by rw [h5]; simp (disch := omega) only [q_bn, q_ob, q_z0, q_z1, q_gd, q_cl, q_add, q_mul, q_lt, q_eq, q_eq0, q_lt0, q_0lt, q_ngl, q_ngr, q_ng0, q_ngz, q_ngn, q_ngp, q_nlt]; exact not_false
    have e10 : ¬ τ1.2 0 k = k_ng 9 := by rw [h8]; simp (disch := omega) only [q_bn, q_ob, q_z0, q_z1, q_gd, q_cl, q_add, q_mul, q_lt, q_eq, q_eq0, q_lt0, q_0lt, q_ngl, q_ngr, q_ng0, q_ngz, q_ngn, q_ngp, q_nlt]; exact not_false
    rw [if_neg e9, if_neg q_n1]
    simp (disch := omega) only [q_bn, q_ob, q_z0, q_z1, q_gd, q_cl, q_add, q_mul, q_lt, q_eq, q_eq0, q_lt0, q_0lt, q_ngl, q_ngr, q_ng0, q_ngz, q_ngn, q_ngp, q_nlt]
    rw [if_neg e10, M_within, q_ob, h6, h8]
    have hw : (y < nI 0 ∨ nI len - nI 1 < y) ↔ ¬ qCells len y (nI 1) := by
      by_cases hy0 : y < nI 0
      · refine ⟨fun _ => ?_, fun _ => .inl hy0⟩
        rintro ⟨a, b, rfl, e2, hab⟩
        rw [q_lt (by omega) (by decide)] at hy0
        omega
      · obtain ⟨a, ha, rfl⟩ := nI_of (x := y) (fun q => hy0 q)
        have hlt : (nI len - nI 1 < nI a) ↔ len ≤ a := by
          by_cases hl0 : len = 0
          · subst hl0
            rw [show nI 0 - nI 1 = k_ng 1 by decide, q_ngp (by decide) (by decide) ha]
            simp
          · rw [q_sub (by omega), q_lt (by omega) ha]
            omega
        rw [hlt]
        constructor
        · rintro (q | q)
          · exact absurd q hy0
          · rintro ⟨a', b', e1, e2, hab⟩
            rw [nI_eq ha (by omega)] at e1
            rw [nI_eq (by decide) (by omega)] at e2
            omega
        · intro q
          refine .inr (Nat.le_of_not_lt fun q2 => q ⟨a, 1, rfl, rfl, by omega⟩)
    rcases T_hasCells hk4 h5 h3 y (nI 1) with ⟨q1, q2⟩ | ⟨q1, q2⟩
    · rw [q1, q_ob, if_neg q_n1, if_neg (fun q => hw.mp q q2), if_neg q_n1]
      obtain ⟨a, b, rfl, e2, hab⟩ := q2
      rw [nI_eq (by decide) (by omega)] at e2
      unfold fX2_write fX2_write_c16 fX2_write_c30 fX7_put_c93
      simp (disch := omega) only [q_bn, q_ob, q_z0, q_z1, q_gd, q_cl, q_add, q_mul, q_lt, q_eq, q_eq0, q_lt0, q_0lt, q_ngl, q_ngr, q_ng0, q_ngz, q_ngn, q_ngp, q_nlt, s_sa, h7]
      rw [show k * 60 + a = 60 * k + a by omega]
      have hR := fun v => hf.put (k := k) (p := a) (by omega) hk4 v
      by_cases s0 : so = 0
      · subst s0
        simp (disch := omega) only [q_bn, q_ob, q_z0, q_z1, q_gd, q_cl, q_add, q_mul, q_lt, q_eq, q_eq0, q_lt0, q_0lt, q_ngl, q_ngr, q_ng0, q_ngz, q_ngn, q_ngp, q_nlt, if_true, if_false, Nat.zero_ne_one, show ((0 : Nat) = 1) = False by decide]
        exact ⟨_, _, _, rfl, rfl, hR _⟩
      · by_cases s1 : so = 1
        · subst s1
          simp (disch := omega) only [q_bn, q_ob, q_z0, q_z1, q_gd, q_cl, q_add, q_mul, q_lt, q_eq, q_eq0, q_lt0, q_0lt, q_ngl, q_ngr, q_ng0, q_ngz, q_ngn, q_ngp, q_nlt, if_true, if_false, show ((1 : Nat) = 0) = False by decide]
          exact ⟨_, _, _, rfl, rfl, hR _⟩
        · simp (disch := omega) only [q_bn, q_ob, q_z0, q_z1, q_gd, q_cl, q_add, q_mul, q_lt, q_eq, q_eq0, q_lt0, q_0lt, q_ngl, q_ngr, q_ng0, q_ngz, q_ngn, q_ngp, q_nlt, s0, s1, if_false]
          exact ⟨_, _, _, rfl, rfl, hR _⟩
    · rw [q1, q_ob, if_pos q_0i, if_pos (hw.mpr q2), if_pos q_0i]
      exact ⟨_, _, _, rfl, rfl, hf.fault _⟩
theorem pu_cell {σ τ : k_S} (h : RR σ τ) (x y z : Int32) : qOk (fX6_cell σ x y z) (fX7_cell τ x y z) := by
  have hf := h.fault (nI 0)
  unfold fX6_cell fX7_cell
  rw [q_bn, q_bn]
  generalize hσ : k_sf σ 1 (nI 0) = σ1 at hf ⊢
  generalize hτ : k_sf τ 0 (nI 0) = τ1 at hf ⊢
  rw [T_isSheet, M_isSheet, q_ob, q_ob]
  by_cases hx : x < nI 0 ∨ nI 3 < x
  · rw [if_pos hx, if_pos q_0i, if_pos q_0i]
    exact ⟨_, σ1, τ1, rfl, rfl, hf⟩
  rw [if_neg hx, if_neg q_n1, if_neg q_n1, T_isSort, M_isSort, q_ob, q_ob]
  by_cases hz : z < nI 0 ∨ nI 2 < z
  · rw [if_pos hz, if_pos q_0i, if_pos q_0i]
    exact ⟨_, σ1, τ1, rfl, rfl, hf⟩
  rw [if_neg hz, if_neg q_n1, if_neg q_n1]
  obtain ⟨k, hk, rfl⟩ := q_pass (by decide) hx
  have hk4 : k < 4 := by omega
  unfold fX2_faultOf fX7_cell_c50 fX7_lost
  rw [T_hasRow hk4, q_ob]
  rcases hf.2.1 k hk4 with ⟨h1, h2⟩ | ⟨len, so, h3, h4, h5, h6, h7, h8, h9⟩
  · rw [if_pos h1, if_pos q_0i]
    simp (disch := omega) only [q_bn, q_ob, q_z0, q_z1, q_gd, q_cl, q_add, q_mul, q_lt, q_eq, q_eq0, q_lt0, q_0lt, q_ngl, q_ngr, q_ng0, q_ngz, q_ngn, q_ngp, q_nlt, h2, if_true]
    rw [if_neg (show ¬ (1 : Nat) = 0 by decide)]
    exact ⟨_, _, _, rfl, rfl, hf.fault _⟩
  · have e9 : ¬ σ1.2 3 k = k_ng 9 := by rw [h5]; simp (disch := omega) only [q_bn, q_ob, q_z0, q_z1, q_gd, q_cl, q_add, q_mul, q_lt, q_eq, q_eq0, q_lt0, q_0lt, q_ngl, q_ngr, q_ng0, q_ngz, q_ngn, q_ngp, q_nlt]; exact not_false
    have e10 : ¬ τ1.2 0 k = k_ng 9 := by rw [h8]; simp (disch := omega) only [q_bn, q_ob, q_z0, q_z1, q_gd, q_cl, q_add, q_mul, q_lt, q_eq, q_eq0, q_lt0, q_0lt, q_ngl, q_ngr, q_ng0, q_ngz, q_ngn, q_ngp, q_nlt]; exact not_false
    rw [if_neg e9, if_neg q_n1]
    simp (disch := omega) only [q_bn, q_ob, q_z0, q_z1, q_gd, q_cl, q_add, q_mul, q_lt, q_eq, q_eq0, q_lt0, q_0lt, q_ngl, q_ngr, q_ng0, q_ngz, q_ngn, q_ngp, q_nlt]
    rw [if_neg e10, h7, h8]
    by_cases hs : nI so = z
    · rw [if_pos hs, if_pos hs, if_neg (by decide), if_neg (by rw [← h8]; exact e10), M_within, q_ob, h6]
      have hw : (y < nI 0 ∨ nI len - nI 1 < y) ↔ ¬ qCells len y (nI 1) := by
        by_cases hy0 : y < nI 0
        · refine ⟨fun _ => ?_, fun _ => .inl hy0⟩
          rintro ⟨a, b, rfl, e2, hab⟩
          rw [q_lt (by omega) (by decide)] at hy0
          omega
        · obtain ⟨a, ha, rfl⟩ := nI_of (x := y) (fun q => hy0 q)
          have hlt : (nI len - nI 1 < nI a) ↔ len ≤ a := by
            by_cases hl0 : len = 0
            · subst hl0
              rw [show nI 0 - nI 1 = k_ng 1 by decide, q_ngp (by decide) (by decide) ha]
              simp
            · rw [q_sub (by omega), q_lt (by omega) ha]
              omega
          rw [hlt]
          constructor
          · rintro (q | q)
            · exact absurd q hy0
            · rintro ⟨a', b', e1, e2, hab⟩
              rw [nI_eq ha (by omega)] at e1
              rw [nI_eq (by decide) (by omega)] at e2
              omega
          · intro q
            refine .inr (Nat.le_of_not_lt fun q2 => q ⟨a, 1, rfl, rfl, by omega⟩)
      rcases T_hasCells hk4 h5 h3 y (nI 1) with ⟨q1, q2⟩ | ⟨q1, q2⟩
      · rw [q1, q_ob, if_neg q_n1, if_neg (fun q => hw.mp q q2), if_neg q_n1]
        obtain ⟨a, b, rfl, e2, hab⟩ := q2
        rw [nI_eq (by decide) (by omega)] at e2
        rw [q_ob, if_pos q_0i]
        unfold fX2_read
        simp (disch := omega) only [q_bn, q_ob, q_z0, q_z1, q_gd, q_cl, q_add, q_mul, q_lt, q_eq, q_eq0, q_lt0, q_0lt, q_ngl, q_ngr, q_ng0, q_ngz, q_ngn, q_ngp, q_nlt]
        refine ⟨(σ1.2 1 (60 * k + a)).toInt64, σ1, τ1, ?_, ?_, hf⟩
        · rw [show k * 60 + a = 60 * k + a by omega]
        · rw [h9 a (by omega)]
      · rw [q1, q_ob, if_pos q_0i, if_pos (hw.mpr q2), if_pos q_0i]
        exact ⟨_, _, _, rfl, rfl, hf.fault _⟩
    · rw [if_neg hs, if_neg hs]
      exact ⟨_, _, _, rfl, rfl, hf.fault _⟩
-- ---- copies
theorem M_copy_loop {τ : k_S} {k o a b n : Nat} (hk : k < 4) (ho : o < 4) (ha : a + n ≤ 60) (hb : b + n ≤ 60) (old : qA) (ahead : Nat) (hah : (ahead = 0 ∧ (60 * o + b ≤ 60 * k + a ∨ 60 * k + a + n ≤ 60 * o + b)) ∨ (ahead = 1 ∧ (60 * k + a ≤ 60 * o + b ∨ 60 * o + b + n ≤ 60 * k + a))) : ∀ (d q f : Nat) (r : qA), q + d = n → d < f → (∀ p, r p = if (ahead = 0 ∧ 60 * o + b ≤ p ∧ p < 60 * o + b + q) ∨ (ahead = 1 ∧ 60 * o + b + (n - q) ≤ p ∧ p < 60 * o + b + n) then old (60 * k + a + (p - (60 * o + b))) else old p) → fX7_copy_c166 f (k_sA τ 2 r) (nI k) (nI a) (nI o) (nI b) (nI n) (nI ahead) (nI q) = some (nI n, k_sA τ 2 (va_cpy old old (60 * k + a) (60 * o + b) n)) := by
  intro d
  induction d with
  | zero =>
    intro q f r h1 h2 hr
    obtain ⟨f, rfl⟩ := q_fu 0 h2
    rw [fX7_copy_c166_s, if_neg (by simp (disch := omega) only [q_bn, q_ob, q_z0, q_z1, q_gd, q_cl, q_add, q_mul, q_lt, q_eq, q_eq0, q_lt0, q_0lt, q_ngl, q_ngr, q_ng0, q_ngz, q_ngn, q_ngp, q_nlt]; omega)]
    have e : r = va_cpy old old (60 * k + a) (60 * o + b) n := by
      funext p
      rw [hr p]
      unfold va_cpy
      by_cases hp : 60 * o + b ≤ p ∧ p < 60 * o + b + n
      · rw [if_pos (by omega), if_pos hp]
      · rw [if_neg (by omega), if_neg hp]
    rw [e]
  | succ d ih =>
    intro q f r h1 h2 hr
    obtain ⟨f, rfl⟩ := q_fu (d + 1) h2
    rw [fX7_copy_c166_s, if_pos (by simp (disch := omega) only [q_bn, q_ob, q_z0, q_z1, q_gd, q_cl, q_add, q_mul, q_lt, q_eq, q_eq0, q_lt0, q_0lt, q_ngl, q_ngr, q_ng0, q_ngz, q_ngn, q_ngp, q_nlt]; omega)]
    unfold fX7_copy_c190
    rcases hah with ⟨h0, hov⟩ | ⟨h0, hov⟩
    · subst h0
      rw [if_pos q_0i]
      simp (disch := omega) only [q_bn, q_ob, q_z0, q_z1, q_gd, q_cl, q_add, q_mul, q_lt, q_eq, q_eq0, q_lt0, q_0lt, q_ngl, q_ngr, q_ng0, q_ngz, q_ngn, q_ngp, q_nlt, s_sa, s_sA2, s_AA, if_true]
      refine ih (q + 1) f _ (by omega) (by omega) (fun p => ?_)
      by_cases hp : p = 60 * o + b + q
      · subst hp
        rw [pk_us, hr, if_neg (by omega), if_pos (by omega)]
        exact congrArg old (by omega)
      · rw [pk_un hp, hr p]
        by_cases h5 : 60 * o + b ≤ p ∧ p < 60 * o + b + q
        · rw [if_pos (by omega), if_pos (by omega)]
        · rw [if_neg (by omega), if_neg (by omega)]
    · subst h0
      rw [if_neg q_n1]
      simp (disch := omega) only [q_bn, q_ob, q_z0, q_z1, q_gd, q_cl, q_add, q_mul, q_lt, q_eq, q_eq0, q_lt0, q_0lt, q_ngl, q_ngr, q_ng0, q_ngz, q_ngn, q_ngp, q_nlt, s_sa, s_sA2, s_AA, if_true, q_sub]
      refine ih (q + 1) f _ (by omega) (by omega) (fun p => ?_)
      by_cases hp : p = 60 * o + b + (n - 1 - q)
      · subst hp
        rw [pk_us, hr, if_neg (by omega), if_pos (by omega)]
        exact congrArg old (by omega)
      · rw [pk_un hp, hr p]
        by_cases h5 : 60 * o + b + (n - q) ≤ p ∧ p < 60 * o + b + n
        · rw [if_pos (by omega), if_pos (by omega)]
        · rw [if_neg (by omega), if_neg (by omega)]
theorem pu_copy {σ τ : k_S} (h : RR σ τ) (x y z v w : Int32) : qOk (fX6_copy σ x y z v w) (fX7_copy τ x y z v w) := by
  have hf := h.fault (nI 0)
  unfold fX6_copy fX7_copy
  rw [q_bn, q_bn]
  generalize hσ : k_sf σ 1 (nI 0) = σ1 at hf ⊢
  generalize hτ : k_sf τ 0 (nI 0) = τ1 at hf ⊢
  rw [T_isSheet, M_isSheet, q_ob, q_ob]
  by_cases hx : x < nI 0 ∨ nI 3 < x
  · rw [if_pos hx, if_pos q_0i, if_pos q_0i]
    exact ⟨_, σ1, τ1, rfl, rfl, hf⟩
  rw [if_neg hx, if_neg q_n1, if_neg q_n1, T_isSheet, M_isSheet, q_ob, q_ob]
  by_cases hz : z < nI 0 ∨ nI 3 < z
  · rw [if_pos hz, if_pos q_0i, if_pos q_0i]
    exact ⟨_, σ1, τ1, rfl, rfl, hf⟩
  rw [if_neg hz, if_neg q_n1, if_neg q_n1]
  obtain ⟨k, hk, rfl⟩ := q_pass (by decide) hx
  obtain ⟨o, ho, rfl⟩ := q_pass (by decide) hz
  have hk4 : k < 4 := by omega
  have ho4 : o < 4 := by omega
  unfold fX6_copy_c43 fX7_copy_c43
  rw [T_hasRow hk4, q_ob]
  rcases hf.2.1 k hk4 with ⟨h1, h2⟩ | ⟨len, so, h3, h4, h5, h6, h7, h8, h9⟩
  · rw [if_pos h1, if_pos q_0i]
    simp (disch := omega) only [q_bn, q_ob, q_z0, q_z1, q_gd, q_cl, q_add, q_mul, q_lt, q_eq, q_eq0, q_lt0, q_0lt, q_ngl, q_ngr, q_ng0, q_ngz, q_ngn, q_ngp, q_nlt, h2, if_true]
    exact ⟨_, _, _, rfl, rfl, hf.fault _⟩
  have e9 : ¬ σ1.2 3 k = k_ng 9 := by rw [h5]; simp (disch := omega) only [q_bn, q_ob, q_z0, q_z1, q_gd, q_cl, q_add, q_mul, q_lt, q_eq, q_eq0, q_lt0, q_0lt, q_ngl, q_ngr, q_ng0, q_ngz, q_ngn, q_ngp, q_nlt]; exact not_false
  have e10 : ¬ τ1.2 0 k = k_ng 9 := by rw [h8]; simp (disch := omega) only [q_bn, q_ob, q_z0, q_z1, q_gd, q_cl, q_add, q_mul, q_lt, q_eq, q_eq0, q_lt0, q_0lt, q_ngl, q_ngr, q_ng0, q_ngz, q_ngn, q_ngp, q_nlt]; exact not_false
  rw [if_neg e9, if_neg q_n1, T_hasRow ho4, q_ob]
  simp (disch := omega) only [q_bn, q_ob, q_z0, q_z1, q_gd, q_cl, q_add, q_mul, q_lt, q_eq, q_eq0, q_lt0, q_0lt, q_ngl, q_ngr, q_ng0, q_ngz, q_ngn, q_ngp, q_nlt]
  rw [if_neg e10]
  rcases hf.2.1 o ho4 with ⟨h1, h2⟩ | ⟨len2, so2, i3, i4, i5, i6, i7, i8, i9⟩
  · rw [if_pos h1, if_pos q_0i, if_pos h2]
    exact ⟨_, _, _, rfl, rfl, hf.fault _⟩
  have f9 : ¬ σ1.2 3 o = k_ng 9 := by rw [i5]; simp (disch := omega) only [q_bn, q_ob, q_z0, q_z1, q_gd, q_cl, q_add, q_mul, q_lt, q_eq, q_eq0, q_lt0, q_0lt, q_ngl, q_ngr, q_ng0, q_ngz, q_ngn, q_ngp, q_nlt]; exact not_false
  have f10 : ¬ τ1.2 0 o = k_ng 9 := by rw [i8]; simp (disch := omega) only [q_bn, q_ob, q_z0, q_z1, q_gd, q_cl, q_add, q_mul, q_lt, q_eq, q_eq0, q_lt0, q_0lt, q_ngl, q_ngr, q_ng0, q_ngz, q_ngn, q_ngp, q_nlt]; exact not_false
  rw [if_neg f9, if_neg q_n1, if_neg f10, h7, i7, h8, i8]
  by_cases hs : ¬ nI so = nI so2
  · rw [if_neg hs, if_neg hs]
    exact ⟨_, _, _, rfl, rfl, hf.fault _⟩
  have hs := Decidable.not_not.mp hs
  rw [if_pos hs, if_pos hs, h6, i6]
  unfold fX7_copy_c109 fX7_copy_c110 fX7_copy_c144 fX6_copy_c105
  simp only [q_bn, if_pos q_0i]
  have hbad : ∀ X : Option (Int32 × k_S), ¬ (qCells len y w ∧ qCells len2 v w) → X = (k_ob (fX7_fails τ1 (nI 3)) fun r1 σ2 => some (r1, σ2)) → qOk (k_ob (fX2_hasCells σ1 (nI k) y w) fun r10 σ11 => if r10 = 0 then (k_ob (fX6_faulty σ11 (nI 3)) fun r1 σ2 => some (r1, σ2)) else k_ob (fX2_hasCells σ11 (nI o) v w) fun r12 σ13 => if r12 = 0 then (k_ob (fX6_faulty σ13 (nI 3)) fun r1 σ2 => some (r1, σ2)) else k_ob (fX2_move σ13 (nI k) y (nI o) v w) fun r14 σ15 => some (w, σ15)) X := by
    intro X hc hX
    subst hX
    rcases T_hasCells hk4 h5 h3 y w with ⟨q1, q2⟩ | ⟨q1, q2⟩
    · rcases T_hasCells ho4 i5 i3 v w with ⟨p1, p2⟩ | ⟨p1, p2⟩
      · exact absurd ⟨q2, p2⟩ hc
      · rw [q1, q_ob, if_neg q_n1, p1, q_ob, if_pos q_0i]
        exact ⟨_, _, _, rfl, rfl, hf.fault _⟩
    · rw [q1, q_ob, if_pos q_0i]
      exact ⟨_, _, _, rfl, rfl, hf.fault _⟩
  by_cases hy0 : y < 0
  · rw [if_pos hy0]
    refine hbad _ ?_ rfl
    rintro ⟨⟨a, b, rfl, -, hab⟩, -⟩
    rw [q_lt0 (by omega)] at hy0
    exact hy0
  by_cases hv0 : v < 0
  · rw [if_neg hy0, if_pos hv0]
    refine hbad _ ?_ rfl
    rintro ⟨-, ⟨a, b, rfl, -, hab⟩⟩
    rw [q_lt0 (by omega)] at hv0
    exact hv0
  by_cases hw0 : w < 0
  · rw [if_neg hy0, if_neg hv0, if_pos hw0]
    refine hbad _ ?_ rfl
    rintro ⟨⟨a, b, -, rfl, hab⟩, -⟩
    rw [q_lt0 (by omega)] at hw0
    exact hw0
  rw [if_neg hy0, if_neg hv0, if_neg hw0]
  obtain ⟨a, ha, rfl⟩ := nI_of hy0
  obtain ⟨b, hb, rfl⟩ := nI_of hv0
  obtain ⟨n, hn, rfl⟩ := nI_of hw0
  by_cases c1 : len < a
  · rw [if_pos (nI_lt c1 ha)]
    refine hbad _ ?_ rfl
    rintro ⟨⟨a', b', e1, -, hab⟩, -⟩
    rw [nI_eq ha (by omega)] at e1
    omega
  rw [if_neg (nI_nlt (by omega) (by omega))]
  by_cases c2 : len2 < b
  · rw [if_pos (nI_lt c2 hb)]
    refine hbad _ ?_ rfl
    rintro ⟨-, ⟨a', b', e1, -, hab⟩⟩
    rw [nI_eq hb (by omega)] at e1
    omega
  rw [if_neg (nI_nlt (by omega) (by omega)), if_neg q_n1]
  simp (disch := omega) only [q_bn, q_ob, q_z0, q_z1, q_gd, q_cl, q_add, q_mul, q_lt, q_eq, q_eq0, q_lt0, q_0lt, q_ngl, q_ngr, q_ng0, q_ngz, q_ngn, q_ngp, q_nlt, h6, i6, q_sub]
  by_cases c3 : len - a < n
  · rw [if_pos c3]
    refine hbad _ ?_ rfl
    rintro ⟨⟨a', b', e1, e2, hab⟩, -⟩
    rw [nI_eq ha (by omega)] at e1
    rw [nI_eq hn (by omega)] at e2
    omega
  rw [if_neg c3]
  by_cases c4 : len2 - b < n
  · rw [if_pos c4]
    refine hbad _ ?_ rfl
    rintro ⟨-, ⟨a', b', e1, e2, hab⟩⟩
    rw [nI_eq hb (by omega)] at e1
    rw [nI_eq hn (by omega)] at e2
    omega
  rw [if_neg c4]
  have q1 : fX2_hasCells σ1 (nI k) (nI a) (nI n) = some (nI 1, σ1) := by
    rcases T_hasCells hk4 h5 h3 (nI a) (nI n) with ⟨q1, q2⟩ | ⟨q1, q2⟩
    · exact q1
    · exact absurd ⟨a, n, rfl, rfl, by omega⟩ q2
  have p1 : fX2_hasCells σ1 (nI o) (nI b) (nI n) = some (nI 1, σ1) := by
    rcases T_hasCells ho4 i5 i3 (nI b) (nI n) with ⟨p1, p2⟩ | ⟨p1, p2⟩
    · exact p1
    · exact absurd ⟨b, n, rfl, rfl, by omega⟩ p2
  rw [q1, q_ob, if_neg q_n1, p1, q_ob, if_neg q_n1]
  unfold fX2_move k_gc fX7_copy_c161
  simp (disch := omega) only [q_bn, q_ob, q_z0, q_z1, q_gd, q_cl, q_add, q_mul, q_lt, q_eq, q_eq0, q_lt0, q_0lt, q_ngl, q_ngr, q_ng0, q_ngz, q_ngn, q_ngp, q_nlt, s_sc]
  rw [if_neg (by simp only [false_or]; omega)]
  have eT : va_cpy (σ1.2 1) (σ1.2 1) (k * 60 + a) (o * 60 + b) n = va_cpy (σ1.2 1) (σ1.2 1) (60 * k + a) (60 * o + b) n := by
    rw [Nat.mul_comm k 60, Nat.mul_comm o 60]
  have eM : ∀ ahead : Nat, ((ahead = 0 ∧ (60 * o + b ≤ 60 * k + a ∨ 60 * k + a + n ≤ 60 * o + b)) ∨ (ahead = 1 ∧ (60 * k + a ≤ 60 * o + b ∨ 60 * o + b + n ≤ 60 * k + a))) → fX7_copy_c166 k_F τ1 (nI k) (nI a) (nI o) (nI b) (nI n) (nI ahead) (nI 0) = some (nI n, k_sA τ1 2 (va_cpy (τ1.2 2) (τ1.2 2) (60 * k + a) (60 * o + b) n)) := by
    intro ahead hah
    have := M_copy_loop (τ := τ1) hk4 ho4 (show a + n ≤ 60 by omega) (show b + n ≤ 60 by omega) (τ1.2 2) ahead hah n 0 k_F (τ1.2 2) (by omega) (q_kF (by omega)) (fun p => by rw [if_neg (by omega)])
    rwa [s_Aid] at this
  have eR : RR (k_sA σ1 1 (va_cpy (σ1.2 1) (σ1.2 1) (60 * k + a) (60 * o + b) n)) (k_sA τ1 2 (va_cpy (τ1.2 2) (τ1.2 2) (60 * k + a) (60 * o + b) n)) := by
    obtain ⟨⟨G, N, m, K, hH⟩, hS, h0, h1⟩ := hf
    refine ⟨⟨G, N, m, K, hH.keep ⟨⟨rfl, rfl, rfl, rfl⟩, rfl, rfl, rfl, rfl, rfl, rfl, rfl, rfl, rfl⟩ ⟨⟨rfl, rfl, rfl, rfl⟩, rfl, rfl, rfl, rfl, rfl, rfl, rfl, rfl⟩⟩, fun k' hk' => ?_, h0, h1⟩
    show (σ1.2 3 k' = k_ng 9 ∧ τ1.2 0 k' = k_ng 9) ∨ ∃ len s, len ≤ 60 ∧ s ≤ 2 ∧ σ1.2 3 k' = nI len ∧ τ1.2 1 k' = nI len ∧ σ1.2 2 k' = nI s ∧ τ1.2 0 k' = nI s ∧ ∀ i, i < len → va_cpy (σ1.2 1) (σ1.2 1) (60 * k + a) (60 * o + b) n (60 * k' + i) = va_cpy (τ1.2 2) (τ1.2 2) (60 * k + a) (60 * o + b) n (60 * k' + i)
    rcases hS k' hk' with q | ⟨len', s, b1, b2, b3, b4, b5, b6, b7⟩
    · exact .inl q
    · refine .inr ⟨len', s, b1, b2, b3, b4, b5, b6, fun i hi => ?_⟩
      unfold va_cpy
      by_cases hp : 60 * o + b ≤ 60 * k' + i ∧ 60 * k' + i < 60 * o + b + n
      · rw [if_pos hp, if_pos hp]
        rw [show 60 * k + a + (60 * k' + i - (60 * o + b)) = 60 * k + (a + (60 * k' + i - (60 * o + b))) by omega]
        exact h9 _ (by omega)
      · rw [if_neg hp, if_neg hp]
        exact b7 i hi
  rw [eT]
  by_cases hab : a < b
  · rw [if_pos hab, eM 1 (.inr ⟨rfl, by omega⟩)]
    exact ⟨_, _, _, rfl, rfl, eR⟩
  · rw [if_neg hab, eM 0 (.inl ⟨rfl, by omega⟩)]
    exact ⟨_, _, _, rfl, rfl, eR⟩
