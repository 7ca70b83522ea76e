/-! ===== the law: guests choose; turn after turn; the end ===== -/
def QC (G N m K : Nat) (o : Option (Int32 × (k_S × k_S))) : Prop := ∃ s', o = some (nI 1, s') ∧ LR s' G N m K
theorem LR.setc {s : k_S × k_S} {G N m K k : Nat} {v : Int32} (h : LR s G N m K) (hk : k < G) (hv : hOwn s.1 N k v) : LR (k_sV (k_sA s.1 10 (upd (s.1.2 10) k v), s.2) 2 (nI k) v) G N m K := by
  have hG := h.1.2.1.2.1
  refine ⟨h.1.set hk hv, h.2.1, h.2.2.1, h.2.2.2.1, fun g hg => ?_⟩
  show upd (s.2.2 2) (nI k).toNatClampNeg v g = if g < G then upd (s.1.2 10) k v g else k_ng 9
  rw [q_cl (by omega)]
  by_cases e : g = k
  · rw [e, pk_us, pk_us, if_pos hk]
  · rw [pk_un e, pk_un e]
    exact h.2.2.2.2 g hg
theorem LR.samec {s : k_S × k_S} {G N m K k : Nat} (h : LR s G N m K) (hk : k < 5) : LR (k_sV s 2 (nI k) (s.2.2 2 k)) G N m K := by
  refine h.rows (s := s) (ρ' := k_sa s.2 2 (nI k) (s.2.2 2 k)) rfl rfl ?_
  funext j
  show upd (s.2.2 2) (nI k).toNatClampNeg (s.2.2 2 k) j = s.2.2 2 j
  rw [q_cl (by omega)]
  by_cases e : j = k
  · rw [e, pk_us]
  · rw [pk_un e]
theorem cg142 {kh3 : k_S × k_S → Int32 → Int32 → Option (Int32 × (k_S × k_S))} {x1 : Int32} {G N m K k : Nat} {s : k_S × k_S} (h : LR s G N m K) (hk : k < G) (hc : ∀ s', LR s' G N m K → QC G N m K (kh3 s' x1 (nI (k + 1)))) : (∀ v, (v = k_ng 9 ∨ ∃ x, x < N ∧ v = nI x ∧ s.1.2 6 x = nI k ∧ tMay s.1 x = nI 1) → QC G N m K (fL_choose_c142 kh3 s x1 (nI k) v (nI 1))) ∧ ∀ x, x < N → ¬ (s.1.2 6 x = nI k ∧ tMay s.1 x = nI 1) → QC G N m K (fL_choose_c142 kh3 s x1 (nI k) (nI x) (nI 0)) := by
  have hG := h.1.2.1.2.1
  refine ⟨fun v hv => ?_, fun x hx hn => ?_⟩
  · unfold fL_choose_c142
    rw [q_bn, h.1.choose hk hv, q_ob, q_bn, if_neg q_n1, q_gd (show k < 5 by omega) (by decide), q_cl (show k < 2 ^ 31 by omega)]
    unfold fL_choose_c167 fL_choose_c191
    rw [if_pos (show s.1.2 10 k = s.2.2 2 k from (h.c hk).symm), if_neg q_n1, q_gd (show k < 5 by omega) (by decide), q_bn, q_bn, q_add]
    refine hc _ (h.setc hk ?_)
    rcases hv with q | ⟨x, q1, q2, q3, -⟩
    · exact .inl q
    · exact .inr ⟨x, q1, q2, q3⟩
  · unfold fL_choose_c142
    rw [q_bn, h.1.choose_no hk hx hn, q_ob, q_bn, if_pos q_0i]
    unfold fL_choose_c167 fL_choose_c191
    rw [if_pos rfl, if_pos q_0i, q_gd (show k < 5 by omega) (by decide), q_gd (show k < 5 by omega) (by decide), q_cl (show k < 2 ^ 31 by omega), q_bn, q_bn, q_add]
    exact hc _ (h.samec (by omega))
theorem cg98 {kh3 : k_S × k_S → Int32 → Int32 → Option (Int32 × (k_S × k_S))} {x1 : Int32} {G N m K k j : Nat} {s : k_S × k_S} (hK : K ≤ 12) (h : LR s G N m K) (hk : k < G) (hj : j ≤ N) (hc : ∀ s', LR s' G N m K → QC G N m K (kh3 s' x1 (nI (k + 1)))) : QC G N m K (fL_choose_c98 kh3 s x1 (nI k) (nI j)) := by
  have hG := h.1.2.1.2.1
  have hN := h.1.2.1.2.2.1
  obtain ⟨c1, c2⟩ := cg142 (x1 := x1) h hk hc
  unfold fL_choose_c98
  rw [z1, y1, h.e1]
  by_cases e : j = N
  · rw [if_pos (by rw [e]), q_bn]
    unfold fL_choose_c110 fL_choose_c137
    rw [if_pos (by decide)]
    exact c1 _ (.inl rfl)
  · have hx : j < N := by omega
    rw [if_neg (by simp (disch := omega) only [q_bn, q_ob, q_z0, q_z1, q_gd, q_cl, q_add, q_mul, q_lt, q_eq, q_eq0, q_lt0, q_0lt, q_ngl, q_ngr, q_ng0, q_ngz, q_ngn, q_ngp, q_nlt]; exact e)]
    unfold fL_choose_c110 fL_choose_c137 fL_choose_c141
    rw [if_neg (by simp (disch := omega) only [q_bn, q_ob, q_z0, q_z1, q_gd, q_cl, q_add, q_mul, q_lt, q_eq, q_eq0, q_lt0, q_0lt, q_ngl, q_ngr, q_ng0, q_ngz, q_ngn, q_ngp, q_nlt]; exact not_false), q_add, q_gd (show 12 + j < 34 by omega) (by decide), q_cl (show 12 + j < 2 ^ 31 by omega), (h.2.2.1 j hx).2.1]
    by_cases ho : s.1.2 6 j = nI k
    · rw [if_pos ho, HR.may h.1 h.2 hK hx, q_oq]
      rcases pMay_b (s.1.2 5) (s.1.1 5) j (s.1.2 8 j) (s.1.2 9 j) (s.1.1 6) with q | q
      · rw [show tMay s.1 j = nI 0 from q, if_pos q_0i]
        exact c2 j hx (fun z => absurd (z.2.symm.trans q) (by decide))
      · rw [show tMay s.1 j = nI 1 from q, if_neg q_n1]
        exact c1 _ (.inr ⟨j, hx, rfl, ho, q⟩)
    · rw [if_neg ho]
      exact c2 j hx (fun z => ho z.1)
theorem cg30 {kh3 : k_S × k_S → Int32 → Int32 → Option (Int32 × (k_S × k_S))} {x1 : Int32} {G N m K k : Nat} {s : k_S × k_S} (hK : K ≤ 12) (hN1 : 1 ≤ N) (h : LR s G N m K) (hk : k < G) (hc : ∀ s', LR s' G N m K → QC G N m K (kh3 s' x1 (nI (k + 1)))) : ∀ (d y f j : Nat), y + d = N → d < f → j ≤ N → QC G N m K (fL_choose_c30 kh3 f s x1 (nI k) (nI j) (nI y)) := by
  have hG := h.1.2.1.2.1
  have hN := h.1.2.1.2.2.1
  intro d
  induction d with
  | zero =>
    intro y f j h1 h2 hj
    obtain ⟨f, rfl⟩ := q_fu 0 h2
    rw [fL_choose_c30_s, z1, y1, h.e1, if_neg (nI_nlt (by omega) (by omega))]
    exact cg98 hK h hk hj hc
  | succ d ih =>
    intro y f j h1 h2 hj
    obtain ⟨f, rfl⟩ := q_fu (d + 1) h2
    have e82 : QC G N m K (fL_choose_c82 kh3 (fL_choose_c30 kh3 f) s x1 (nI k) (nI j) (nI y)) := by
      unfold fL_choose_c82
      rw [z1, y1, h.e1, q_nz (by omega) (by omega), q_add, pk_rem (by omega) (by omega) (by omega), q_bn, q_bn, q_add]
      exact ih (y + 1) f _ (by omega) (by omega) (Nat.le_of_lt (Nat.mod_lt _ (by omega)))
    obtain ⟨i, hi, e1⟩ := ev_some ((x1 : Int32) >>> ((((nI 11) + nI k) : Int32) &&& 31)) (n := 3) (by decide) (by decide)
    rw [fL_choose_c30_s, z1, y1, h.e1, if_pos (nI_lt (by omega) (by omega)), e1, q_oq]
    by_cases c : 0 < nI i
    · rw [if_pos c, z1]
      by_cases e : j = N
      · rw [if_pos (by rw [e])]
        exact e82
      · have hx : j < N := by omega
        rw [if_neg (by simp (disch := omega) only [q_bn, q_ob, q_z0, q_z1, q_gd, q_cl, q_add, q_mul, q_lt, q_eq, q_eq0, q_lt0, q_0lt, q_ngl, q_ngr, q_ng0, q_ngz, q_ngn, q_ngp, q_nlt]; exact e), q_add, q_gd (show 12 + j < 34 by omega) (by decide), q_cl (show 12 + j < 2 ^ 31 by omega), (h.2.2.1 j hx).2.1]
        by_cases ho : s.1.2 6 j = nI k
        · rw [if_pos ho, HR.may h.1 h.2 hK hx, q_oq]
          by_cases c2 : tMay s.1 j = 0
          · rw [if_pos c2]; exact e82
          · rw [if_neg c2]; exact cg98 hK h hk hj hc
        · rw [if_neg ho]; exact e82
    · rw [if_neg c]
      exact cg98 hK h hk hj hc
theorem cg3 {x1 : Int32} {G N m K : Nat} (hK : K ≤ 12) (hN1 : 1 ≤ N) : ∀ (d k f : Nat) (s : k_S × k_S), k + d = G → d < f → LR s G N m K → QC G N m K (fL_choose_c3 f s x1 (nI k)) := by
  intro d
  induction d with
  | zero =>
    intro k f s h1 h2 h
    obtain ⟨f, rfl⟩ := q_fu 0 h2
    have hG := h.1.2.1.2.1
    rw [fL_choose_c3_s, z0, y0, h.e0, if_neg (nI_nlt (by omega) (by omega))]
    exact ⟨s, rfl, h⟩
  | succ d ih =>
    intro k f s h1 h2 h
    obtain ⟨f, rfl⟩ := q_fu (d + 1) h2
    have hG := h.1.2.1.2.1
    have hN := h.1.2.1.2.2.1
    obtain ⟨j, hj, e1⟩ := ev_some ((x1 : Int32) >>> ((((nI 2) * nI k) : Int32) &&& 31)) (n := N + 1) (by omega) (by omega)
    rw [fL_choose_c3_s, z0, y0, h.e0, if_pos (nI_lt (by omega) (by omega)), z1, y1, h.e1, q_add, e1, q_oq, q_bn, q_bn]
    exact cg30 hK hN1 h (by omega) (fun s' hs' => ih (k + 1) f s' (by omega) (by omega) hs') N 0 k_F j (by omega) (q_kF (by omega)) (by omega)
theorem cg {x1 : Int32} {G N m K : Nat} {s : k_S × k_S} (hK : K ≤ 12) (hN1 : 1 ≤ N) (h : LR s G N m K) : QC G N m K (fL_choose s x1) := by
  have hG := h.1.2.1.2.1
  unfold fL_choose
  rw [q_bn]
  exact cg3 hK hN1 G 0 k_F s (by omega) (q_kF (by omega)) h
theorem sg172 {Ls : Nat} {xs : Nat → Int32} {kh83 : k_S × k_S → Int32 → Option (Int32 × (k_S × k_S))} {l7 : Int32} {G N m K t : Nat} {s : k_S × k_S} (hLs : Ls ≤ 260) (hK : K ≤ 11) (ht : t ≤ 11) (hN1 : 1 ≤ N) (h : LR s G N m K) (hc : ∀ K' s', K' ≤ K + 1 → LR s' G N m K' → PS (kh83 s' (nI (t + 1)))) : PS (fL_law_c172 Ls xs kh83 s (nI t) l7) := by
  have hG := h.1.2.1.2.1
  have hN := h.1.2.1.2.2.1
  unfold fL_law_c172
  obtain ⟨v, e1⟩ := ev_cell Ls hLs xs (k := 12 + t % 6) (by omega)
  rw [pk_rem (by omega) (by decide) (by decide), q_add, e1, q_oq]
  obtain ⟨s', e2, h2⟩ := cg (x1 := ((v : Int32) >>> ((((nI t / (nI 6)) * (nI 4)) : Int32) &&& 31))) (show K ≤ 12 by omega) hN1 h
  rw [e2, q_ob, if_neg q_n1, q_bn]
  refine sg208 (by omega) (fun s2 hs2 => ?_) N 0 k_F s' (by omega) (q_kF (by omega)) h2
  unfold fL_law_c311
  rw [q_bn, q_bn]
  exact sg319 (by omega) (fun s3 hs3 => sg791 hK hs3 hc) G 0 k_F _ (by omega) (q_kF (by omega)) (hs2.rows (s := s2) (ρ' := k_sA s2.2 3 (fun _ => 0)) rfl rfl rfl)
theorem LR.mem {s : k_S × k_S} {G N m K v : Nat} (h : LR s G N m K) (hv : v ≤ 99) : LR (k_sV (k_sf s.1 5 (nI v), s.2) 0 (nI 32) (nI v)) G N v K := by
  have hN := h.1.2.1.2.2.1
  have g0 : ∀ i, (k_sV (k_sf s.1 5 (nI v), s.2) 0 (nI 32) (nI v)).2.2 0 i = if i = 32 then nI v else s.2.2 0 i := fun i => by
    show upd (s.2.2 0) (nI 32).toNatClampNeg (nI v) i = _
    rw [y32]
    by_cases e : i = 32
    · rw [if_pos e, e, pk_us]
    · rw [if_neg e, pk_un e]
  refine ⟨(h.1.memory hv).2, ⟨by rw [g0, if_neg (by decide)]; exact h.e0, by rw [g0, if_neg (by decide)]; exact h.e1, by rw [g0, if_pos rfl], by rw [g0, if_neg (by decide)]; exact h.e33⟩, fun x hx => ?_, h.2.2.2⟩
  rw [g0, g0, g0, if_neg (by omega), if_neg (by omega), if_neg (by omega)]
  exact h.2.2.1 x hx
theorem sg149 {Ls : Nat} {xs : Nat → Int32} {kh83 : k_S × k_S → Int32 → Option (Int32 × (k_S × k_S))} {l7 : Int32} {G N m K t v : Nat} {s : k_S × k_S} (hLs : Ls ≤ 260) (hK : K ≤ 11) (ht : t ≤ 11) (hN1 : 1 ≤ N) (hv : v ≤ 99) (h : LR s G N m K) (hc : ∀ m' K' s', K' ≤ K + 1 → LR s' G N m' K' → PS (kh83 s' (nI (t + 1)))) : PS (fL_law_c149 Ls xs kh83 s (nI t) l7 (nI v)) := by
  unfold fL_law_c149
  rw [q_bn, (h.1.memory hv).1, q_ob, q_bn, z32, y32, if_pos (show nI m = s.2.2 0 32 from h.e32.symm), z32, q_bn]
  exact sg172 hLs hK ht hN1 (h.mem hv) (hc v)
-- ---- the end: calls that are refused
theorem sg1286 {Ls : Nat} {xs : Nat → Int32} {G N m K : Nat} {s : k_S × k_S} (hN1 : 1 ≤ N) (h : LR s G N m K) : PS (fL_law_c1286 Ls xs s) := by
  have hG1 := h.1.2.1.1
  obtain ⟨c1, c2, c3⟩ := h.1.choose_out
  obtain ⟨m1, m2⟩ := T_memory_out s.1
  obtain ⟨n1, n2⟩ := h.1.ofNight_out (nI 0) (nI 0)
  obtain ⟨u1, u2⟩ := T_undo_out h.1
  obtain ⟨l1, l2⟩ := h.1.lay_out
  have t1 := h.1.tonight_out (nI 0)
  have t2 : fX6_tonight s.1 (nI 0) (nI 3) = some (k_ng 2, tN s.1 G) := h.1.tonight (show 0 < G by omega) (nI 3)
  have h2 := h.tN
  obtain ⟨r1, r2, -, -⟩ := h2.1.reply_out (nI 0)
  obtain ⟨-, -, r3, r4⟩ := h2.1.reply_out (nI 1)
  obtain ⟨b1, b2⟩ := T_bishop_out (tN s.1 G)
  obtain ⟨f1, f2⟩ := h2.1.ofTale_out hN1
  unfold fL_law_c1286
  rw [z0, y0, h.e0, q_bn, c1, q_ob, q_bn, if_pos rfl, z1, y1]
  show PS (k_ob (fX6_choose s.1 (nI 0) (s.2.2 0 1)) _)
  rw [h.e1, c2, q_ob, q_bn, if_pos rfl]
  show PS (k_ob (fX6_choose s.1 (nI 0) (k_ng 1)) _)
  rw [c3, q_ob, q_bn, if_pos rfl]
  show PS (k_ob (fX6_memory s.1 (nI 100)) _)
  rw [m1, q_ob, q_bn, if_pos rfl]
  show PS (k_ob (fX6_memory s.1 (k_ng 1)) _)
  rw [m2, q_ob, q_bn, if_pos rfl, z33, y33]
  show PS (k_ob (fX6_ofNight s.1 (s.2.2 0 33) (nI 0) (nI 0)) _)
  rw [h.e33, n1, q_ob, q_bn, if_pos rfl]
  show PS (k_ob (fX6_ofNight s.1 (k_ng 1) (nI 0) (nI 0)) _)
  rw [n2, q_ob, q_bn, if_pos rfl]
  show PS (fL_law_c1371 Ls xs s (nI G))
  unfold fL_law_c1371
  rw [z33, y33, h.e33, q_add, u1, q_ob, q_bn, if_pos rfl]
  show PS (k_ob (fX6_undo s.1 (k_ng 1)) _)
  rw [u2, q_ob, q_bn, if_pos rfl]
  show PS (k_ob (fX6_lay s.1 (nI G) (nI 0)) _)
  rw [l1, q_ob, q_bn, if_pos rfl]
  show PS (k_ob (fX6_lay s.1 (nI 0) (nI G)) _)
  rw [l2, q_ob, q_bn, if_pos rfl]
  show PS (k_ob (fX6_tonight s.1 (nI G) (nI 0)) _)
  rw [t1, q_ob, q_bn, if_pos rfl]
  show PS (k_ob (fX6_tonight s.1 (nI 0) (nI 3)) _)
  rw [t2, q_ob, q_bn, if_pos rfl]
  show PS (fL_law_c1440 Ls xs (tN s.1 G, s.2) (nI G))
  unfold fL_law_c1440
  rw [T_answer _ _ _ r1, q_ob, q_bn, if_pos rfl]
  show PS (k_ob (fX6_answer (tN s.1 G) (nI 0) (nI 2)) _)
  rw [T_answer _ _ _ r2, q_ob, q_bn, if_pos rfl]
  show PS (k_ob (fX6_borrowed (tN s.1 G) (k_ng 1) (nI 0)) _)
  rw [T_borrowed _ _ _ r3, q_ob, q_bn, if_pos rfl]
  show PS (k_ob (fX6_borrowed (tN s.1 G) (nI 0) (k_ng 1)) _)
  rw [T_borrowed _ _ _ r4, q_ob, q_bn, if_pos rfl]
  show PS (k_ob (fX6_bishop (tN s.1 G) (nI 1000)) _)
  rw [b1, q_ob, q_bn, if_pos rfl]
  show PS (k_ob (fX6_bishop (tN s.1 G) (k_ng 1)) _)
  rw [b2, q_ob, q_bn, if_pos rfl, z1, y1]
  show PS (k_ob (fX6_ofTale (tN s.1 G) (s.2.2 0 1) (nI 0)) _)
  rw [h.e1, f1, q_ob, q_bn, if_pos rfl]
  show PS (k_ob (fX6_ofTale (tN s.1 G) (nI 0) (nI 7)) _)
  rw [f2, q_ob, q_bn, if_pos rfl]
  exact ⟨_, rfl⟩
theorem sg83 {Ls : Nat} {xs : Nat → Int32} {G N : Nat} (hLs : Ls ≤ 260) (hN1 : 1 ≤ N) : ∀ (n t m K : Nat) (s : k_S × k_S), t + n = 12 → t ≤ 11 → K ≤ t → LR s G N m K → PS (fL_law_c83 Ls xs n s (nI t)) := by
  intro n
  induction n with
  | zero => intro t m K s h1 h2; omega
  | succ n ih =>
    intro t m K s h1 h2 hK h
    rw [fL_law_c83_s]
    by_cases c : t < 11
    · rw [if_pos (nI_lt c (by omega)), pk_rem (by omega) (by decide) (by decide), q_add]
      obtain ⟨v, e1⟩ := ev_cell Ls hLs xs (k := 5 + t % 7) (by omega)
      rw [e1, q_oq, q_bn]
      have hc : ∀ m' K' s', K' ≤ K + 1 → LR s' G N m' K' → PS (fL_law_c83 Ls xs n s' (nI (t + 1))) := fun m' K' s' hk hs => ih (t + 1) m' K' s' (by omega) (by omega) (by omega) hs
      generalize ((v : Int32) >>> ((((nI t / (nI 7)) * (nI 3)) : Int32) &&& 31)) = z
      obtain ⟨j, hj, e2⟩ := ev_some ((z : Int32) >>> (((nI 9) : Int32) &&& 31)) (n := 3) (by decide) (by decide)
      rw [e2, q_oq]
      split
      · obtain ⟨i, hi, e3⟩ := ev_some ((z : Int32) >>> (((nI 11) : Int32) &&& 31)) (n := 4) (by decide) (by decide)
        rw [e3, q_oq]
        split
        · exact sg149 hLs (by omega) h2 hN1 (by decide) h hc
        · obtain ⟨w, hw, e4⟩ := ev_some ((z : Int32) >>> (((nI 11) : Int32) &&& 31)) (n := 5) (by decide) (by decide)
          rw [e4, q_oq]
          exact sg149 hLs (by omega) h2 hN1 (by omega) h hc
      · exact sg172 hLs (by omega) h2 hN1 h (hc m)
    · rw [if_neg (nI_nlt (by omega) (by omega))]
      exact sg1286 hN1 h
