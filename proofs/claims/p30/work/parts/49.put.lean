/-! ===== the inn's text, written and read ===== -/
def k_s0T : k_S := (fun _ => 0, k_up (fun _ _ => 0) 3 (k_fl (fun _ => 0) 0 4 (-9)))
def k_s0R : k_S := (fun _ => 0, fun _ _ => 0)
theorem kTh.tr {a b c : k_S} (h1 : kTh a b) (h2 : kTh b c) : kTh a c := by
  obtain ⟨⟨a1, a2, a3, a4⟩, a5, a6, a7, a8, a9, a10, a11, a12, a13⟩ := h1
  obtain ⟨⟨b1, b2, b3, b4⟩, b5, b6, b7, b8, b9, b10, b11, b12, b13⟩ := h2
  exact ⟨⟨b1.trans a1, b2.trans a2, b3.trans a3, b4.trans a4⟩, b5.trans a5, b6.trans a6, b7.trans a7, b8.trans a8, b9.trans a9, b10.trans a10, b11.trans a11, b12.trans a12, b13.trans a13⟩
def PW (σ τ : k_S) (p v : Nat) : Prop := kTh σ τ ∧ τ.2 2 = σ.2 2 ∧ τ.2 3 = σ.2 3 ∧ τ.2 1 = upd (σ.2 1) p (nI v)
theorem q_b8 : ∀ v, v < 128 → (nI v).toInt8.toInt32 = nI v := by decide +kernel
theorem T_put {σ : k_S} {p v : Nat} (h3 : σ.2 3 0 = nI 60) (h2 : σ.2 2 0 = nI 0) (hp : p < 60) (hv : v < 128) : ∃ τ, fX6_put σ (nI 0) (nI p) (nI v) = some (nI 1, τ) ∧ PW σ τ p v := by
  refine ⟨k_sA (k_sf σ 1 (nI 0)) 1 (upd (σ.2 1) p (nI v)), ?_, ⟨⟨rfl, rfl, rfl, rfl⟩, rfl, rfl, rfl, rfl, rfl, rfl, rfl, rfl, rfl⟩, rfl, rfl, rfl⟩
  unfold fX6_put
  rw [q_bn, T_isSheet, q_ob, if_neg (show ¬ (nI 0 < nI 0 ∨ nI 3 < nI 0) by decide), if_neg q_n1, T_hasRow (by decide), q_ob, if_neg (show ¬ (k_sf σ 1 (nI 0)).2 3 0 = k_ng 9 by
    show ¬ σ.2 3 0 = k_ng 9
    rw [h3]; decide), if_neg q_n1]
  rcases T_hasCells (σ := k_sf σ 1 (nI 0)) (k := 0) (by decide) h3 (Nat.le_refl 60) (nI p) (nI 1) with ⟨q1, -⟩ | ⟨-, q2⟩
  · rw [q1, q_ob, if_neg q_n1]
    unfold fX2_write fX2_write_c16 fX2_write_c30
    rw [q_bn, q_gd (by decide) (by decide), y0, if_pos (show (k_sf σ 1 (nI 0)).2 2 0 = 0 from h2), q_bn, q_b8 v hv, q_gd (by decide) (by decide), if_neg (show ¬ (k_sf σ 1 (nI 0)).2 2 0 = nI 1 by
      show ¬ σ.2 2 0 = nI 1
      rw [h2]; decide), q_mul, q_add, q_gd (show 0 * 60 + p < 240 by omega) (by decide), q_bn, q_ob, s_sa, q_cl (show 0 * 60 + p < 2 ^ 31 by omega), show 0 * 60 + p = p by omega]
    rfl
  · exact absurd ⟨p, 1, rfl, rfl, by omega⟩ q2
theorem T_sheet (σ : k_S) : ∃ τ, fX6_sheet σ (nI 0) (nI 0) (nI 60) = some (nI 1, τ) ∧ kTh σ τ ∧ τ.2 2 0 = nI 0 ∧ τ.2 3 0 = nI 60 := by
  unfold fX6_sheet
  rw [q_bn, T_isSheet, q_ob, if_neg (show ¬ (nI 0 < nI 0 ∨ nI 3 < nI 0) by decide), if_neg q_n1, T_isSort, q_ob, if_neg (show ¬ (nI 0 < nI 0 ∨ nI 2 < nI 0) by decide), if_neg q_n1, if_neg (show ¬ nI 60 < nI 60 by decide), if_neg (show ¬ nI 60 < 0 by decide)]
  unfold fX2_makeRow k_gf
  rw [q_gd (by decide) (by decide), q_bn, q_gd (by decide) (by decide), q_bn, if_neg (show ¬ ((nI 0) * (nI 60) + (nI 60) < (nI 0) * (nI 60) ∨ (nI 0) * (nI 60) < 0 ∨ nI 240 < (nI 0) * (nI 60) + (nI 60)) by decide), q_bn, q_ob]
  exact ⟨_, rfl, ⟨⟨rfl, rfl, rfl, rfl⟩, rfl, rfl, rfl, rfl, rfl, rfl, rfl, rfl, rfl⟩, rfl, rfl⟩
def ltr (kd : Nat) : Nat := if kd = 0 then 116 else if kd = 1 then 103 else 119
def PY (s : k_S × k_S) (G y : Nat) : Prop := ∃ kd ow hg, kd < 3 ∧ ow < G ∧ 1 ≤ hg ∧ hg ≤ 99 ∧ (s.2.2 0 (2 + y) = nI kd ∧ s.2.2 0 (12 + y) = nI ow ∧ s.2.2 0 (22 + y) = nI hg) ∧ s.1.2 1 (2 + 5 * y) = nI 59 ∧ s.1.2 1 (3 + 5 * y) = nI (ltr kd) ∧ s.1.2 1 (4 + 5 * y) = nI (48 + ow) ∧ s.1.2 1 (5 + 5 * y) = nI (48 + hg / 10) ∧ s.1.2 1 (6 + 5 * y) = nI (48 + hg % 10)
def PB (s : k_S × k_S) (G N : Nat) : Prop := (kTh k_s0T s.1 ∧ s.1.2 2 0 = nI 0 ∧ s.1.2 3 0 = nI 60) ∧ (s.2.2 0 0 = nI G ∧ s.2.2 0 1 = nI N ∧ s.2.2 0 32 = nI 99 ∧ s.2.2 0 33 = nI 0)
def PI (s : k_S × k_S) (G N x : Nat) : Prop := PB s G N ∧ s.1.2 1 0 = nI 105 ∧ s.1.2 1 1 = nI (48 + G) ∧ ∀ y, y < x → PY s G y
theorem sg195 {Ls : Nat} {xs : Nat → Int32} {kh96 : k_S × k_S → Int32 → Int32 → Int32 → Int32 → Option (Int32 × (k_S × k_S))} {l2 l5 : Int32} {s : k_S × k_S} {x kd ow hg : Nat} (hx : x < 10) (h2 : s.1.2 2 0 = nI 0) (h3 : s.1.2 3 0 = nI 60) (hkd : kd < 3) (how : ow < 5) (hhg : hg ≤ 99) (r1 : s.2.2 0 (2 + x) = nI kd) (r2 : s.2.2 0 (12 + x) = nI ow) (r3 : s.2.2 0 (22 + x) = nI hg) : ∃ τ, fL_put_c195 Ls xs kh96 s l2 l5 (nI (2 + 5 * x)) (nI x) = kh96 (τ, s.2) l2 l5 (nI (2 + 5 * (x + 1))) (nI (x + 1)) ∧ kTh s.1 τ ∧ τ.2 2 = s.1.2 2 ∧ τ.2 3 = s.1.2 3 ∧ ∀ j, τ.2 1 j = if j = 6 + 5 * x then nI (48 + hg % 10) else if j = 5 + 5 * x then nI (48 + hg / 10) else if j = 4 + 5 * x then nI (48 + ow) else if j = 3 + 5 * x then nI (ltr kd) else if j = 2 + 5 * x then nI 59 else s.1.2 1 j := by
  have hl : ltr kd < 128 := by
    unfold ltr
    repeat' split
    all_goals omega
  obtain ⟨τ1, e1, a1, a2, a3, a4⟩ := T_put h3 h2 (show 2 + 5 * x < 60 by omega) (show 59 < 128 by decide)
  obtain ⟨τ2, e2, b1, b2, b3, b4⟩ := T_put (σ := τ1) (by rw [a3]; exact h3) (by rw [a2]; exact h2) (show 3 + 5 * x < 60 by omega) hl
  obtain ⟨τ3, e3, c1, c2, c3, c4⟩ := T_put (σ := τ2) (by rw [b3, a3]; exact h3) (by rw [b2, a2]; exact h2) (show 4 + 5 * x < 60 by omega) (show 48 + ow < 128 by omega)
  obtain ⟨τ4, e4, d1, d2, d3, d4⟩ := T_put (σ := τ3) (by rw [c3, b3, a3]; exact h3) (by rw [c2, b2, a2]; exact h2) (show 5 + 5 * x < 60 by omega) (show 48 + hg / 10 < 128 by omega)
  obtain ⟨τ5, e5, f1, f2, f3, f4⟩ := T_put (σ := τ4) (by rw [d3, c3, b3, a3]; exact h3) (by rw [d2, c2, b2, a2]; exact h2) (show 6 + 5 * x < 60 by omega) (show 48 + hg % 10 < 128 by omega)
  refine ⟨τ5, ?_, a1.tr (b1.tr (c1.tr (d1.tr f1))), by rw [f2, d2, c2, b2, a2], by rw [f3, d3, c3, b3, a3], fun j => by rw [f4, d4, c4, b4, a4]; rfl⟩
  have fin : fL_put_c251 Ls xs kh96 (τ1, s.2) l2 l5 (nI (4 + 5 * x)) (nI x) (nI 0) (nI (3 + 5 * x)) (nI (ltr kd)) = kh96 (τ5, s.2) l2 l5 (nI (2 + 5 * (x + 1))) (nI (x + 1)) := by
    unfold fL_put_c251
    rw [show fX6_put ((τ1, s.2) : k_S × k_S).1 (nI 0) (nI (3 + 5 * x)) (nI (ltr kd)) = some (nI 1, τ2) from e2, q_ob, q_bn, if_pos rfl, q_bn, q_add, q_add, q_gd (show 12 + x < 34 by omega) (by decide), q_cl (show 12 + x < 2 ^ 31 by omega)]
    show k_ob (fX6_put τ2 (nI 0) (nI (4 + 5 * x)) (nI 48 + s.2.2 0 (12 + x))) _ = _
    rw [r2, q_add, e3, q_ob, q_bn, if_pos rfl, q_bn, q_add, q_add, q_gd (show 22 + x < 34 by omega) (by decide), q_cl (show 22 + x < 2 ^ 31 by omega)]
    show k_ob (fX6_put τ3 (nI 0) (nI (4 + 5 * x + 1)) (nI 48 + s.2.2 0 (22 + x) / nI 10)) _ = _
    rw [r3, pk_div (by omega) (by decide) (by decide), q_add, show 4 + 5 * x + 1 = 5 + 5 * x by omega, e4, q_ob, q_bn, if_pos rfl, q_bn, q_add, q_gd (show 22 + x < 34 by omega) (by decide)]
    show k_ob (fX6_put τ4 (nI 0) (nI (5 + 5 * x + 1)) (nI 48 + (s.2.2 0 (22 + x) - s.2.2 0 (22 + x) / nI 10 * nI 10))) _ = _
    rw [r3, pk_rem (by omega) (by decide) (by decide), q_add, show 5 + 5 * x + 1 = 6 + 5 * x by omega, e5, q_ob, q_bn, if_pos rfl, q_bn, q_add]
    rw [show 6 + 5 * x + 1 = 2 + 5 * (x + 1) by omega]
  unfold fL_put_c195
  rw [q_bn, e1, q_ob, q_bn, if_pos rfl, q_bn, q_add, q_add, q_add, q_gd (show 2 + x < 34 by omega) (by decide), q_cl (show 2 + x < 2 ^ 31 by omega)]
  rw [show 2 + 5 * x + 1 + 1 = 4 + 5 * x by omega, show 2 + 5 * x + 1 = 3 + 5 * x by omega]
  rw [show ((τ1, s.2) : k_S × k_S).2.2 0 (2 + x) = nI kd from r1]
  rw [← fin]
  rcases (show kd = 0 ∨ kd = 1 ∨ kd = 2 by omega) with rfl | rfl | rfl
  · rw [if_pos q_0i]; rfl
  · rw [if_neg q_n1, q_gd (show 2 + x < 34 by omega) (by decide), if_pos rfl]; rfl
  · rw [if_neg (by decide), q_gd (show 2 + x < 34 by omega) (by decide), if_neg (by decide)]; rfl
theorem sg96 {Ls : Nat} {xs : Nat → Int32} {v2 : Int32} {G N : Nat} (hLs : Ls ≤ 260) (hG : 2 ≤ G ∧ G ≤ 5) (hN : N ≤ 10) : ∀ (d x f : Nat) (s : k_S × k_S), x + d = N → d < f → PI s G N x → ∃ s', fL_put_c96 Ls xs f s (nI 0) v2 (nI (2 + 5 * x)) (nI x) = some (nI (2 + 5 * N), s') ∧ PI s' G N N := by
  intro d
  induction d with
  | zero =>
    intro x f s h1 h2 h
    obtain ⟨f, rfl⟩ := q_fu 0 h2
    obtain rfl : x = N := by omega
    rw [fL_put_c96_s, z1, y1, h.1.2.2.1, if_neg (nI_nlt (by omega) (by omega))]
    exact ⟨s, rfl, h⟩
  | succ d ih =>
    intro x f s h1 h2 h
    obtain ⟨f, rfl⟩ := q_fu (d + 1) h2
    obtain ⟨v, e1⟩ := ev_cell Ls hLs xs (k := 0 + 1 + x % 4) (by omega)
    rw [fL_put_c96_s, z1, y1, h.1.2.2.1, if_pos (nI_lt (by omega) (by omega)), pk_rem (by omega) (by decide) (by decide), q_add, q_add, e1, q_oq, q_bn]
    generalize ((v : Int32) >>> ((((nI x / (nI 4)) * (nI 9)) : Int32) &&& 31)) = z
    obtain ⟨kd, hkd, e2⟩ := ev_some z (n := 3) (by decide) (by decide)
    obtain ⟨ow, how, e3⟩ := ev_some ((z : Int32) >>> (((nI 1) : Int32) &&& 31)) (n := G) (by omega) (by omega)
    rw [e2, q_oq, q_add, q_gd (show 2 + x < 34 by omega) (by decide), q_bn, z0, y0]
    rw [show (k_sV s 0 (nI (2 + x)) (nI kd)).2.2 0 0 = nI G by
      show upd (s.2.2 0) (nI (2 + x)).toNatClampNeg (nI kd) 0 = nI G
      rw [q_cl (by omega), pk_un (by omega)]; exact h.1.2.1]
    rw [e3, q_oq, q_add, q_gd (show 12 + x < 34 by omega) (by decide), q_bn]
    have fin : ∀ n, 1 ≤ n → n ≤ 99 → ∃ s', fL_put_c190 Ls xs (fL_put_c96 Ls xs f) (k_sV (k_sV s 0 (nI (2 + x)) (nI kd)) 0 (nI (12 + x)) (nI ow)) (nI 0) v2 (nI (2 + 5 * x)) (nI x) (nI 22 + nI x) (nI 1) ((z : Int32) >>> (((nI 3) : Int32) &&& 31)) (nI n) = some (nI (2 + 5 * N), s') ∧ PI s' G N N := by
      intro n hn1 hn2
      obtain ⟨i, hi, e4⟩ := ev_some ((z : Int32) >>> (((nI 3) : Int32) &&& 31)) (n := n) (by omega) (by omega)
      unfold fL_put_c190
      rw [e4, q_oq, q_add, q_gd (show 22 + x < 34 by omega) (by decide), q_bn, q_add]
      have hr : ∀ j, (k_sV (k_sV (k_sV s 0 (nI (2 + x)) (nI kd)) 0 (nI (12 + x)) (nI ow)) 0 (nI (22 + x)) (nI (1 + i))).2.2 0 j = if j = 22 + x then nI (1 + i) else if j = 12 + x then nI ow else if j = 2 + x then nI kd else s.2.2 0 j := fun j => by
        show upd (upd (upd (s.2.2 0) (nI (2 + x)).toNatClampNeg (nI kd)) (nI (12 + x)).toNatClampNeg (nI ow)) (nI (22 + x)).toNatClampNeg (nI (1 + i)) j = _
        rw [q_cl (by omega), q_cl (by omega), q_cl (by omega)]
        rfl
      have hs1 : (k_sV (k_sV (k_sV s 0 (nI (2 + x)) (nI kd)) 0 (nI (12 + x)) (nI ow)) 0 (nI (22 + x)) (nI (1 + i))).1 = s.1 := rfl
      generalize k_sV (k_sV (k_sV s 0 (nI (2 + x)) (nI kd)) 0 (nI (12 + x)) (nI ow)) 0 (nI (22 + x)) (nI (1 + i)) = s2 at hr hs1 ⊢
      obtain ⟨⟨⟨p1, p2, p3⟩, p4, p5, p6, p7⟩, p8, p9, p10⟩ := h
      obtain ⟨τ, u1, u2, u3, u4, u5⟩ := sg195 (Ls := Ls) (xs := xs) (kh96 := fL_put_c96 Ls xs f) (l2 := nI 0) (l5 := v2) (s := s2) (x := x) (kd := kd) (ow := ow) (hg := 1 + i) (by omega) (by rw [hs1]; exact p2) (by rw [hs1]; exact p3) hkd (by omega) (by omega) (by rw [hr, if_neg (by omega), if_neg (by omega), if_pos rfl]) (by rw [hr, if_neg (by omega), if_pos rfl]) (by rw [hr, if_pos rfl])
      rw [u1]
      rw [hs1] at u2 u3 u4 u5
      refine ih (x + 1) f (τ, s2.2) (by omega) (by omega) ⟨⟨⟨p1.tr u2, ?_, ?_⟩, ?_, ?_, ?_, ?_⟩, ?_, ?_, fun y hy => ?_⟩
      · show τ.2 2 0 = nI 0
        rw [u3]; exact p2
      · show τ.2 3 0 = nI 60
        rw [u4]; exact p3
      · show s2.2.2 0 0 = nI G
        rw [hr, if_neg (by omega), if_neg (by omega), if_neg (by omega)]; exact p4
      · show s2.2.2 0 1 = nI N
        rw [hr, if_neg (by omega), if_neg (by omega), if_neg (by omega)]; exact p5
      · show s2.2.2 0 32 = nI 99
        rw [hr, if_neg (by omega), if_neg (by omega), if_neg (by omega)]; exact p6
      · show s2.2.2 0 33 = nI 0
        rw [hr, if_neg (by omega), if_neg (by omega), if_neg (by omega)]; exact p7
      · show τ.2 1 0 = nI 105
        rw [u5, if_neg (by omega), if_neg (by omega), if_neg (by omega), if_neg (by omega), if_neg (by omega)]; exact p8
      · show τ.2 1 1 = nI (48 + G)
        rw [u5, if_neg (by omega), if_neg (by omega), if_neg (by omega), if_neg (by omega), if_neg (by omega)]; exact p9
      · by_cases e : y = x
        · subst e
          refine ⟨kd, ow, 1 + i, hkd, how, by omega, by omega, ⟨?_, ?_, ?_⟩, ?_, ?_, ?_, ?_, ?_⟩
          · show s2.2.2 0 (2 + y) = nI kd
            rw [hr, if_neg (by omega), if_neg (by omega), if_pos rfl]
          · show s2.2.2 0 (12 + y) = nI ow
            rw [hr, if_neg (by omega), if_pos rfl]
          · show s2.2.2 0 (22 + y) = nI (1 + i)
            rw [hr, if_pos rfl]
          · show τ.2 1 _ = _
            rw [u5, if_neg (by omega), if_neg (by omega), if_neg (by omega), if_neg (by omega), if_pos rfl]
          · show τ.2 1 _ = _
            rw [u5, if_neg (by omega), if_neg (by omega), if_neg (by omega), if_pos rfl]
          · show τ.2 1 _ = _
            rw [u5, if_neg (by omega), if_neg (by omega), if_pos rfl]
          · show τ.2 1 _ = _
            rw [u5, if_neg (by omega), if_pos rfl]
          · show τ.2 1 _ = _
            rw [u5, if_pos rfl]
        · obtain ⟨kd', ow', hg', w1, w2, w3, w4, ⟨w5, w6, w7⟩, w8, w9, w10, w11, w12⟩ := p10 y (by omega)
          refine ⟨kd', ow', hg', w1, w2, w3, w4, ⟨?_, ?_, ?_⟩, ?_, ?_, ?_, ?_, ?_⟩
          · show s2.2.2 0 (2 + y) = nI kd'
            rw [hr, if_neg (by omega), if_neg (by omega), if_neg (by omega)]; exact w5
          · show s2.2.2 0 (12 + y) = nI ow'
            rw [hr, if_neg (by omega), if_neg (by omega), if_neg (by omega)]; exact w6
          · show s2.2.2 0 (22 + y) = nI hg'
            rw [hr, if_neg (by omega), if_neg (by omega), if_neg (by omega)]; exact w7
          all_goals
            show τ.2 1 _ = _
            rw [u5, if_neg (by omega), if_neg (by omega), if_neg (by omega), if_neg (by omega), if_neg (by omega)]
          · exact w8
          · exact w9
          · exact w10
          · exact w11
          · exact w12
    obtain ⟨j, hj, e5⟩ := ev_some ((v2 : Int32) >>> (((nI 7) : Int32) &&& 31)) (n := 2) (by decide) (by decide)
    rw [e5, q_oq]
    by_cases c : nI j = 0
    · rw [if_pos c]
      exact fin 99 (by decide) (by decide)
    · rw [if_neg c]
      exact fin 25 (by decide) (by decide)
theorem sgput {Ls : Nat} {xs : Nat → Int32} (hLs : Ls ≤ 260) : ∃ G N s', (2 ≤ G ∧ G ≤ 5) ∧ (1 ≤ N ∧ N ≤ 10) ∧ fL_put Ls xs (k_s0T, k_s0R) (nI 0) (nI 10) = some (nI (2 + 5 * N), s') ∧ PI s' G N N := by
  obtain ⟨v, e1⟩ := ev_cell Ls hLs xs (k := 0) (by decide)
  obtain ⟨g, hg, e2⟩ := ev_some v (n := 4) (by decide) (by decide)
  obtain ⟨t, ht, e3⟩ := ev_some ((v : Int32) >>> (((nI 3) : Int32) &&& 31)) (n := 10) (by decide) (by decide)
  unfold fL_put
  rw [e1, q_oq, q_bn, e2, q_oq, z0, q_bn, e3, q_oq, z1, q_bn, z32, q_bn, z33, q_bn, q_add, q_add]
  have hr : ∀ j, (k_sV (k_sV (k_sV (k_sV ((k_s0T, k_s0R) : k_S × k_S) 0 (nI 0) (nI (2 + g))) 0 (nI 1) (nI (1 + t))) 0 (nI 32) (nI 99)) 0 (nI 33) (nI 0)).2.2 0 j = if j = 33 then nI 0 else if j = 32 then nI 99 else if j = 1 then nI (1 + t) else if j = 0 then nI (2 + g) else k_s0R.2 0 j := fun j => by
    show upd (upd (upd (upd (k_s0R.2 0) (nI 0).toNatClampNeg (nI (2 + g))) (nI 1).toNatClampNeg (nI (1 + t))) (nI 32).toNatClampNeg (nI 99)) (nI 33).toNatClampNeg (nI 0) j = _
    rw [y0, y1, y32, y33]
    rfl
  have hs1 : (k_sV (k_sV (k_sV (k_sV ((k_s0T, k_s0R) : k_S × k_S) 0 (nI 0) (nI (2 + g))) 0 (nI 1) (nI (1 + t))) 0 (nI 32) (nI 99)) 0 (nI 33) (nI 0)).1 = k_s0T := rfl
  generalize k_sV (k_sV (k_sV (k_sV ((k_s0T, k_s0R) : k_S × k_S) 0 (nI 0) (nI (2 + g))) 0 (nI 1) (nI (1 + t))) 0 (nI 32) (nI 99)) 0 (nI 33) (nI 0) = s at hr hs1 ⊢
  obtain ⟨τ1, u1, u2, u3, u4⟩ := T_sheet s.1
  obtain ⟨τ2, e4, a1, a2, a3, a4⟩ := T_put (σ := τ1) u4 u3 (show 0 < 60 by decide) (show 105 < 128 by decide)
  obtain ⟨τ3, e5, b1, b2, b3, b4⟩ := T_put (σ := τ2) (by rw [a3]; exact u4) (by rw [a2]; exact u3) (show 1 < 60 by decide) (show 48 + (2 + g) < 128 by omega)
  unfold fL_put_c46
  rw [u1, q_ob, q_bn, if_pos rfl]
  show ∃ G N s', _ ∧ _ ∧ k_ob (fX6_put τ1 (nI 0) (nI 0) (nI 105)) _ = _ ∧ _
  rw [e4, q_ob, q_bn, if_pos rfl, z0, y0]
  show ∃ G N s', _ ∧ _ ∧ k_ob (fX6_put τ2 (nI 0) (nI 1) (nI 48 + s.2.2 0 0)) _ = _ ∧ _
  rw [show s.2.2 0 0 = nI (2 + g) by rw [hr, if_neg (by decide), if_neg (by decide), if_neg (by decide), if_pos rfl], q_add, e5, q_ob, q_bn, if_pos rfl]
  unfold fL_put_c90
  rw [q_bn, q_bn]
  obtain ⟨s', f1, f2⟩ := sg96 (xs := xs) (v2 := v) (G := 2 + g) (N := 1 + t) hLs (by omega) (by omega) (1 + t) 0 k_F (τ3, s.2) (by omega) (q_kF (by omega)) ⟨⟨⟨by rw [hs1] at u2; exact u2.tr (a1.tr b1), by
      show τ3.2 2 0 = nI 0
      rw [b2, a2]; exact u3, by
      show τ3.2 3 0 = nI 60
      rw [b3, a3]; exact u4⟩, by
      show s.2.2 0 0 = _
      rw [hr, if_neg (by decide), if_neg (by decide), if_neg (by decide), if_pos rfl], by
      show s.2.2 0 1 = _
      rw [hr, if_neg (by decide), if_neg (by decide), if_pos rfl], by
      show s.2.2 0 32 = _
      rw [hr, if_neg (by decide), if_pos rfl], by
      show s.2.2 0 33 = _
      rw [hr, if_pos rfl]⟩, by
      show τ3.2 1 0 = _
      rw [b4, pk_un (by decide), a4, pk_us], by
      show τ3.2 1 1 = _
      rw [b4, pk_us], fun y hy => by omega⟩
  exact ⟨2 + g, 1 + t, s', by omega, by omega, f1, f2⟩
