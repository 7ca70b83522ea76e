/-! ===== the law's methods over rows that stay (by program: wip/gen30/lawdec.py) ===== -/
-- L_some
theorem ckL_some : k_Sok yL_some cL_some 2 (some .int) 2 := ⟨kwk_L_some, kws_L_some, kwn_L, by decide, by decide +kernel⟩
abbrev rmL_some : Room := { frames := 0, cells := 0, slots := 0, locals := 0 }
abbrev YL_some : k_Y := (rmL_some, cL_some, 2, RL, (some .int))
noncomputable def fL_some (x0 x1 : Int32) : Option (Int32 × Unit) := k_nz (x1) (some (((x0 &&& (2147483647 : Int32)) - (x0 &&& (2147483647 : Int32)) / x1 * x1), ()))
set_option maxRecDepth 100000 in
set_option maxHeartbeats 4000000 in
theorem kL_some {D : va_G} {cI : ClassId} {x0 x1 : Int32} {r0 : Int32} {τ : Unit} (h : fL_some x0 x1 = some (r0, τ)) : k_Ct k_ei yL_some cL_some 2 (some .int) rmL_some (fun _ : Unit => ([] : va_W)) D cI [.int x0, .int x1] () r0 τ := by
  refine k_met (Y := YL_some) (k_same_of fun _ _ => rfl) (by decide) rfl (Nat.le_of_ble_eq_true rfl) (List.forall_mem_cons.mpr ⟨rfl, List.forall_mem_cons.mpr ⟨rfl, fun _ h => absurd h List.not_mem_nil⟩⟩) (fun X hD hI => ?_) h
  subst hD hI
  show KO X YL_some (fun _ : Unit => ([] : va_W)) 0 0 (k_Q k_ei X (fun _ : Unit => ([] : va_W))) 0 [some (.int x0), some (.int x1)] [] () _
  unfold fL_some
  refine k_iload_n (pc := 0) dL_some_0 rfl ?_
  refine k_ldc (pc := 1) kwo_L_8 dL_some_1 ?_
  refine k_iand (pc := 3) dL_some_3 ?_
  refine k_iload_n (pc := 4) dL_some_4 rfl ?_
  refine k_irem' (pc := 5) dL_some_5 ?_
  exact k_ireturn (pc := 6) rfl dL_some_6
-- L_times
theorem ckL_times : k_Sok yL_times cL_times 5 (some .int) 3 := ⟨kwk_L_times, kws_L_times, kwn_L, by decide, by decide +kernel⟩
abbrev rmL_times : Room := { frames := 0, cells := 0, slots := 0, locals := 0 }
abbrev YL_times : k_Y := (rmL_times, cL_times, 5, RL, (some .int))
noncomputable def fL_times_c27 (b : Nat → Int32) (kh5 : Int32 → Int32 → Int32 → Int32 → Option (Int32 × Unit)) (l1 l2 l4 t0 t1 : Int32) : Option (Int32 × Unit) := k_bn ((t0 + t1)) fun v1 => k_bn (l4 + (nI 1)) fun v2 => kh5 l1 l2 v1 v2
set_option maxRecDepth 100000 in
set_option maxHeartbeats 4000000 in
theorem kL_times_c27 {X : k_C} {q : Nat → Nat} {g b r : Nat → Int32} (kh5 : Int32 → Int32 → Int32 → Int32 → Option (Int32 × Unit)) (hk5 : ∀ (l1 l2 l3 l4 : Int32), KO X YL_times (fun _ : Unit => cR (k_I X) q g b r) 0 0 (k_Q k_ei X (fun _ : Unit => cR (k_I X) q g b r)) 5 [some (.ref (q 1)), some (.int l1), some (.int l2), some (.int l3), some (.int l4)] [] () (kh5 l1 l2 l3 l4)) (l1 l2 l4 t0 t1 : Int32) : KO X YL_times (fun _ : Unit => cR (k_I X) q g b r) 0 0 (k_Q k_ei X (fun _ : Unit => cR (k_I X) q g b r)) 27 [some (.ref (q 1)), some (.int l1), some (.int l2), none, some (.int l4)] [.int t1, .int t0] () (fL_times_c27 b kh5 l1 l2 l4 t0 t1) := by
  unfold fL_times_c27
  refine k_iadd (pc := 27) dL_times_27 ?_
  refine k_ist3 (pc := 28) dL_times_28 (Nat.le_of_ble_eq_true rfl) (fun v1 => ?_)
  refine k_iinc4 (pc := 29) (w := (nI 1)) dL_times_29 rfl (by decide) (Nat.le_of_ble_eq_true rfl) (fun v2 => ?_)
  refine k_goto (pc := 32) 5 dL_times_32 (by decide) ?_
  exact hk5 l1 l2 v1 v2
noncomputable def fL_times_c5 (b : Nat → Int32) : Nat → Int32 → Int32 → Int32 → Int32 → Option (Int32 × Unit)
  | 0, _, _, _, _ => none
  | n + 1, l1, l2, l3, l4 => (if l4 < ((nI 5) * l1) then k_gd (l4) 60 ((if b (Int32.toNatClampNeg (l4)) = l2 then fL_times_c27 b (fL_times_c5 b n) l1 l2 l4 l3 ((nI 1)) else fL_times_c27 b (fL_times_c5 b n) l1 l2 l4 l3 ((nI 0)))) else some (l3, ()))
theorem fL_times_c5_s (b : Nat → Int32) (n : Nat) (l1 l2 l3 l4 : Int32) : fL_times_c5 b (n + 1) l1 l2 l3 l4 = (if l4 < ((nI 5) * l1) then k_gd (l4) 60 ((if b (Int32.toNatClampNeg (l4)) = l2 then fL_times_c27 b (fL_times_c5 b n) l1 l2 l4 l3 ((nI 1)) else fL_times_c27 b (fL_times_c5 b n) l1 l2 l4 l3 ((nI 0)))) else some (l3, ())) := rfl
set_option maxRecDepth 100000 in
set_option maxHeartbeats 4000000 in
theorem kL_times_c5 {X : k_C} {q : Nat → Nat} {g b r : Nat → Int32} : ∀ (n : Nat) (l1 l2 l3 l4 : Int32), KO X YL_times (fun _ : Unit => cR (k_I X) q g b r) 0 0 (k_Q k_ei X (fun _ : Unit => cR (k_I X) q g b r)) 5 [some (.ref (q 1)), some (.int l1), some (.int l2), some (.int l3), some (.int l4)] [] () (fL_times_c5 b n l1 l2 l3 l4) := by
  intro n
  induction n with
  | zero => intros; exact KO.nil
  | succ n ih =>
    intro l1 l2 l3 l4
    rw [fL_times_c5_s]
    refine k_iload (pc := 5) dL_times_5 rfl ?_
    refine k_iconst (pc := 7) (v := (nI 5)) dL_times_7 (by decide) ?_
    refine k_iload_n (pc := 8) dL_times_8 rfl ?_
    refine k_imul (pc := 9) dL_times_9 ?_
    refine k_icmp_ge (pc := 10) 35 dL_times_10 (by decide) ?_ ?_
    · refine k_iload_n (pc := 35) dL_times_35 rfl ?_
      exact k_ireturn (pc := 36) rfl dL_times_36
    · refine k_iload_n (pc := 13) dL_times_13 rfl ?_
      refine k_aload_n (pc := 14) dL_times_14 rfl ?_
      refine k_iload (pc := 15) dL_times_15 rfl ?_
      refine k_iald (pc := 17) (n := 60) (f := b) 1 rfl dL_times_17 ?_
      refine k_iload_n (pc := 18) dL_times_18 rfl ?_
      refine k_icmp_ne (pc := 19) 26 dL_times_19 (by decide) ?_ ?_
      · refine k_iconst (pc := 26) (v := (nI 0)) dL_times_26 (by decide) ?_
        refine k_fg3 ?_
        exact kL_times_c27 (fL_times_c5 b n) ih l1 l2 l4 l3 ((nI 0))
      · refine k_iconst (pc := 22) (v := (nI 1)) dL_times_22 (by decide) ?_
        refine k_goto (pc := 23) 27 dL_times_23 (by decide) ?_
        refine k_fg3 ?_
        exact kL_times_c27 (fL_times_c5 b n) ih l1 l2 l4 l3 ((nI 1))
noncomputable def fL_times (b : Nat → Int32) (x1 x2 : Int32) : Option (Int32 × Unit) := k_bn ((nI 0)) fun v1 => k_bn ((nI 0)) fun v2 => fL_times_c5 b k_F x1 x2 v1 v2
set_option maxRecDepth 100000 in
set_option maxHeartbeats 4000000 in
theorem kL_times {D : va_G} {cI : ClassId} {q : Nat → Nat} {g b r : Nat → Int32} {x1 x2 : Int32} {r0 : Int32} {τ : Unit} (h : fL_times b x1 x2 = some (r0, τ)) : k_Ct k_ei yL_times cL_times 5 (some .int) rmL_times (fun _ : Unit => cR cI q g b r) D cI [.ref (q 1), .int x1, .int x2] () r0 τ := by
  refine k_met (Y := YL_times) (k_same_of fun _ _ => rfl) (by decide) rfl (Nat.le_of_ble_eq_true rfl) (List.forall_mem_cons.mpr ⟨rfl, List.forall_mem_cons.mpr ⟨rfl, List.forall_mem_cons.mpr ⟨rfl, fun _ h => absurd h List.not_mem_nil⟩⟩⟩) (fun X hD hI => ?_) h
  subst hD hI
  show KO X YL_times (fun _ : Unit => cR (k_I X) q g b r) 0 0 (k_Q k_ei X (fun _ : Unit => cR (k_I X) q g b r)) 0 [some (.ref (q 1)), some (.int x1), some (.int x2), none, none] [] () _
  unfold fL_times
  refine k_iconst (pc := 0) (v := (nI 0)) dL_times_0 (by decide) ?_
  refine k_ist3 (pc := 1) dL_times_1 (Nat.le_of_ble_eq_true rfl) (fun v1 => ?_)
  refine k_iconst (pc := 2) (v := (nI 0)) dL_times_2 (by decide) ?_
  refine k_ist4 (pc := 3) dL_times_3 (Nat.le_of_ble_eq_true rfl) (fun v2 => ?_)
  exact kL_times_c5 k_F x1 x2 v1 v2
-- L_last
theorem ckL_last : k_Sok yL_last cL_last 5 (some .int) 3 := ⟨kwk_L_last, kws_L_last, kwn_L, by decide, by decide +kernel⟩
abbrev rmL_last : Room := { frames := 0, cells := 0, slots := 0, locals := 0 }
abbrev YL_last : k_Y := (rmL_last, cL_last, 5, RL, (some .int))
noncomputable def fL_last_c30 (b : Nat → Int32) (kh6 : Int32 → Int32 → Int32 → Int32 → Option (Int32 × Unit)) (l1 l2 l4 t0 : Int32) : Option (Int32 × Unit) := k_bn (t0) fun v1 => k_bn (l4 + (nI 1)) fun v2 => kh6 l1 l2 v1 v2
set_option maxRecDepth 100000 in
set_option maxHeartbeats 4000000 in
theorem kL_last_c30 {X : k_C} {q : Nat → Nat} {g b r : Nat → Int32} (kh6 : Int32 → Int32 → Int32 → Int32 → Option (Int32 × Unit)) (hk6 : ∀ (l1 l2 l3 l4 : Int32), KO X YL_last (fun _ : Unit => cR (k_I X) q g b r) 0 0 (k_Q k_ei X (fun _ : Unit => cR (k_I X) q g b r)) 6 [some (.ref (q 1)), some (.int l1), some (.int l2), some (.int l3), some (.int l4)] [] () (kh6 l1 l2 l3 l4)) (l1 l2 l4 t0 : Int32) : KO X YL_last (fun _ : Unit => cR (k_I X) q g b r) 0 0 (k_Q k_ei X (fun _ : Unit => cR (k_I X) q g b r)) 30 [some (.ref (q 1)), some (.int l1), some (.int l2), none, some (.int l4)] [.int t0] () (fL_last_c30 b kh6 l1 l2 l4 t0) := by
  unfold fL_last_c30
  refine k_ist3 (pc := 30) dL_last_30 (Nat.le_of_ble_eq_true rfl) (fun v1 => ?_)
  refine k_iinc4 (pc := 31) (w := (nI 1)) dL_last_31 rfl (by decide) (Nat.le_of_ble_eq_true rfl) (fun v2 => ?_)
  refine k_goto (pc := 34) 6 dL_last_34 (by decide) ?_
  exact hk6 l1 l2 v1 v2
noncomputable def fL_last_c6 (b : Nat → Int32) : Nat → Int32 → Int32 → Int32 → Int32 → Option (Int32 × Unit)
  | 0, _, _, _, _ => none
  | n + 1, l1, l2, l3, l4 => (if l4 < ((nI 5) * l1) then k_gd (l4) 60 ((if b (Int32.toNatClampNeg (l4)) = l2 then fL_last_c30 b (fL_last_c6 b n) l1 l2 l4 ((l4 / (nI 5))) else fL_last_c30 b (fL_last_c6 b n) l1 l2 l4 l3)) else some (l3, ()))
theorem fL_last_c6_s (b : Nat → Int32) (n : Nat) (l1 l2 l3 l4 : Int32) : fL_last_c6 b (n + 1) l1 l2 l3 l4 = (if l4 < ((nI 5) * l1) then k_gd (l4) 60 ((if b (Int32.toNatClampNeg (l4)) = l2 then fL_last_c30 b (fL_last_c6 b n) l1 l2 l4 ((l4 / (nI 5))) else fL_last_c30 b (fL_last_c6 b n) l1 l2 l4 l3)) else some (l3, ())) := rfl
set_option maxRecDepth 100000 in
set_option maxHeartbeats 4000000 in
theorem kL_last_c6 {X : k_C} {q : Nat → Nat} {g b r : Nat → Int32} : ∀ (n : Nat) (l1 l2 l3 l4 : Int32), KO X YL_last (fun _ : Unit => cR (k_I X) q g b r) 0 0 (k_Q k_ei X (fun _ : Unit => cR (k_I X) q g b r)) 6 [some (.ref (q 1)), some (.int l1), some (.int l2), some (.int l3), some (.int l4)] [] () (fL_last_c6 b n l1 l2 l3 l4) := by
  intro n
  induction n with
  | zero => intros; exact KO.nil
  | succ n ih =>
    intro l1 l2 l3 l4
    rw [fL_last_c6_s]
    refine k_iload (pc := 6) dL_last_6 rfl ?_
    refine k_iconst (pc := 8) (v := (nI 5)) dL_last_8 (by decide) ?_
    refine k_iload_n (pc := 9) dL_last_9 rfl ?_
    refine k_imul (pc := 10) dL_last_10 ?_
    refine k_icmp_ge (pc := 11) 37 dL_last_11 (by decide) ?_ ?_
    · refine k_iload_n (pc := 37) dL_last_37 rfl ?_
      exact k_ireturn (pc := 38) rfl dL_last_38
    · refine k_aload_n (pc := 14) dL_last_14 rfl ?_
      refine k_iload (pc := 15) dL_last_15 rfl ?_
      refine k_iald (pc := 17) (n := 60) (f := b) 1 rfl dL_last_17 ?_
      refine k_iload_n (pc := 18) dL_last_18 rfl ?_
      refine k_icmp_ne (pc := 19) 29 dL_last_19 (by decide) ?_ ?_
      · refine k_iload_n (pc := 29) dL_last_29 rfl ?_
        refine k_fg3 ?_
        exact kL_last_c30 (fL_last_c6 b n) ih l1 l2 l4 l3
      · refine k_iload (pc := 22) dL_last_22 rfl ?_
        refine k_iconst (pc := 24) (v := (nI 5)) dL_last_24 (by decide) ?_
        refine k_idiv (pc := 25) dL_last_25 (by decide) ?_
        refine k_goto (pc := 26) 30 dL_last_26 (by decide) ?_
        refine k_fg3 ?_
        exact kL_last_c30 (fL_last_c6 b n) ih l1 l2 l4 ((l4 / (nI 5)))
noncomputable def fL_last (b : Nat → Int32) (x1 x2 : Int32) : Option (Int32 × Unit) := k_bn ((k_ng 9)) fun v1 => k_bn ((nI 0)) fun v2 => fL_last_c6 b k_F x1 x2 v1 v2
set_option maxRecDepth 100000 in
set_option maxHeartbeats 4000000 in
theorem kL_last {D : va_G} {cI : ClassId} {q : Nat → Nat} {g b r : Nat → Int32} {x1 x2 : Int32} {r0 : Int32} {τ : Unit} (h : fL_last b x1 x2 = some (r0, τ)) : k_Ct k_ei yL_last cL_last 5 (some .int) rmL_last (fun _ : Unit => cR cI q g b r) D cI [.ref (q 1), .int x1, .int x2] () r0 τ := by
  refine k_met (Y := YL_last) (k_same_of fun _ _ => rfl) (by decide) rfl (Nat.le_of_ble_eq_true rfl) (List.forall_mem_cons.mpr ⟨rfl, List.forall_mem_cons.mpr ⟨rfl, List.forall_mem_cons.mpr ⟨rfl, fun _ h => absurd h List.not_mem_nil⟩⟩⟩) (fun X hD hI => ?_) h
  subst hD hI
  show KO X YL_last (fun _ : Unit => cR (k_I X) q g b r) 0 0 (k_Q k_ei X (fun _ : Unit => cR (k_I X) q g b r)) 0 [some (.ref (q 1)), some (.int x1), some (.int x2), none, none] [] () _
  unfold fL_last
  refine k_bipush (pc := 0) (v := (k_ng 9)) dL_last_0 (by decide) ?_
  refine k_ist3 (pc := 2) dL_last_2 (Nat.le_of_ble_eq_true rfl) (fun v1 => ?_)
  refine k_iconst (pc := 3) (v := (nI 0)) dL_last_3 (by decide) ?_
  refine k_ist4 (pc := 4) dL_last_4 (Nat.le_of_ble_eq_true rfl) (fun v2 => ?_)
  exact kL_last_c6 k_F x1 x2 v1 v2
-- L_may
theorem ckL_may : k_Sok yL_may cL_may 4 (some .boolean) 3 := ⟨kwk_L_may, kws_L_may, kwn_L, by decide, by decide +kernel⟩
abbrev rmL_may : Room := { frames := 1, cells := 0, slots := 0, locals := 24 }
abbrev YL_may : k_Y := (rmL_may, cL_may, 4, RL, (some .boolean))
noncomputable def fL_may (g : Nat → Int32) (b : Nat → Int32) (x2 : Int32) : Option (Int32 × Unit) := k_gd ((nI 33)) 34 (k_oq (fL_last b (g (Int32.toNatClampNeg ((nI 33)))) (x2)) fun r1 => k_bn (r1) fun v2 => (if v2 < 0 then k_z ((nI 1)) (some ((nI 1), ())) else k_gd (((nI 2) + x2)) 34 ((if g (Int32.toNatClampNeg (((nI 2) + x2))) = 0 then k_gd ((nI 33)) 34 (k_gd ((nI 32)) 34 ((if g (Int32.toNatClampNeg ((nI 32))) < (g (Int32.toNatClampNeg ((nI 33))) - v2) then k_z ((nI 1)) (some ((nI 1), ())) else k_z ((nI 0)) (some ((nI 0), ()))))) else k_gd (((nI 2) + x2)) 34 ((if g (Int32.toNatClampNeg (((nI 2) + x2))) = (nI 1) then k_gd ((nI 33)) 34 ((if (nI 1) < (g (Int32.toNatClampNeg ((nI 33))) - v2) then k_z ((nI 1)) (some ((nI 1), ())) else k_z ((nI 0)) (some ((nI 0), ())))) else k_z ((nI 0)) (some ((nI 0), ()))))))))
set_option maxRecDepth 100000 in
set_option maxHeartbeats 4000000 in
theorem kL_may {D : va_G} {cI : ClassId} {q : Nat → Nat} {g b r : Nat → Int32} {x2 : Int32} {r0 : Int32} {τ : Unit} (h : fL_may g b x2 = some (r0, τ)) : k_Ct k_ei yL_may cL_may 4 (some .boolean) rmL_may (fun _ : Unit => cR cI q g b r) D cI [.ref (q 0), .ref (q 1), .int x2] () r0 τ := by
  refine k_met (Y := YL_may) (k_same_of fun _ _ => rfl) (by decide) rfl (Nat.le_of_ble_eq_true rfl) (List.forall_mem_cons.mpr ⟨rfl, List.forall_mem_cons.mpr ⟨rfl, List.forall_mem_cons.mpr ⟨rfl, fun _ h => absurd h List.not_mem_nil⟩⟩⟩) (fun X hD hI => ?_) h
  subst hD hI
  show KO X YL_may (fun _ : Unit => cR (k_I X) q g b r) 0 0 (k_Q k_ei X (fun _ : Unit => cR (k_I X) q g b r)) 0 [some (.ref (q 0)), some (.ref (q 1)), some (.int x2), none] [] () _
  unfold fL_may
  refine k_aload_n (pc := 0) dL_may_0 rfl ?_
  refine k_aload_n (pc := 1) dL_may_1 rfl ?_
  refine k_bipush (pc := 2) (v := (nI 33)) dL_may_2 (by decide) ?_
  refine k_iald (pc := 4) (n := 34) (f := g) 0 rfl dL_may_4 ?_
  refine k_iload_n (pc := 5) dL_may_5 rfl ?_
  refine k_cq (pc := 6) (n := 3) (W0 := cR (k_I X) q g b r) (As := [.ref (q 1), .int (g (Int32.toNatClampNeg ((nI 33)))), .int (x2)]) [0, 1, 2] (by decide) rfl ckL_last kwm_L_28 rfl ⟨rfl, rfl⟩ ⟨Nat.le_of_ble_eq_true rfl, Nat.le_of_ble_eq_true rfl⟩ ⟨Nat.zero_le _, Nat.zero_le _⟩ (Nat.le_of_ble_eq_true rfl) dL_may_6 rfl (fun _ _ hf => kL_last (q := q) (g := g) (b := b) (r := r) hf) (fun r1 => ?_)
  refine k_ist3 (pc := 9) dL_may_9 (Nat.le_of_ble_eq_true rfl) (fun v2 => ?_)
  refine k_iload_n (pc := 10) dL_may_10 rfl ?_
  refine k_if_ge (pc := 11) 16 dL_may_11 (by decide) ?_ ?_
  · refine k_aload_n (pc := 16) dL_may_16 rfl ?_
    refine k_iconst (pc := 17) (v := (nI 2)) dL_may_17 (by decide) ?_
    refine k_iload_n (pc := 18) dL_may_18 rfl ?_
    refine k_iadd (pc := 19) dL_may_19 ?_
    refine k_iald (pc := 20) (n := 34) (f := g) 0 rfl dL_may_20 ?_
    refine k_if_ne (pc := 21) 45 dL_may_21 (by decide) ?_ ?_
    · refine k_aload_n (pc := 45) dL_may_45 rfl ?_
      refine k_iconst (pc := 46) (v := (nI 2)) dL_may_46 (by decide) ?_
      refine k_iload_n (pc := 47) dL_may_47 rfl ?_
      refine k_iadd (pc := 48) dL_may_48 ?_
      refine k_iald (pc := 49) (n := 34) (f := g) 0 rfl dL_may_49 ?_
      refine k_iconst (pc := 50) (v := (nI 1)) dL_may_50 (by decide) ?_
      refine k_icmp_ne (pc := 51) 68 dL_may_51 (by decide) ?_ ?_
      · refine k_iconst (pc := 68) (v := (nI 0)) dL_may_68 (by decide) ?_
        exact k_zreturn (pc := 69) rfl dL_may_69
      · refine k_aload_n (pc := 54) dL_may_54 rfl ?_
        refine k_bipush (pc := 55) (v := (nI 33)) dL_may_55 (by decide) ?_
        refine k_iald (pc := 57) (n := 34) (f := g) 0 rfl dL_may_57 ?_
        refine k_iload_n (pc := 58) dL_may_58 rfl ?_
        refine k_isub (pc := 59) dL_may_59 ?_
        refine k_iconst (pc := 60) (v := (nI 1)) dL_may_60 (by decide) ?_
        refine k_icmp_le (pc := 61) 68 dL_may_61 (by decide) ?_ ?_
        · refine k_iconst (pc := 68) (v := (nI 0)) dL_may_68 (by decide) ?_
          exact k_zreturn (pc := 69) rfl dL_may_69
        · refine k_iconst (pc := 64) (v := (nI 1)) dL_may_64 (by decide) ?_
          refine k_goto (pc := 65) 69 dL_may_65 (by decide) ?_
          exact k_zreturn (pc := 69) rfl dL_may_69
    · refine k_aload_n (pc := 24) dL_may_24 rfl ?_
      refine k_bipush (pc := 25) (v := (nI 33)) dL_may_25 (by decide) ?_
      refine k_iald (pc := 27) (n := 34) (f := g) 0 rfl dL_may_27 ?_
      refine k_iload_n (pc := 28) dL_may_28 rfl ?_
      refine k_isub (pc := 29) dL_may_29 ?_
      refine k_aload_n (pc := 30) dL_may_30 rfl ?_
      refine k_bipush (pc := 31) (v := (nI 32)) dL_may_31 (by decide) ?_
      refine k_iald (pc := 33) (n := 34) (f := g) 0 rfl dL_may_33 ?_
      refine k_icmp_le (pc := 34) 41 dL_may_34 (by decide) ?_ ?_
      · refine k_iconst (pc := 41) (v := (nI 0)) dL_may_41 (by decide) ?_
        refine k_goto (pc := 42) 69 dL_may_42 (by decide) ?_
        exact k_zreturn (pc := 69) rfl dL_may_69
      · refine k_iconst (pc := 37) (v := (nI 1)) dL_may_37 (by decide) ?_
        refine k_goto (pc := 38) 69 dL_may_38 (by decide) ?_
        exact k_zreturn (pc := 69) rfl dL_may_69
  · refine k_iconst (pc := 14) (v := (nI 1)) dL_may_14 (by decide) ?_
    exact k_zreturn (pc := 15) rfl dL_may_15
-- L_tall
theorem ckL_tall : k_Sok yL_tall cL_tall 4 (some .int) 4 := ⟨kwk_L_tall, kws_L_tall, kwn_L, by decide, by decide +kernel⟩
abbrev rmL_tall : Room := { frames := 1, cells := 0, slots := 0, locals := 24 }
abbrev YL_tall : k_Y := (rmL_tall, cL_tall, 4, RL, (some .int))
noncomputable def fL_tall (g : Nat → Int32) (b : Nat → Int32) (x2 x3 : Int32) : Option (Int32 × Unit) := k_gd (((nI 22) + x3)) 34 (k_gd (((nI 2) + x3)) 34 ((if g (Int32.toNatClampNeg (((nI 2) + x3))) = (nI 2) then some ((g (Int32.toNatClampNeg (((nI 22) + x3))) + (nI 900)), ()) else k_gd (((nI 2) + x3)) 34 ((if g (Int32.toNatClampNeg (((nI 2) + x3))) = (nI 1) then k_oq (fL_times b (x2) (x3)) fun r1 => some ((g (Int32.toNatClampNeg (((nI 22) + x3))) + ((nI 10) * r1)), ()) else some ((g (Int32.toNatClampNeg (((nI 22) + x3))) + (nI 0)), ()))))))
set_option maxRecDepth 100000 in
set_option maxHeartbeats 4000000 in
theorem kL_tall {D : va_G} {cI : ClassId} {q : Nat → Nat} {g b r : Nat → Int32} {x2 x3 : Int32} {r0 : Int32} {τ : Unit} (h : fL_tall g b x2 x3 = some (r0, τ)) : k_Ct k_ei yL_tall cL_tall 4 (some .int) rmL_tall (fun _ : Unit => cR cI q g b r) D cI [.ref (q 0), .ref (q 1), .int x2, .int x3] () r0 τ := by
  refine k_met (Y := YL_tall) (k_same_of fun _ _ => rfl) (by decide) rfl (Nat.le_of_ble_eq_true rfl) (List.forall_mem_cons.mpr ⟨rfl, List.forall_mem_cons.mpr ⟨rfl, List.forall_mem_cons.mpr ⟨rfl, List.forall_mem_cons.mpr ⟨rfl, fun _ h => absurd h List.not_mem_nil⟩⟩⟩⟩) (fun X hD hI => ?_) h
  subst hD hI
  show KO X YL_tall (fun _ : Unit => cR (k_I X) q g b r) 0 0 (k_Q k_ei X (fun _ : Unit => cR (k_I X) q g b r)) 0 [some (.ref (q 0)), some (.ref (q 1)), some (.int x2), some (.int x3)] [] () _
  unfold fL_tall
  refine k_aload_n (pc := 0) dL_tall_0 rfl ?_
  refine k_bipush (pc := 1) (v := (nI 22)) dL_tall_1 (by decide) ?_
  refine k_iload_n (pc := 3) dL_tall_3 rfl ?_
  refine k_iadd (pc := 4) dL_tall_4 ?_
  refine k_iald (pc := 5) (n := 34) (f := g) 0 rfl dL_tall_5 ?_
  refine k_aload_n (pc := 6) dL_tall_6 rfl ?_
  refine k_iconst (pc := 7) (v := (nI 2)) dL_tall_7 (by decide) ?_
  refine k_iload_n (pc := 8) dL_tall_8 rfl ?_
  refine k_iadd (pc := 9) dL_tall_9 ?_
  refine k_iald (pc := 10) (n := 34) (f := g) 0 rfl dL_tall_10 ?_
  refine k_iconst (pc := 11) (v := (nI 2)) dL_tall_11 (by decide) ?_
  refine k_icmp_ne (pc := 12) 21 dL_tall_12 (by decide) ?_ ?_
  · refine k_aload_n (pc := 21) dL_tall_21 rfl ?_
    refine k_iconst (pc := 22) (v := (nI 2)) dL_tall_22 (by decide) ?_
    refine k_iload_n (pc := 23) dL_tall_23 rfl ?_
    refine k_iadd (pc := 24) dL_tall_24 ?_
    refine k_iald (pc := 25) (n := 34) (f := g) 0 rfl dL_tall_25 ?_
    refine k_iconst (pc := 26) (v := (nI 1)) dL_tall_26 (by decide) ?_
    refine k_icmp_ne (pc := 27) 42 dL_tall_27 (by decide) ?_ ?_
    · refine k_iconst (pc := 42) (v := (nI 0)) dL_tall_42 (by decide) ?_
      refine k_iadd (pc := 43) dL_tall_43 ?_
      exact k_ireturn (pc := 44) rfl dL_tall_44
    · refine k_bipush (pc := 30) (v := (nI 10)) dL_tall_30 (by decide) ?_
      refine k_aload_n (pc := 32) dL_tall_32 rfl ?_
      refine k_iload_n (pc := 33) dL_tall_33 rfl ?_
      refine k_iload_n (pc := 34) dL_tall_34 rfl ?_
      refine k_cq (pc := 35) (n := 3) (W0 := cR (k_I X) q g b r) (As := [.ref (q 1), .int (x2), .int (x3)]) [0, 1, 2] (by decide) rfl ckL_times kwm_L_32 rfl ⟨rfl, rfl⟩ ⟨Nat.le_of_ble_eq_true rfl, Nat.le_of_ble_eq_true rfl⟩ ⟨Nat.zero_le _, Nat.zero_le _⟩ (Nat.le_of_ble_eq_true rfl) dL_tall_35 rfl (fun _ _ hf => kL_times (q := q) (g := g) (b := b) (r := r) hf) (fun r1 => ?_)
      refine k_imul (pc := 38) dL_tall_38 ?_
      refine k_goto (pc := 39) 43 dL_tall_39 (by decide) ?_
      refine k_iadd (pc := 43) dL_tall_43 ?_
      exact k_ireturn (pc := 44) rfl dL_tall_44
  · refine k_sipush (pc := 15) (v := (nI 900)) dL_tall_15 (by decide) ?_
    refine k_goto (pc := 18) 43 dL_tall_18 (by decide) ?_
    refine k_iadd (pc := 43) dL_tall_43 ?_
    exact k_ireturn (pc := 44) rfl dL_tall_44
-- L_place
theorem ckL_place : k_Sok yL_place cL_place 10 (some .int) 6 := ⟨kwk_L_place, kws_L_place, kwn_L, by decide, by decide +kernel⟩
abbrev rmL_place : Room := { frames := 2, cells := 0, slots := 0, locals := 47 }
abbrev YL_place : k_Y := (rmL_place, cL_place, 10, RL, (some .int))
noncomputable def fL_place_c100 (g : Nat → Int32) (b : Nat → Int32) (r : Nat → Int32) (kh35 : Int32 → Int32 → Int32 → Int32 → Int32 → Int32 → Option (Int32 × Unit)) (l2 l4 l5 l6 l8 t0 t1 : Int32) : Option (Int32 × Unit) := k_bn ((t0 + t1)) fun v1 => k_bn (l8 + (nI 1)) fun v2 => kh35 l2 l4 l5 l6 v1 v2
set_option maxRecDepth 100000 in
set_option maxHeartbeats 4000000 in
theorem kL_place_c100 {X : k_C} {q : Nat → Nat} {g b r : Nat → Int32} (kh35 : Int32 → Int32 → Int32 → Int32 → Int32 → Int32 → Option (Int32 × Unit)) (hk35 : ∀ (l2 l4 l5 l6 l7 l8 : Int32), KO X YL_place (fun _ : Unit => cR (k_I X) q g b r) 0 0 (k_Q k_ei X (fun _ : Unit => cR (k_I X) q g b r)) 35 [some (.ref (q 0)), some (.ref (q 1)), some (.int l2), some (.ref (q 2)), some (.int l4), some (.int l5), some (.int l6), some (.int l7), some (.int l8), none] [] () (kh35 l2 l4 l5 l6 l7 l8)) (l2 l4 l5 l6 l8 t0 t1 : Int32) : KO X YL_place (fun _ : Unit => cR (k_I X) q g b r) 0 0 (k_Q k_ei X (fun _ : Unit => cR (k_I X) q g b r)) 100 [some (.ref (q 0)), some (.ref (q 1)), some (.int l2), some (.ref (q 2)), some (.int l4), some (.int l5), some (.int l6), none, some (.int l8), none] [.int t1, .int t0] () (fL_place_c100 g b r kh35 l2 l4 l5 l6 l8 t0 t1) := by
  unfold fL_place_c100
  refine k_iadd (pc := 100) dL_place_100 ?_
  refine k_ist7 (pc := 101) dL_place_101 (Nat.le_of_ble_eq_true rfl) (fun v1 => ?_)
  refine k_iinc8 (pc := 103) (w := (nI 1)) dL_place_103 rfl (by decide) (Nat.le_of_ble_eq_true rfl) (fun v2 => ?_)
  refine k_goto (pc := 106) 35 dL_place_106 (by decide) ?_
  exact hk35 l2 l4 l5 l6 v1 v2
noncomputable def fL_place_c95 (g : Nat → Int32) (b : Nat → Int32) (r : Nat → Int32) (kh35 : Int32 → Int32 → Int32 → Int32 → Int32 → Int32 → Option (Int32 × Unit)) (l2 l4 l5 l6 l8 t0 : Int32) : Option (Int32 × Unit) := fL_place_c100 g b r kh35 l2 l4 l5 l6 l8 t0 ((nI 1))
set_option maxRecDepth 100000 in
set_option maxHeartbeats 4000000 in
theorem kL_place_c95 {X : k_C} {q : Nat → Nat} {g b r : Nat → Int32} (kh35 : Int32 → Int32 → Int32 → Int32 → Int32 → Int32 → Option (Int32 × Unit)) (hk35 : ∀ (l2 l4 l5 l6 l7 l8 : Int32), KO X YL_place (fun _ : Unit => cR (k_I X) q g b r) 0 0 (k_Q k_ei X (fun _ : Unit => cR (k_I X) q g b r)) 35 [some (.ref (q 0)), some (.ref (q 1)), some (.int l2), some (.ref (q 2)), some (.int l4), some (.int l5), some (.int l6), some (.int l7), some (.int l8), none] [] () (kh35 l2 l4 l5 l6 l7 l8)) (l2 l4 l5 l6 l8 t0 : Int32) : KO X YL_place (fun _ : Unit => cR (k_I X) q g b r) 0 0 (k_Q k_ei X (fun _ : Unit => cR (k_I X) q g b r)) 95 [some (.ref (q 0)), some (.ref (q 1)), some (.int l2), some (.ref (q 2)), some (.int l4), some (.int l5), some (.int l6), none, some (.int l8), none] [.int t0] () (fL_place_c95 g b r kh35 l2 l4 l5 l6 l8 t0) := by
  unfold fL_place_c95
  refine k_iconst (pc := 95) (v := (nI 1)) dL_place_95 (by decide) ?_
  refine k_goto (pc := 96) 100 dL_place_96 (by decide) ?_
  exact kL_place_c100 kh35 hk35 l2 l4 l5 l6 l8 t0 ((nI 1))
noncomputable def fL_place_c99 (g : Nat → Int32) (b : Nat → Int32) (r : Nat → Int32) (kh35 : Int32 → Int32 → Int32 → Int32 → Int32 → Int32 → Option (Int32 × Unit)) (l2 l4 l5 l6 l8 t0 : Int32) : Option (Int32 × Unit) := fL_place_c100 g b r kh35 l2 l4 l5 l6 l8 t0 ((nI 0))
set_option maxRecDepth 100000 in
set_option maxHeartbeats 4000000 in
theorem kL_place_c99 {X : k_C} {q : Nat → Nat} {g b r : Nat → Int32} (kh35 : Int32 → Int32 → Int32 → Int32 → Int32 → Int32 → Option (Int32 × Unit)) (hk35 : ∀ (l2 l4 l5 l6 l7 l8 : Int32), KO X YL_place (fun _ : Unit => cR (k_I X) q g b r) 0 0 (k_Q k_ei X (fun _ : Unit => cR (k_I X) q g b r)) 35 [some (.ref (q 0)), some (.ref (q 1)), some (.int l2), some (.ref (q 2)), some (.int l4), some (.int l5), some (.int l6), some (.int l7), some (.int l8), none] [] () (kh35 l2 l4 l5 l6 l7 l8)) (l2 l4 l5 l6 l8 t0 : Int32) : KO X YL_place (fun _ : Unit => cR (k_I X) q g b r) 0 0 (k_Q k_ei X (fun _ : Unit => cR (k_I X) q g b r)) 99 [some (.ref (q 0)), some (.ref (q 1)), some (.int l2), some (.ref (q 2)), some (.int l4), some (.int l5), some (.int l6), none, some (.int l8), none] [.int t0] () (fL_place_c99 g b r kh35 l2 l4 l5 l6 l8 t0) := by
  unfold fL_place_c99
  refine k_iconst (pc := 99) (v := (nI 0)) dL_place_99 (by decide) ?_
  exact kL_place_c100 kh35 hk35 l2 l4 l5 l6 l8 t0 ((nI 0))
noncomputable def fL_place_c70 (g : Nat → Int32) (b : Nat → Int32) (r : Nat → Int32) (kh35 : Int32 → Int32 → Int32 → Int32 → Int32 → Int32 → Option (Int32 × Unit)) (l2 l4 l5 l6 l7 l8 t0 : Int32) : Option (Int32 × Unit) := k_bn (t0) fun v1 => (if l6 < v1 then fL_place_c95 g b r kh35 l2 l4 l5 l6 l8 l7 else (if v1 = l6 then (if l8 < l5 then fL_place_c95 g b r kh35 l2 l4 l5 l6 l8 l7 else fL_place_c99 g b r kh35 l2 l4 l5 l6 l8 l7) else fL_place_c99 g b r kh35 l2 l4 l5 l6 l8 l7))
set_option maxRecDepth 100000 in
set_option maxHeartbeats 4000000 in
theorem kL_place_c70 {X : k_C} {q : Nat → Nat} {g b r : Nat → Int32} (kh35 : Int32 → Int32 → Int32 → Int32 → Int32 → Int32 → Option (Int32 × Unit)) (hk35 : ∀ (l2 l4 l5 l6 l7 l8 : Int32), KO X YL_place (fun _ : Unit => cR (k_I X) q g b r) 0 0 (k_Q k_ei X (fun _ : Unit => cR (k_I X) q g b r)) 35 [some (.ref (q 0)), some (.ref (q 1)), some (.int l2), some (.ref (q 2)), some (.int l4), some (.int l5), some (.int l6), some (.int l7), some (.int l8), none] [] () (kh35 l2 l4 l5 l6 l7 l8)) (l2 l4 l5 l6 l7 l8 t0 : Int32) : KO X YL_place (fun _ : Unit => cR (k_I X) q g b r) 0 0 (k_Q k_ei X (fun _ : Unit => cR (k_I X) q g b r)) 70 [some (.ref (q 0)), some (.ref (q 1)), some (.int l2), some (.ref (q 2)), some (.int l4), some (.int l5), some (.int l6), some (.int l7), some (.int l8), none] [.int t0] () (fL_place_c70 g b r kh35 l2 l4 l5 l6 l7 l8 t0) := by
  unfold fL_place_c70
  refine k_ist9 (pc := 70) dL_place_70 (Nat.le_of_ble_eq_true rfl) (fun v1 => ?_)
  refine k_iload (pc := 72) dL_place_72 rfl ?_
  refine k_iload (pc := 74) dL_place_74 rfl ?_
  refine k_iload (pc := 76) dL_place_76 rfl ?_
  refine k_icmp_gt (pc := 78) 95 dL_place_78 (by decide) ?_ ?_
  · refine k_fg7 ?_
    refine k_fg9 ?_
    exact kL_place_c95 kh35 hk35 l2 l4 l5 l6 l8 l7
  · refine k_iload (pc := 81) dL_place_81 rfl ?_
    refine k_iload (pc := 83) dL_place_83 rfl ?_
    refine k_icmp_ne (pc := 85) 99 dL_place_85 (by decide) ?_ ?_
    · refine k_fg7 ?_
      refine k_fg9 ?_
      exact kL_place_c99 kh35 hk35 l2 l4 l5 l6 l8 l7
    · refine k_iload (pc := 88) dL_place_88 rfl ?_
      refine k_iload (pc := 90) dL_place_90 rfl ?_
      refine k_icmp_ge (pc := 92) 99 dL_place_92 (by decide) ?_ ?_
      · refine k_fg7 ?_
        refine k_fg9 ?_
        exact kL_place_c99 kh35 hk35 l2 l4 l5 l6 l8 l7
      · refine k_fg7 ?_
        refine k_fg9 ?_
        exact kL_place_c95 kh35 hk35 l2 l4 l5 l6 l8 l7
noncomputable def fL_place_c35 (g : Nat → Int32) (b : Nat → Int32) (r : Nat → Int32) : Nat → Int32 → Int32 → Int32 → Int32 → Int32 → Int32 → Option (Int32 × Unit)
  | 0, _, _, _, _, _, _ => none
  | n + 1, l2, l4, l5, l6, l7, l8 => k_gd ((nI 0)) 34 ((if l8 < g (Int32.toNatClampNeg ((nI 0))) then k_gd ((l4 + l8)) 5 ((if r (Int32.toNatClampNeg ((l4 + l8))) < 0 then fL_place_c70 g b r (fL_place_c35 g b r n) l2 l4 l5 l6 l7 l8 ((nI 0)) else k_gd ((l4 + l8)) 5 (k_oq (fL_tall g b (l2) (r (Int32.toNatClampNeg ((l4 + l8))))) fun r1 => fL_place_c70 g b r (fL_place_c35 g b r n) l2 l4 l5 l6 l7 l8 r1))) else some (l7, ())))
theorem fL_place_c35_s (g : Nat → Int32) (b : Nat → Int32) (r : Nat → Int32) (n : Nat) (l2 l4 l5 l6 l7 l8 : Int32) : fL_place_c35 g b r (n + 1) l2 l4 l5 l6 l7 l8 = k_gd ((nI 0)) 34 ((if l8 < g (Int32.toNatClampNeg ((nI 0))) then k_gd ((l4 + l8)) 5 ((if r (Int32.toNatClampNeg ((l4 + l8))) < 0 then fL_place_c70 g b r (fL_place_c35 g b r n) l2 l4 l5 l6 l7 l8 ((nI 0)) else k_gd ((l4 + l8)) 5 (k_oq (fL_tall g b (l2) (r (Int32.toNatClampNeg ((l4 + l8))))) fun r1 => fL_place_c70 g b r (fL_place_c35 g b r n) l2 l4 l5 l6 l7 l8 r1))) else some (l7, ()))) := rfl
set_option maxRecDepth 100000 in
set_option maxHeartbeats 4000000 in
theorem kL_place_c35 {X : k_C} {q : Nat → Nat} {g b r : Nat → Int32} : ∀ (n : Nat) (l2 l4 l5 l6 l7 l8 : Int32), KO X YL_place (fun _ : Unit => cR (k_I X) q g b r) 0 0 (k_Q k_ei X (fun _ : Unit => cR (k_I X) q g b r)) 35 [some (.ref (q 0)), some (.ref (q 1)), some (.int l2), some (.ref (q 2)), some (.int l4), some (.int l5), some (.int l6), some (.int l7), some (.int l8), none] [] () (fL_place_c35 g b r n l2 l4 l5 l6 l7 l8) := by
  intro n
  induction n with
  | zero => intros; exact KO.nil
  | succ n ih =>
    intro l2 l4 l5 l6 l7 l8
    rw [fL_place_c35_s]
    refine k_iload (pc := 35) dL_place_35 rfl ?_
    refine k_aload_n (pc := 37) dL_place_37 rfl ?_
    refine k_iconst (pc := 38) (v := (nI 0)) dL_place_38 (by decide) ?_
    refine k_iald (pc := 39) (n := 34) (f := g) 0 rfl dL_place_39 ?_
    refine k_icmp_ge (pc := 40) 109 dL_place_40 (by decide) ?_ ?_
    · refine k_iload (pc := 109) dL_place_109 rfl ?_
      exact k_ireturn (pc := 111) rfl dL_place_111
    · refine k_aload_n (pc := 43) dL_place_43 rfl ?_
      refine k_iload (pc := 44) dL_place_44 rfl ?_
      refine k_iload (pc := 46) dL_place_46 rfl ?_
      refine k_iadd (pc := 48) dL_place_48 ?_
      refine k_iald (pc := 49) (n := 5) (f := r) 2 rfl dL_place_49 ?_
      refine k_if_ge (pc := 50) 57 dL_place_50 (by decide) ?_ ?_
      · refine k_aload_n (pc := 57) dL_place_57 rfl ?_
        refine k_aload_n (pc := 58) dL_place_58 rfl ?_
        refine k_iload_n (pc := 59) dL_place_59 rfl ?_
        refine k_aload_n (pc := 60) dL_place_60 rfl ?_
        refine k_iload (pc := 61) dL_place_61 rfl ?_
        refine k_iload (pc := 63) dL_place_63 rfl ?_
        refine k_iadd (pc := 65) dL_place_65 ?_
        refine k_iald (pc := 66) (n := 5) (f := r) 2 rfl dL_place_66 ?_
        refine k_cq (pc := 67) (n := 4) (W0 := cR (k_I X) q g b r) (As := [.ref (q 0), .ref (q 1), .int (l2), .int (r (Int32.toNatClampNeg ((l4 + l8))))]) [0, 1, 2] (by decide) rfl ckL_tall kwm_L_35 rfl ⟨rfl, rfl⟩ ⟨Nat.le_of_ble_eq_true rfl, Nat.le_of_ble_eq_true rfl⟩ ⟨Nat.zero_le _, Nat.zero_le _⟩ (Nat.le_of_ble_eq_true rfl) dL_place_67 rfl (fun _ _ hf => kL_tall (q := q) (g := g) (b := b) (r := r) hf) (fun r1 => ?_)
        exact kL_place_c70 (fL_place_c35 g b r n) ih l2 l4 l5 l6 l7 l8 r1
      · refine k_iconst (pc := 53) (v := (nI 0)) dL_place_53 (by decide) ?_
        refine k_goto (pc := 54) 70 dL_place_54 (by decide) ?_
        exact kL_place_c70 (fL_place_c35 g b r n) ih l2 l4 l5 l6 l7 l8 ((nI 0))
noncomputable def fL_place_c27 (g : Nat → Int32) (b : Nat → Int32) (r : Nat → Int32) (l2 l4 l5 t0 : Int32) : Option (Int32 × Unit) := k_bn (t0) fun v1 => k_bn ((nI 0)) fun v2 => k_bn ((nI 0)) fun v3 => fL_place_c35 g b r k_F l2 l4 l5 v1 v2 v3
set_option maxRecDepth 100000 in
set_option maxHeartbeats 4000000 in
theorem kL_place_c27 {X : k_C} {q : Nat → Nat} {g b r : Nat → Int32} (l2 l4 l5 t0 : Int32) : KO X YL_place (fun _ : Unit => cR (k_I X) q g b r) 0 0 (k_Q k_ei X (fun _ : Unit => cR (k_I X) q g b r)) 27 [some (.ref (q 0)), some (.ref (q 1)), some (.int l2), some (.ref (q 2)), some (.int l4), some (.int l5), none, none, none, none] [.int t0] () (fL_place_c27 g b r l2 l4 l5 t0) := by
  unfold fL_place_c27
  refine k_ist6 (pc := 27) dL_place_27 (Nat.le_of_ble_eq_true rfl) (fun v1 => ?_)
  refine k_iconst (pc := 29) (v := (nI 0)) dL_place_29 (by decide) ?_
  refine k_ist7 (pc := 30) dL_place_30 (Nat.le_of_ble_eq_true rfl) (fun v2 => ?_)
  refine k_iconst (pc := 32) (v := (nI 0)) dL_place_32 (by decide) ?_
  refine k_ist8 (pc := 33) dL_place_33 (Nat.le_of_ble_eq_true rfl) (fun v3 => ?_)
  exact kL_place_c35 k_F l2 l4 l5 v1 v2 v3
noncomputable def fL_place (g : Nat → Int32) (b : Nat → Int32) (r : Nat → Int32) (x2 x4 x5 : Int32) : Option (Int32 × Unit) := k_gd ((x4 + x5)) 5 ((if r (Int32.toNatClampNeg ((x4 + x5))) < 0 then fL_place_c27 g b r x2 x4 x5 ((nI 0)) else k_gd ((x4 + x5)) 5 (k_oq (fL_tall g b (x2) (r (Int32.toNatClampNeg ((x4 + x5))))) fun r1 => fL_place_c27 g b r x2 x4 x5 r1)))
set_option maxRecDepth 100000 in
set_option maxHeartbeats 4000000 in
theorem kL_place {D : va_G} {cI : ClassId} {q : Nat → Nat} {g b r : Nat → Int32} {x2 x4 x5 : Int32} {r0 : Int32} {τ : Unit} (h : fL_place g b r x2 x4 x5 = some (r0, τ)) : k_Ct k_ei yL_place cL_place 10 (some .int) rmL_place (fun _ : Unit => cR cI q g b r) D cI [.ref (q 0), .ref (q 1), .int x2, .ref (q 2), .int x4, .int x5] () r0 τ := by
  refine k_met (Y := YL_place) (k_same_of fun _ _ => rfl) (by decide) rfl (Nat.le_of_ble_eq_true rfl) (List.forall_mem_cons.mpr ⟨rfl, List.forall_mem_cons.mpr ⟨rfl, List.forall_mem_cons.mpr ⟨rfl, List.forall_mem_cons.mpr ⟨rfl, List.forall_mem_cons.mpr ⟨rfl, List.forall_mem_cons.mpr ⟨rfl, fun _ h => absurd h List.not_mem_nil⟩⟩⟩⟩⟩⟩) (fun X hD hI => ?_) h
  subst hD hI
  show KO X YL_place (fun _ : Unit => cR (k_I X) q g b r) 0 0 (k_Q k_ei X (fun _ : Unit => cR (k_I X) q g b r)) 0 [some (.ref (q 0)), some (.ref (q 1)), some (.int x2), some (.ref (q 2)), some (.int x4), some (.int x5), none, none, none, none] [] () _
  unfold fL_place
  refine k_aload_n (pc := 0) dL_place_0 rfl ?_
  refine k_iload (pc := 1) dL_place_1 rfl ?_
  refine k_iload (pc := 3) dL_place_3 rfl ?_
  refine k_iadd (pc := 5) dL_place_5 ?_
  refine k_iald (pc := 6) (n := 5) (f := r) 2 rfl dL_place_6 ?_
  refine k_if_ge (pc := 7) 14 dL_place_7 (by decide) ?_ ?_
  · refine k_aload_n (pc := 14) dL_place_14 rfl ?_
    refine k_aload_n (pc := 15) dL_place_15 rfl ?_
    refine k_iload_n (pc := 16) dL_place_16 rfl ?_
    refine k_aload_n (pc := 17) dL_place_17 rfl ?_
    refine k_iload (pc := 18) dL_place_18 rfl ?_
    refine k_iload (pc := 20) dL_place_20 rfl ?_
    refine k_iadd (pc := 22) dL_place_22 ?_
    refine k_iald (pc := 23) (n := 5) (f := r) 2 rfl dL_place_23 ?_
    refine k_cq (pc := 24) (n := 4) (W0 := cR (k_I X) q g b r) (As := [.ref (q 0), .ref (q 1), .int (x2), .int (r (Int32.toNatClampNeg ((x4 + x5))))]) [0, 1, 2] (by decide) rfl ckL_tall kwm_L_35 rfl ⟨rfl, rfl⟩ ⟨Nat.le_of_ble_eq_true rfl, Nat.le_of_ble_eq_true rfl⟩ ⟨Nat.zero_le _, Nat.zero_le _⟩ (Nat.le_of_ble_eq_true rfl) dL_place_24 rfl (fun _ _ hf => kL_tall (q := q) (g := g) (b := b) (r := r) hf) (fun r1 => ?_)
    exact kL_place_c27 x2 x4 x5 r1
  · refine k_iconst (pc := 10) (v := (nI 0)) dL_place_10 (by decide) ?_
    refine k_goto (pc := 11) 27 dL_place_11 (by decide) ?_
    exact kL_place_c27 x2 x4 x5 ((nI 0))
-- place, over the nights' row
noncomputable def fL_place_ab_c100 (g : Nat → Int32) (b : Nat → Int32) (kh35 : Int32 → Int32 → Int32 → Int32 → Int32 → Int32 → Option (Int32 × Unit)) (l2 l4 l5 l6 l8 t0 t1 : Int32) : Option (Int32 × Unit) := k_bn ((t0 + t1)) fun v1 => k_bn (l8 + (nI 1)) fun v2 => kh35 l2 l4 l5 l6 v1 v2
set_option maxRecDepth 100000 in
set_option maxHeartbeats 4000000 in
theorem kL_place_ab_c100 {X : k_C} {q : Nat → Nat} {g b r : Nat → Int32} (kh35 : Int32 → Int32 → Int32 → Int32 → Int32 → Int32 → Option (Int32 × Unit)) (hk35 : ∀ (l2 l4 l5 l6 l7 l8 : Int32), KO X YL_place (fun _ : Unit => cR (k_I X) q g b r) 0 0 (k_Q k_ei X (fun _ : Unit => cR (k_I X) q g b r)) 35 [some (.ref (q 0)), some (.ref (q 1)), some (.int l2), some (.ref (q 1)), some (.int l4), some (.int l5), some (.int l6), some (.int l7), some (.int l8), none] [] () (kh35 l2 l4 l5 l6 l7 l8)) (l2 l4 l5 l6 l8 t0 t1 : Int32) : KO X YL_place (fun _ : Unit => cR (k_I X) q g b r) 0 0 (k_Q k_ei X (fun _ : Unit => cR (k_I X) q g b r)) 100 [some (.ref (q 0)), some (.ref (q 1)), some (.int l2), some (.ref (q 1)), some (.int l4), some (.int l5), some (.int l6), none, some (.int l8), none] [.int t1, .int t0] () (fL_place_ab_c100 g b kh35 l2 l4 l5 l6 l8 t0 t1) := by
  unfold fL_place_ab_c100
  refine k_iadd (pc := 100) dL_place_100 ?_
  refine k_ist7 (pc := 101) dL_place_101 (Nat.le_of_ble_eq_true rfl) (fun v1 => ?_)
  refine k_iinc8 (pc := 103) (w := (nI 1)) dL_place_103 rfl (by decide) (Nat.le_of_ble_eq_true rfl) (fun v2 => ?_)
  refine k_goto (pc := 106) 35 dL_place_106 (by decide) ?_
  exact hk35 l2 l4 l5 l6 v1 v2
noncomputable def fL_place_ab_c95 (g : Nat → Int32) (b : Nat → Int32) (kh35 : Int32 → Int32 → Int32 → Int32 → Int32 → Int32 → Option (Int32 × Unit)) (l2 l4 l5 l6 l8 t0 : Int32) : Option (Int32 × Unit) := fL_place_ab_c100 g b kh35 l2 l4 l5 l6 l8 t0 ((nI 1))
set_option maxRecDepth 100000 in
set_option maxHeartbeats 4000000 in
theorem kL_place_ab_c95 {X : k_C} {q : Nat → Nat} {g b r : Nat → Int32} (kh35 : Int32 → Int32 → Int32 → Int32 → Int32 → Int32 → Option (Int32 × Unit)) (hk35 : ∀ (l2 l4 l5 l6 l7 l8 : Int32), KO X YL_place (fun _ : Unit => cR (k_I X) q g b r) 0 0 (k_Q k_ei X (fun _ : Unit => cR (k_I X) q g b r)) 35 [some (.ref (q 0)), some (.ref (q 1)), some (.int l2), some (.ref (q 1)), some (.int l4), some (.int l5), some (.int l6), some (.int l7), some (.int l8), none] [] () (kh35 l2 l4 l5 l6 l7 l8)) (l2 l4 l5 l6 l8 t0 : Int32) : KO X YL_place (fun _ : Unit => cR (k_I X) q g b r) 0 0 (k_Q k_ei X (fun _ : Unit => cR (k_I X) q g b r)) 95 [some (.ref (q 0)), some (.ref (q 1)), some (.int l2), some (.ref (q 1)), some (.int l4), some (.int l5), some (.int l6), none, some (.int l8), none] [.int t0] () (fL_place_ab_c95 g b kh35 l2 l4 l5 l6 l8 t0) := by
  unfold fL_place_ab_c95
  refine k_iconst (pc := 95) (v := (nI 1)) dL_place_95 (by decide) ?_
  refine k_goto (pc := 96) 100 dL_place_96 (by decide) ?_
  exact kL_place_ab_c100 kh35 hk35 l2 l4 l5 l6 l8 t0 ((nI 1))
noncomputable def fL_place_ab_c99 (g : Nat → Int32) (b : Nat → Int32) (kh35 : Int32 → Int32 → Int32 → Int32 → Int32 → Int32 → Option (Int32 × Unit)) (l2 l4 l5 l6 l8 t0 : Int32) : Option (Int32 × Unit) := fL_place_ab_c100 g b kh35 l2 l4 l5 l6 l8 t0 ((nI 0))
set_option maxRecDepth 100000 in
set_option maxHeartbeats 4000000 in
theorem kL_place_ab_c99 {X : k_C} {q : Nat → Nat} {g b r : Nat → Int32} (kh35 : Int32 → Int32 → Int32 → Int32 → Int32 → Int32 → Option (Int32 × Unit)) (hk35 : ∀ (l2 l4 l5 l6 l7 l8 : Int32), KO X YL_place (fun _ : Unit => cR (k_I X) q g b r) 0 0 (k_Q k_ei X (fun _ : Unit => cR (k_I X) q g b r)) 35 [some (.ref (q 0)), some (.ref (q 1)), some (.int l2), some (.ref (q 1)), some (.int l4), some (.int l5), some (.int l6), some (.int l7), some (.int l8), none] [] () (kh35 l2 l4 l5 l6 l7 l8)) (l2 l4 l5 l6 l8 t0 : Int32) : KO X YL_place (fun _ : Unit => cR (k_I X) q g b r) 0 0 (k_Q k_ei X (fun _ : Unit => cR (k_I X) q g b r)) 99 [some (.ref (q 0)), some (.ref (q 1)), some (.int l2), some (.ref (q 1)), some (.int l4), some (.int l5), some (.int l6), none, some (.int l8), none] [.int t0] () (fL_place_ab_c99 g b kh35 l2 l4 l5 l6 l8 t0) := by
  unfold fL_place_ab_c99
  refine k_iconst (pc := 99) (v := (nI 0)) dL_place_99 (by decide) ?_
  exact kL_place_ab_c100 kh35 hk35 l2 l4 l5 l6 l8 t0 ((nI 0))
noncomputable def fL_place_ab_c70 (g : Nat → Int32) (b : Nat → Int32) (kh35 : Int32 → Int32 → Int32 → Int32 → Int32 → Int32 → Option (Int32 × Unit)) (l2 l4 l5 l6 l7 l8 t0 : Int32) : Option (Int32 × Unit) := k_bn (t0) fun v1 => (if l6 < v1 then fL_place_ab_c95 g b kh35 l2 l4 l5 l6 l8 l7 else (if v1 = l6 then (if l8 < l5 then fL_place_ab_c95 g b kh35 l2 l4 l5 l6 l8 l7 else fL_place_ab_c99 g b kh35 l2 l4 l5 l6 l8 l7) else fL_place_ab_c99 g b kh35 l2 l4 l5 l6 l8 l7))
set_option maxRecDepth 100000 in
set_option maxHeartbeats 4000000 in
theorem kL_place_ab_c70 {X : k_C} {q : Nat → Nat} {g b r : Nat → Int32} (kh35 : Int32 → Int32 → Int32 → Int32 → Int32 → Int32 → Option (Int32 × Unit)) (hk35 : ∀ (l2 l4 l5 l6 l7 l8 : Int32), KO X YL_place (fun _ : Unit => cR (k_I X) q g b r) 0 0 (k_Q k_ei X (fun _ : Unit => cR (k_I X) q g b r)) 35 [some (.ref (q 0)), some (.ref (q 1)), some (.int l2), some (.ref (q 1)), some (.int l4), some (.int l5), some (.int l6), some (.int l7), some (.int l8), none] [] () (kh35 l2 l4 l5 l6 l7 l8)) (l2 l4 l5 l6 l7 l8 t0 : Int32) : KO X YL_place (fun _ : Unit => cR (k_I X) q g b r) 0 0 (k_Q k_ei X (fun _ : Unit => cR (k_I X) q g b r)) 70 [some (.ref (q 0)), some (.ref (q 1)), some (.int l2), some (.ref (q 1)), some (.int l4), some (.int l5), some (.int l6), some (.int l7), some (.int l8), none] [.int t0] () (fL_place_ab_c70 g b kh35 l2 l4 l5 l6 l7 l8 t0) := by
  unfold fL_place_ab_c70
  refine k_ist9 (pc := 70) dL_place_70 (Nat.le_of_ble_eq_true rfl) (fun v1 => ?_)
  refine k_iload (pc := 72) dL_place_72 rfl ?_
  refine k_iload (pc := 74) dL_place_74 rfl ?_
  refine k_iload (pc := 76) dL_place_76 rfl ?_
  refine k_icmp_gt (pc := 78) 95 dL_place_78 (by decide) ?_ ?_
  · refine k_fg7 ?_
    refine k_fg9 ?_
    exact kL_place_ab_c95 kh35 hk35 l2 l4 l5 l6 l8 l7
  · refine k_iload (pc := 81) dL_place_81 rfl ?_
    refine k_iload (pc := 83) dL_place_83 rfl ?_
    refine k_icmp_ne (pc := 85) 99 dL_place_85 (by decide) ?_ ?_
    · refine k_fg7 ?_
      refine k_fg9 ?_
      exact kL_place_ab_c99 kh35 hk35 l2 l4 l5 l6 l8 l7
    · refine k_iload (pc := 88) dL_place_88 rfl ?_
      refine k_iload (pc := 90) dL_place_90 rfl ?_
      refine k_icmp_ge (pc := 92) 99 dL_place_92 (by decide) ?_ ?_
      · refine k_fg7 ?_
        refine k_fg9 ?_
        exact kL_place_ab_c99 kh35 hk35 l2 l4 l5 l6 l8 l7
      · refine k_fg7 ?_
        refine k_fg9 ?_
        exact kL_place_ab_c95 kh35 hk35 l2 l4 l5 l6 l8 l7
noncomputable def fL_place_ab_c35 (g : Nat → Int32) (b : Nat → Int32) : Nat → Int32 → Int32 → Int32 → Int32 → Int32 → Int32 → Option (Int32 × Unit)
  | 0, _, _, _, _, _, _ => none
  | n + 1, l2, l4, l5, l6, l7, l8 => k_gd ((nI 0)) 34 ((if l8 < g (Int32.toNatClampNeg ((nI 0))) then k_gd ((l4 + l8)) 60 ((if b (Int32.toNatClampNeg ((l4 + l8))) < 0 then fL_place_ab_c70 g b (fL_place_ab_c35 g b n) l2 l4 l5 l6 l7 l8 ((nI 0)) else k_gd ((l4 + l8)) 60 (k_oq (fL_tall g b (l2) (b (Int32.toNatClampNeg ((l4 + l8))))) fun r1 => fL_place_ab_c70 g b (fL_place_ab_c35 g b n) l2 l4 l5 l6 l7 l8 r1))) else some (l7, ())))
theorem fL_place_ab_c35_s (g : Nat → Int32) (b : Nat → Int32) (n : Nat) (l2 l4 l5 l6 l7 l8 : Int32) : fL_place_ab_c35 g b (n + 1) l2 l4 l5 l6 l7 l8 = k_gd ((nI 0)) 34 ((if l8 < g (Int32.toNatClampNeg ((nI 0))) then k_gd ((l4 + l8)) 60 ((if b (Int32.toNatClampNeg ((l4 + l8))) < 0 then fL_place_ab_c70 g b (fL_place_ab_c35 g b n) l2 l4 l5 l6 l7 l8 ((nI 0)) else k_gd ((l4 + l8)) 60 (k_oq (fL_tall g b (l2) (b (Int32.toNatClampNeg ((l4 + l8))))) fun r1 => fL_place_ab_c70 g b (fL_place_ab_c35 g b n) l2 l4 l5 l6 l7 l8 r1))) else some (l7, ()))) := rfl
set_option maxRecDepth 100000 in
set_option maxHeartbeats 4000000 in
theorem kL_place_ab_c35 {X : k_C} {q : Nat → Nat} {g b r : Nat → Int32} : ∀ (n : Nat) (l2 l4 l5 l6 l7 l8 : Int32), KO X YL_place (fun _ : Unit => cR (k_I X) q g b r) 0 0 (k_Q k_ei X (fun _ : Unit => cR (k_I X) q g b r)) 35 [some (.ref (q 0)), some (.ref (q 1)), some (.int l2), some (.ref (q 1)), some (.int l4), some (.int l5), some (.int l6), some (.int l7), some (.int l8), none] [] () (fL_place_ab_c35 g b n l2 l4 l5 l6 l7 l8) := by
  intro n
  induction n with
  | zero => intros; exact KO.nil
  | succ n ih =>
    intro l2 l4 l5 l6 l7 l8
    rw [fL_place_ab_c35_s]
    refine k_iload (pc := 35) dL_place_35 rfl ?_
    refine k_aload_n (pc := 37) dL_place_37 rfl ?_
    refine k_iconst (pc := 38) (v := (nI 0)) dL_place_38 (by decide) ?_
    refine k_iald (pc := 39) (n := 34) (f := g) 0 rfl dL_place_39 ?_
    refine k_icmp_ge (pc := 40) 109 dL_place_40 (by decide) ?_ ?_
    · refine k_iload (pc := 109) dL_place_109 rfl ?_
      exact k_ireturn (pc := 111) rfl dL_place_111
    · refine k_aload_n (pc := 43) dL_place_43 rfl ?_
      refine k_iload (pc := 44) dL_place_44 rfl ?_
      refine k_iload (pc := 46) dL_place_46 rfl ?_
      refine k_iadd (pc := 48) dL_place_48 ?_
      refine k_iald (pc := 49) (n := 60) (f := b) 1 rfl dL_place_49 ?_
      refine k_if_ge (pc := 50) 57 dL_place_50 (by decide) ?_ ?_
      · refine k_aload_n (pc := 57) dL_place_57 rfl ?_
        refine k_aload_n (pc := 58) dL_place_58 rfl ?_
        refine k_iload_n (pc := 59) dL_place_59 rfl ?_
        refine k_aload_n (pc := 60) dL_place_60 rfl ?_
        refine k_iload (pc := 61) dL_place_61 rfl ?_
        refine k_iload (pc := 63) dL_place_63 rfl ?_
        refine k_iadd (pc := 65) dL_place_65 ?_
        refine k_iald (pc := 66) (n := 60) (f := b) 1 rfl dL_place_66 ?_
        refine k_cq (pc := 67) (n := 4) (W0 := cR (k_I X) q g b r) (As := [.ref (q 0), .ref (q 1), .int (l2), .int (b (Int32.toNatClampNeg ((l4 + l8))))]) [0, 1, 2] (by decide) rfl ckL_tall kwm_L_35 rfl ⟨rfl, rfl⟩ ⟨Nat.le_of_ble_eq_true rfl, Nat.le_of_ble_eq_true rfl⟩ ⟨Nat.zero_le _, Nat.zero_le _⟩ (Nat.le_of_ble_eq_true rfl) dL_place_67 rfl (fun _ _ hf => kL_tall (q := q) (g := g) (b := b) (r := r) hf) (fun r1 => ?_)
        exact kL_place_ab_c70 (fL_place_ab_c35 g b n) ih l2 l4 l5 l6 l7 l8 r1
      · refine k_iconst (pc := 53) (v := (nI 0)) dL_place_53 (by decide) ?_
        refine k_goto (pc := 54) 70 dL_place_54 (by decide) ?_
        exact kL_place_ab_c70 (fL_place_ab_c35 g b n) ih l2 l4 l5 l6 l7 l8 ((nI 0))
noncomputable def fL_place_ab_c27 (g : Nat → Int32) (b : Nat → Int32) (l2 l4 l5 t0 : Int32) : Option (Int32 × Unit) := k_bn (t0) fun v1 => k_bn ((nI 0)) fun v2 => k_bn ((nI 0)) fun v3 => fL_place_ab_c35 g b k_F l2 l4 l5 v1 v2 v3
set_option maxRecDepth 100000 in
set_option maxHeartbeats 4000000 in
theorem kL_place_ab_c27 {X : k_C} {q : Nat → Nat} {g b r : Nat → Int32} (l2 l4 l5 t0 : Int32) : KO X YL_place (fun _ : Unit => cR (k_I X) q g b r) 0 0 (k_Q k_ei X (fun _ : Unit => cR (k_I X) q g b r)) 27 [some (.ref (q 0)), some (.ref (q 1)), some (.int l2), some (.ref (q 1)), some (.int l4), some (.int l5), none, none, none, none] [.int t0] () (fL_place_ab_c27 g b l2 l4 l5 t0) := by
  unfold fL_place_ab_c27
  refine k_ist6 (pc := 27) dL_place_27 (Nat.le_of_ble_eq_true rfl) (fun v1 => ?_)
  refine k_iconst (pc := 29) (v := (nI 0)) dL_place_29 (by decide) ?_
  refine k_ist7 (pc := 30) dL_place_30 (Nat.le_of_ble_eq_true rfl) (fun v2 => ?_)
  refine k_iconst (pc := 32) (v := (nI 0)) dL_place_32 (by decide) ?_
  refine k_ist8 (pc := 33) dL_place_33 (Nat.le_of_ble_eq_true rfl) (fun v3 => ?_)
  exact kL_place_ab_c35 k_F l2 l4 l5 v1 v2 v3
noncomputable def fL_place_ab (g : Nat → Int32) (b : Nat → Int32) (x2 x4 x5 : Int32) : Option (Int32 × Unit) := k_gd ((x4 + x5)) 60 ((if b (Int32.toNatClampNeg ((x4 + x5))) < 0 then fL_place_ab_c27 g b x2 x4 x5 ((nI 0)) else k_gd ((x4 + x5)) 60 (k_oq (fL_tall g b (x2) (b (Int32.toNatClampNeg ((x4 + x5))))) fun r1 => fL_place_ab_c27 g b x2 x4 x5 r1)))
set_option maxRecDepth 100000 in
set_option maxHeartbeats 4000000 in
theorem kL_place_ab {D : va_G} {cI : ClassId} {q : Nat → Nat} {g b r : Nat → Int32} {x2 x4 x5 : Int32} {r0 : Int32} {τ : Unit} (h : fL_place_ab g b x2 x4 x5 = some (r0, τ)) : k_Ct k_ei yL_place cL_place 10 (some .int) rmL_place (fun _ : Unit => cR cI q g b r) D cI [.ref (q 0), .ref (q 1), .int x2, .ref (q 1), .int x4, .int x5] () r0 τ := by
  refine k_met (Y := YL_place) (k_same_of fun _ _ => rfl) (by decide) rfl (Nat.le_of_ble_eq_true rfl) (List.forall_mem_cons.mpr ⟨rfl, List.forall_mem_cons.mpr ⟨rfl, List.forall_mem_cons.mpr ⟨rfl, List.forall_mem_cons.mpr ⟨rfl, List.forall_mem_cons.mpr ⟨rfl, List.forall_mem_cons.mpr ⟨rfl, fun _ h => absurd h List.not_mem_nil⟩⟩⟩⟩⟩⟩) (fun X hD hI => ?_) h
  subst hD hI
  show KO X YL_place (fun _ : Unit => cR (k_I X) q g b r) 0 0 (k_Q k_ei X (fun _ : Unit => cR (k_I X) q g b r)) 0 [some (.ref (q 0)), some (.ref (q 1)), some (.int x2), some (.ref (q 1)), some (.int x4), some (.int x5), none, none, none, none] [] () _
  unfold fL_place_ab
  refine k_aload_n (pc := 0) dL_place_0 rfl ?_
  refine k_iload (pc := 1) dL_place_1 rfl ?_
  refine k_iload (pc := 3) dL_place_3 rfl ?_
  refine k_iadd (pc := 5) dL_place_5 ?_
  refine k_iald (pc := 6) (n := 60) (f := b) 1 rfl dL_place_6 ?_
  refine k_if_ge (pc := 7) 14 dL_place_7 (by decide) ?_ ?_
  · refine k_aload_n (pc := 14) dL_place_14 rfl ?_
    refine k_aload_n (pc := 15) dL_place_15 rfl ?_
    refine k_iload_n (pc := 16) dL_place_16 rfl ?_
    refine k_aload_n (pc := 17) dL_place_17 rfl ?_
    refine k_iload (pc := 18) dL_place_18 rfl ?_
    refine k_iload (pc := 20) dL_place_20 rfl ?_
    refine k_iadd (pc := 22) dL_place_22 ?_
    refine k_iald (pc := 23) (n := 60) (f := b) 1 rfl dL_place_23 ?_
    refine k_cq (pc := 24) (n := 4) (W0 := cR (k_I X) q g b r) (As := [.ref (q 0), .ref (q 1), .int (x2), .int (b (Int32.toNatClampNeg ((x4 + x5))))]) [0, 1, 2] (by decide) rfl ckL_tall kwm_L_35 rfl ⟨rfl, rfl⟩ ⟨Nat.le_of_ble_eq_true rfl, Nat.le_of_ble_eq_true rfl⟩ ⟨Nat.zero_le _, Nat.zero_le _⟩ (Nat.le_of_ble_eq_true rfl) dL_place_24 rfl (fun _ _ hf => kL_tall (q := q) (g := g) (b := b) (r := r) hf) (fun r1 => ?_)
    exact kL_place_ab_c27 x2 x4 x5 r1
  · refine k_iconst (pc := 10) (v := (nI 0)) dL_place_10 (by decide) ?_
    refine k_goto (pc := 11) 27 dL_place_11 (by decide) ?_
    exact kL_place_ab_c27 x2 x4 x5 ((nI 0))
