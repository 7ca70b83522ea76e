/-! ===== T: methods as pure functions, and that the bytecode answers so (by program: wip/gen30/dec.py) ===== -/
-- TallTales.lay(II)I
theorem ckX6_lay : k_Vok yX6_lay cX6_lay 3 (some .int) 2 := ⟨kwk_X6_lay, kwi_X6_lay, kwv_X6_lay, kwn_X6, by decide, by decide +kernel⟩
abbrev rmX6_lay : Room := { frames := 1, cells := 0, slots := 0, locals := 24 }
abbrev YX6_lay : k_Y := (rmX6_lay, cX6_lay, 3, RX6, (some .int))
noncomputable def fX6_lay (σ : k_S) (x1 x2 : Int32) : Option (Int32 × k_S) := k_ob (fX0_hasGuest σ x1) fun r1 σ2 => (if r1 = 0 then some ((k_ng 1), σ2) else k_ob (fX0_hasGuest σ2 x2) fun r3 σ4 => (if r3 = 0 then some ((k_ng 1), σ4) else k_ob (fX0_nightsAt σ4 x1 x2) fun r5 σ6 => some (r5, σ6)))
set_option maxRecDepth 100000 in
set_option maxHeartbeats 4000000 in
theorem kX6_lay {D : va_G} {cI : ClassId} {q : Nat → Nat} {σ : k_S} {x1 x2 : Int32} {r : Int32} {τ : k_S} (h : fX6_lay σ x1 x2 = some (r, τ)) : k_Ct k_ei yX6_lay cX6_lay 3 (some .int) rmX6_lay (cT cI q) D cI [.ref (q 0), .int x1, .int x2] σ r τ := by
  refine k_met (Y := YX6_lay) (cT_same _ _) (by decide) rfl (Nat.le_of_ble_eq_true rfl) (List.forall_mem_cons.mpr ⟨rfl, List.forall_mem_cons.mpr ⟨rfl, List.forall_mem_cons.mpr ⟨rfl, fun _ h => absurd h List.not_mem_nil⟩⟩⟩) (fun X hD hI => ?_) h
  subst hD hI
  show KO X YX6_lay (cT (k_I X) q) 0 0 (k_Q k_ei X (cT (k_I X) q)) 0 [some (.ref (q 0)), some (.int x1), some (.int x2)] [] σ _
  unfold fX6_lay
  refine k_aload_n (pc := 0) dX6_lay_0 rfl ?_
  refine k_gTX6_house (pc := 1) kwf_X6_28 rfl dX6_lay_1 ?_
  refine k_iload_n (pc := 4) dX6_lay_4 rfl ?_
  refine k_vi1 (pc := 5) (cT_same _ _) ckX0_hasGuest kwm_X6_132 cT_rv3 ⟨rfl, rfl⟩ ⟨Nat.le_of_ble_eq_true rfl, Nat.le_of_ble_eq_true rfl⟩ ⟨Nat.zero_le _, Nat.zero_le _⟩ (Nat.le_of_ble_eq_true rfl) dX6_lay_5 (fun _ _ hf => kX0_hasGuest hf) (fun r1 σ2 => ?_)
  refine k_if_eq (pc := 8) 22 dX6_lay_8 (by decide) ?_ ?_
  · refine k_iconst (pc := 22) (v := (k_ng 1)) dX6_lay_22 (by decide) ?_
    exact k_ireturn (pc := 23) rfl dX6_lay_23
  · refine k_aload_n (pc := 11) dX6_lay_11 rfl ?_
    refine k_gTX6_house (pc := 12) kwf_X6_28 rfl dX6_lay_12 ?_
    refine k_iload_n (pc := 15) dX6_lay_15 rfl ?_
    refine k_vi1 (pc := 16) (cT_same _ _) ckX0_hasGuest kwm_X6_132 cT_rv3 ⟨rfl, rfl⟩ ⟨Nat.le_of_ble_eq_true rfl, Nat.le_of_ble_eq_true rfl⟩ ⟨Nat.zero_le _, Nat.zero_le _⟩ (Nat.le_of_ble_eq_true rfl) dX6_lay_16 (fun _ _ hf => kX0_hasGuest hf) (fun r3 σ4 => ?_)
    refine k_if_ne (pc := 19) 24 dX6_lay_19 (by decide) ?_ ?_
    · refine k_aload_n (pc := 24) dX6_lay_24 rfl ?_
      refine k_gTX6_house (pc := 25) kwf_X6_28 rfl dX6_lay_25 ?_
      refine k_iload_n (pc := 28) dX6_lay_28 rfl ?_
      refine k_iload_n (pc := 29) dX6_lay_29 rfl ?_
      refine k_vi2 (pc := 30) (cT_same _ _) ckX0_nightsAt kwm_X6_165 cT_rv3 ⟨rfl, rfl⟩ ⟨Nat.le_of_ble_eq_true rfl, Nat.le_of_ble_eq_true rfl⟩ ⟨Nat.zero_le _, Nat.zero_le _⟩ (Nat.le_of_ble_eq_true rfl) dX6_lay_30 (fun _ _ hf => kX0_nightsAt hf) (fun r5 σ6 => ?_)
      exact k_ireturn (pc := 33) rfl dX6_lay_33
    · refine k_iconst (pc := 22) (v := (k_ng 1)) dX6_lay_22 (by decide) ?_
      exact k_ireturn (pc := 23) rfl dX6_lay_23
-- TallTales$Talls.needOf(I)I
theorem ckX3_needOf : k_Vok yX3_needOf cX3_needOf 4 (some .int) 1 := ⟨kwk_X3_needOf, kwi_X3_needOf, kwv_X3_needOf, kwn_X3, by decide, by decide +kernel⟩
abbrev rmX3_needOf : Room := { frames := 1, cells := 0, slots := 0, locals := 21 }
abbrev YX3_needOf : k_Y := (rmX3_needOf, cX3_needOf, 4, RX3, (some .int))
noncomputable def fX3_needOf_c47 (kh4 : k_S → Int32 → Int32 → Int32 → Option (Int32 × k_S)) (σ : k_S) (l1 l2 l3 : Int32) : Option (Int32 × k_S) := k_bn (l3 + (nI 1)) fun v1 => kh4 σ l1 l2 v1
set_option maxRecDepth 100000 in
set_option maxHeartbeats 4000000 in
theorem kX3_needOf_c47 {X : k_C} {q : Nat → Nat} (kh4 : k_S → Int32 → Int32 → Int32 → Option (Int32 × k_S)) (hk4 : ∀ (σ : k_S) (l1 l2 l3 : Int32), KO X YX3_needOf (cT (k_I X) q) 0 0 (k_Q k_ei X (cT (k_I X) q)) 4 [some (.ref (q 4)), some (.int l1), some (.int l2), some (.int l3)] [] σ (kh4 σ l1 l2 l3)) (σ : k_S) (l1 l2 l3 : Int32) : KO X YX3_needOf (cT (k_I X) q) 0 0 (k_Q k_ei X (cT (k_I X) q)) 47 [some (.ref (q 4)), some (.int l1), some (.int l2), some (.int l3)] [] σ (fX3_needOf_c47 kh4 σ l1 l2 l3) := by
  unfold fX3_needOf_c47
  refine k_iinc3 (pc := 47) (w := (nI 1)) dX3_needOf_47 rfl (by decide) (Nat.le_of_ble_eq_true rfl) (fun v1 => ?_)
  refine k_goto (pc := 50) 4 dX3_needOf_50 (by decide) ?_
  exact hk4 σ l1 l2 v1
noncomputable def fX3_needOf_c43 (kh4 : k_S → Int32 → Int32 → Int32 → Option (Int32 × k_S)) (σ : k_S) (l1 l3 s0 s1 : Int32) : Option (Int32 × k_S) := k_bn ((k_mx (s0) (s1))) fun v1 => fX3_needOf_c47 kh4 σ l1 v1 l3
set_option maxRecDepth 100000 in
set_option maxHeartbeats 4000000 in
theorem kX3_needOf_c43 {X : k_C} {q : Nat → Nat} (kh4 : k_S → Int32 → Int32 → Int32 → Option (Int32 × k_S)) (hk4 : ∀ (σ : k_S) (l1 l2 l3 : Int32), KO X YX3_needOf (cT (k_I X) q) 0 0 (k_Q k_ei X (cT (k_I X) q)) 4 [some (.ref (q 4)), some (.int l1), some (.int l2), some (.int l3)] [] σ (kh4 σ l1 l2 l3)) (σ : k_S) (l1 l3 s0 s1 : Int32) : KO X YX3_needOf (cT (k_I X) q) 0 0 (k_Q k_ei X (cT (k_I X) q)) 43 [some (.ref (q 4)), some (.int l1), none, some (.int l3)] [.int s1, .int s0] σ (fX3_needOf_c43 kh4 σ l1 l3 s0 s1) := by
  unfold fX3_needOf_c43
  refine k_max (pc := 43) kwm_X3_19 ⟨Nat.le_of_ble_eq_true rfl, Nat.le_of_ble_eq_true rfl⟩ ⟨Nat.zero_le _, Nat.zero_le _⟩ dX3_needOf_43 ?_
  refine k_ist2 (pc := 46) dX3_needOf_46 (Nat.le_of_ble_eq_true rfl) (fun v1 => ?_)
  exact kX3_needOf_c47 kh4 hk4 σ l1 v1 l3
noncomputable def fX3_needOf_c4 : Nat → k_S → Int32 → Int32 → Int32 → Option (Int32 × k_S)
  | 0, _, _, _, _ => none
  | n + 1, σ, l1, l2, l3 => (if l3 < σ.1 7 then (if l3 = l1 then fX3_needOf_c47 (fX3_needOf_c4 n) σ l1 l2 l3 else (if l3 < l1 then k_gd (l3) 5 (fX3_needOf_c43 (fX3_needOf_c4 n) σ l1 l3 l2 ((σ.2 14 (Int32.toNatClampNeg (l3)) + (nI 1)))) else k_gd (l3) 5 (fX3_needOf_c43 (fX3_needOf_c4 n) σ l1 l3 l2 (σ.2 14 (Int32.toNatClampNeg (l3)))))) else some (l2, σ))
theorem fX3_needOf_c4_s (n : Nat) (σ : k_S) (l1 l2 l3 : Int32) : fX3_needOf_c4 (n + 1) σ l1 l2 l3 = (if l3 < σ.1 7 then (if l3 = l1 then fX3_needOf_c47 (fX3_needOf_c4 n) σ l1 l2 l3 else (if l3 < l1 then k_gd (l3) 5 (fX3_needOf_c43 (fX3_needOf_c4 n) σ l1 l3 l2 ((σ.2 14 (Int32.toNatClampNeg (l3)) + (nI 1)))) else k_gd (l3) 5 (fX3_needOf_c43 (fX3_needOf_c4 n) σ l1 l3 l2 (σ.2 14 (Int32.toNatClampNeg (l3)))))) else some (l2, σ)) := rfl
set_option maxRecDepth 100000 in
set_option maxHeartbeats 4000000 in
theorem kX3_needOf_c4 {X : k_C} {q : Nat → Nat} : ∀ (n : Nat) (σ : k_S) (l1 l2 l3 : Int32), KO X YX3_needOf (cT (k_I X) q) 0 0 (k_Q k_ei X (cT (k_I X) q)) 4 [some (.ref (q 4)), some (.int l1), some (.int l2), some (.int l3)] [] σ (fX3_needOf_c4 n σ l1 l2 l3) := by
  intro n
  induction n with
  | zero => intros; exact KO.nil
  | succ n ih =>
    intro σ l1 l2 l3
    rw [fX3_needOf_c4_s]
    refine k_iload_n (pc := 4) dX3_needOf_4 rfl ?_
    refine k_aload_n (pc := 5) dX3_needOf_5 rfl ?_
    refine k_gTX3_guests (pc := 6) kwf_X3_15 rfl dX3_needOf_6 ?_
    refine k_icmp_ge (pc := 9) 53 dX3_needOf_9 (by decide) ?_ ?_
    · refine k_iload_n (pc := 53) dX3_needOf_53 rfl ?_
      exact k_ireturn (pc := 54) rfl dX3_needOf_54
    · refine k_iload_n (pc := 12) dX3_needOf_12 rfl ?_
      refine k_iload_n (pc := 13) dX3_needOf_13 rfl ?_
      refine k_icmp_ne (pc := 14) 20 dX3_needOf_14 (by decide) ?_ ?_
      · refine k_iload_n (pc := 20) dX3_needOf_20 rfl ?_
        refine k_iload_n (pc := 21) dX3_needOf_21 rfl ?_
        refine k_iload_n (pc := 22) dX3_needOf_22 rfl ?_
        refine k_icmp_ge (pc := 23) 37 dX3_needOf_23 (by decide) ?_ ?_
        · refine k_aload_n (pc := 37) dX3_needOf_37 rfl ?_
          refine k_gTX3_of (pc := 38) kwf_X3_9 rfl dX3_needOf_38 ?_
          refine k_iload_n (pc := 41) dX3_needOf_41 rfl ?_
          refine k_lT21 (pc := 42) dX3_needOf_42 ?_
          refine k_fg2 ?_
          exact kX3_needOf_c43 (fX3_needOf_c4 n) ih σ l1 l3 l2 (σ.2 14 (Int32.toNatClampNeg (l3)))
        · refine k_aload_n (pc := 26) dX3_needOf_26 rfl ?_
          refine k_gTX3_of (pc := 27) kwf_X3_9 rfl dX3_needOf_27 ?_
          refine k_iload_n (pc := 30) dX3_needOf_30 rfl ?_
          refine k_lT21 (pc := 31) dX3_needOf_31 ?_
          refine k_iconst (pc := 32) (v := (nI 1)) dX3_needOf_32 (by decide) ?_
          refine k_iadd (pc := 33) dX3_needOf_33 ?_
          refine k_goto (pc := 34) 43 dX3_needOf_34 (by decide) ?_
          refine k_fg2 ?_
          exact kX3_needOf_c43 (fX3_needOf_c4 n) ih σ l1 l3 l2 ((σ.2 14 (Int32.toNatClampNeg (l3)) + (nI 1)))
      · refine k_goto (pc := 17) 47 dX3_needOf_17 (by decide) ?_
        exact kX3_needOf_c47 (fX3_needOf_c4 n) ih σ l1 l2 l3
noncomputable def fX3_needOf (σ : k_S) (x1 : Int32) : Option (Int32 × k_S) := k_bn ((nI 1)) fun v1 => k_bn ((nI 0)) fun v2 => fX3_needOf_c4 k_F σ x1 v1 v2
set_option maxRecDepth 100000 in
set_option maxHeartbeats 4000000 in
theorem kX3_needOf {D : va_G} {cI : ClassId} {q : Nat → Nat} {σ : k_S} {x1 : Int32} {r : Int32} {τ : k_S} (h : fX3_needOf σ x1 = some (r, τ)) : k_Ct k_ei yX3_needOf cX3_needOf 4 (some .int) rmX3_needOf (cT cI q) D cI [.ref (q 4), .int x1] σ r τ := by
  refine k_met (Y := YX3_needOf) (cT_same _ _) (by decide) rfl (Nat.le_of_ble_eq_true rfl) (List.forall_mem_cons.mpr ⟨rfl, List.forall_mem_cons.mpr ⟨rfl, fun _ h => absurd h List.not_mem_nil⟩⟩) (fun X hD hI => ?_) h
  subst hD hI
  show KO X YX3_needOf (cT (k_I X) q) 0 0 (k_Q k_ei X (cT (k_I X) q)) 0 [some (.ref (q 4)), some (.int x1), none, none] [] σ _
  unfold fX3_needOf
  refine k_iconst (pc := 0) (v := (nI 1)) dX3_needOf_0 (by decide) ?_
  refine k_ist2 (pc := 1) dX3_needOf_1 (Nat.le_of_ble_eq_true rfl) (fun v1 => ?_)
  refine k_iconst (pc := 2) (v := (nI 0)) dX3_needOf_2 (by decide) ?_
  refine k_ist3 (pc := 3) dX3_needOf_3 (Nat.le_of_ble_eq_true rfl) (fun v2 => ?_)
  exact kX3_needOf_c4 k_F σ x1 v1 v2
-- TallTales.tonight(II)I
theorem ckX6_tonight : k_Vok yX6_tonight cX6_tonight 3 (some .int) 2 := ⟨kwk_X6_tonight, kwi_X6_tonight, kwv_X6_tonight, kwn_X6, by decide, by decide +kernel⟩
abbrev rmX6_tonight : Room := { frames := 3, cells := 0, slots := 0, locals := 65 }
abbrev YX6_tonight : k_Y := (rmX6_tonight, cX6_tonight, 3, RX6, (some .int))
noncomputable def fX6_tonight (σ : k_S) (x1 x2 : Int32) : Option (Int32 × k_S) := k_ob (fX0_hasGuest σ x1) fun r1 σ2 => (if r1 = 0 then some ((k_ng 1), σ2) else k_ob (fX0_tallsAsChosen σ2) fun r3 σ4 => (if x2 = (nI 0) then k_gd (x1) 5 (some (σ4.2 10 (Int32.toNatClampNeg (x1)), σ4)) else (if x2 = (nI 1) then k_gd (x1) 5 (k_ob (fX3_placeOf σ4 x1 (σ4.2 14 (Int32.toNatClampNeg (x1)))) fun r6 σ7 => some (r6, σ7)) else (if x2 = (nI 2) then k_ob (fX3_needOf σ4 x1) fun r8 σ9 => some (r8, σ9) else some ((k_ng 2), σ4)))))
set_option maxRecDepth 100000 in
set_option maxHeartbeats 4000000 in
theorem kX6_tonight {D : va_G} {cI : ClassId} {q : Nat → Nat} {σ : k_S} {x1 x2 : Int32} {r : Int32} {τ : k_S} (h : fX6_tonight σ x1 x2 = some (r, τ)) : k_Ct k_ei yX6_tonight cX6_tonight 3 (some .int) rmX6_tonight (cT cI q) D cI [.ref (q 0), .int x1, .int x2] σ r τ := by
  refine k_met (Y := YX6_tonight) (cT_same _ _) (by decide) rfl (Nat.le_of_ble_eq_true rfl) (List.forall_mem_cons.mpr ⟨rfl, List.forall_mem_cons.mpr ⟨rfl, List.forall_mem_cons.mpr ⟨rfl, fun _ h => absurd h List.not_mem_nil⟩⟩⟩) (fun X hD hI => ?_) h
  subst hD hI
  show KO X YX6_tonight (cT (k_I X) q) 0 0 (k_Q k_ei X (cT (k_I X) q)) 0 [some (.ref (q 0)), some (.int x1), some (.int x2)] [] σ _
  unfold fX6_tonight
  refine k_aload_n (pc := 0) dX6_tonight_0 rfl ?_
  refine k_gTX6_house (pc := 1) kwf_X6_28 rfl dX6_tonight_1 ?_
  refine k_iload_n (pc := 4) dX6_tonight_4 rfl ?_
  refine k_vi1 (pc := 5) (cT_same _ _) ckX0_hasGuest kwm_X6_132 cT_rv3 ⟨rfl, rfl⟩ ⟨Nat.le_of_ble_eq_true rfl, Nat.le_of_ble_eq_true rfl⟩ ⟨Nat.zero_le _, Nat.zero_le _⟩ (Nat.le_of_ble_eq_true rfl) dX6_tonight_5 (fun _ _ hf => kX0_hasGuest hf) (fun r1 σ2 => ?_)
  refine k_if_ne (pc := 8) 13 dX6_tonight_8 (by decide) ?_ ?_
  · refine k_aload_n (pc := 13) dX6_tonight_13 rfl ?_
    refine k_gTX6_house (pc := 14) kwf_X6_28 rfl dX6_tonight_14 ?_
    refine k_aload_n (pc := 17) dX6_tonight_17 rfl ?_
    refine k_gTX6_talls (pc := 18) kwf_X6_35 rfl dX6_tonight_18 ?_
    refine k_vv1 (pc := 21) (cT_same _ _) ckX0_tallsAsChosen kwm_X6_141 cT_rv3 ⟨rfl, rfl⟩ ⟨Nat.le_of_ble_eq_true rfl, Nat.le_of_ble_eq_true rfl⟩ ⟨Nat.zero_le _, Nat.zero_le _⟩ (Nat.le_of_ble_eq_true rfl) dX6_tonight_21 (fun _ _ hf => kX0_tallsAsChosen hf) (fun r3 σ4 => ?_)
    refine k_iload_n (pc := 24) dX6_tonight_24 rfl ?_
    refine KO.ite (c := x2 = (nI 0)) (fun hs5_0 => ?_) (fun hs5_0 => ?_)
    · refine k_tableIn (off := 27) (pc := 25) 52 dX6_tonight_25 hs5_0 (by decide) (by decide) (by decide) (by decide) ?_
      refine k_aload_n (pc := 52) dX6_tonight_52 rfl ?_
      refine k_gTX6_house (pc := 53) kwf_X6_28 rfl dX6_tonight_53 ?_
      refine k_gTX0_chosen (pc := 56) kwf_X6_135 rfl dX6_tonight_56 ?_
      refine k_iload_n (pc := 59) dX6_tonight_59 rfl ?_
      refine k_lT17 (pc := 60) dX6_tonight_60 ?_
      exact k_ireturn (pc := 61) rfl dX6_tonight_61
    · refine KO.ite (c := x2 = (nI 1)) (fun hs5_1 => ?_) (fun hs5_1 => ?_)
      · refine k_tableIn (off := 37) (pc := 25) 62 dX6_tonight_25 hs5_1 (by decide) (by decide) (by decide) (by decide) ?_
        refine k_aload_n (pc := 62) dX6_tonight_62 rfl ?_
        refine k_gTX6_talls (pc := 63) kwf_X6_35 rfl dX6_tonight_63 ?_
        refine k_iload_n (pc := 66) dX6_tonight_66 rfl ?_
        refine k_aload_n (pc := 67) dX6_tonight_67 rfl ?_
        refine k_gTX6_talls (pc := 68) kwf_X6_35 rfl dX6_tonight_68 ?_
        refine k_gTX3_of (pc := 71) kwf_X6_169 rfl dX6_tonight_71 ?_
        refine k_iload_n (pc := 74) dX6_tonight_74 rfl ?_
        refine k_lT21 (pc := 75) dX6_tonight_75 ?_
        refine k_vi2 (pc := 76) (cT_same _ _) ckX3_placeOf kwm_X6_172 cT_rv4 ⟨rfl, rfl⟩ ⟨Nat.le_of_ble_eq_true rfl, Nat.le_of_ble_eq_true rfl⟩ ⟨Nat.zero_le _, Nat.zero_le _⟩ (Nat.le_of_ble_eq_true rfl) dX6_tonight_76 (fun _ _ hf => kX3_placeOf hf) (fun r6 σ7 => ?_)
        exact k_ireturn (pc := 79) rfl dX6_tonight_79
      · refine KO.ite (c := x2 = (nI 2)) (fun hs5_2 => ?_) (fun hs5_2 => ?_)
        · refine k_tableIn (off := 55) (pc := 25) 80 dX6_tonight_25 hs5_2 (by decide) (by decide) (by decide) (by decide) ?_
          refine k_aload_n (pc := 80) dX6_tonight_80 rfl ?_
          refine k_gTX6_talls (pc := 81) kwf_X6_35 rfl dX6_tonight_81 ?_
          refine k_iload_n (pc := 84) dX6_tonight_84 rfl ?_
          refine k_vi1 (pc := 85) (cT_same _ _) ckX3_needOf kwm_X6_175 cT_rv4 ⟨rfl, rfl⟩ ⟨Nat.le_of_ble_eq_true rfl, Nat.le_of_ble_eq_true rfl⟩ ⟨Nat.zero_le _, Nat.zero_le _⟩ (Nat.le_of_ble_eq_true rfl) dX6_tonight_85 (fun _ _ hf => kX3_needOf hf) (fun r8 σ9 => ?_)
          exact k_ireturn (pc := 88) rfl dX6_tonight_88
        · refine k_tableOut (pc := 25) 89 dX6_tonight_25 (by have g0 := lv_neT (a := 0) hs5_0 (by decide); have g1 := lv_neT (a := 1) hs5_1 (by decide); have g2 := lv_neT (a := 2) hs5_2 (by decide); omega) (by decide) ?_
          refine k_bipush (pc := 89) (v := (k_ng 2)) dX6_tonight_89 (by decide) ?_
          exact k_ireturn (pc := 91) rfl dX6_tonight_91
  · refine k_iconst (pc := 11) (v := (k_ng 1)) dX6_tonight_11 (by decide) ?_
    exact k_ireturn (pc := 12) rfl dX6_tonight_12
-- TallTales$House.isOffered(IIZ)Z
theorem ckX0_isOffered : k_Vok yX0_isOffered cX0_isOffered 5 (some .boolean) 3 := ⟨kwk_X0_isOffered, kwi_X0_isOffered, kwv_X0_isOffered, kwn_X0, by decide, by decide +kernel⟩
abbrev rmX0_isOffered : Room := { frames := 2, cells := 0, slots := 0, locals := 45 }
abbrev YX0_isOffered : k_Y := (rmX0_isOffered, cX0_isOffered, 5, RX0, (some .boolean))
noncomputable def fX0_isOffered_c43 (σ : k_S) : Option (Int32 × k_S) := k_z ((nI 0)) (some ((nI 0), σ))
set_option maxRecDepth 100000 in
set_option maxHeartbeats 4000000 in
theorem kX0_isOffered_c43 {X : k_C} {q : Nat → Nat} (σ : k_S) : KO X YX0_isOffered (cT (k_I X) q) 0 0 (k_Q k_ei X (cT (k_I X) q)) 43 [some (.ref (q 3)), none, none, none, none] [] σ (fX0_isOffered_c43 σ) := by
  unfold fX0_isOffered_c43
  refine k_iconst (pc := 43) (v := (nI 0)) dX0_isOffered_43 (by decide) ?_
  refine k_goto (pc := 44) 58 dX0_isOffered_44 (by decide) ?_
  exact k_zreturn (pc := 58) rfl dX0_isOffered_58
noncomputable def fX0_isOffered (σ : k_S) (x1 x2 x3 : Int32) : Option (Int32 × k_S) := k_ob (fX0_isTellable σ x2) fun r1 σ2 => (if r1 = 0 then k_z ((nI 0)) (some ((nI 0), σ2)) else k_gd (x2) 10 (k_bn (σ2.2 6 (Int32.toNatClampNeg (x2))) fun v3 => (if x3 = 0 then (if v3 = x1 then k_z ((nI 1)) (some ((nI 1), σ2)) else k_z ((nI 0)) (some ((nI 0), σ2))) else (if v3 = x1 then fX0_isOffered_c43 σ2 else k_gd (v3) 5 ((if σ2.2 10 (Int32.toNatClampNeg (v3)) = x2 then fX0_isOffered_c43 σ2 else k_z ((nI 1)) (some ((nI 1), σ2))))))))
set_option maxRecDepth 100000 in
set_option maxHeartbeats 4000000 in
theorem kX0_isOffered {D : va_G} {cI : ClassId} {q : Nat → Nat} {σ : k_S} {x1 x2 x3 : Int32} {r : Int32} {τ : k_S} (h : fX0_isOffered σ x1 x2 x3 = some (r, τ)) : k_Ct k_ei yX0_isOffered cX0_isOffered 5 (some .boolean) rmX0_isOffered (cT cI q) D cI [.ref (q 3), .int x1, .int x2, .int x3] σ r τ := by
  refine k_met (Y := YX0_isOffered) (cT_same _ _) (by decide) rfl (Nat.le_of_ble_eq_true rfl) (List.forall_mem_cons.mpr ⟨rfl, List.forall_mem_cons.mpr ⟨rfl, List.forall_mem_cons.mpr ⟨rfl, List.forall_mem_cons.mpr ⟨rfl, fun _ h => absurd h List.not_mem_nil⟩⟩⟩⟩) (fun X hD hI => ?_) h
  subst hD hI
  show KO X YX0_isOffered (cT (k_I X) q) 0 0 (k_Q k_ei X (cT (k_I X) q)) 0 [some (.ref (q 3)), some (.int x1), some (.int x2), some (.int x3), none] [] σ _
  unfold fX0_isOffered
  refine k_aload_n (pc := 0) dX0_isOffered_0 rfl ?_
  refine k_iload_n (pc := 1) dX0_isOffered_1 rfl ?_
  refine k_vi1 (pc := 2) (cT_same _ _) ckX0_isTellable kwm_X0_81 cT_rv3 ⟨rfl, rfl⟩ ⟨Nat.le_of_ble_eq_true rfl, Nat.le_of_ble_eq_true rfl⟩ ⟨Nat.zero_le _, Nat.zero_le _⟩ (Nat.le_of_ble_eq_true rfl) dX0_isOffered_2 (fun _ _ hf => kX0_isTellable hf) (fun r1 σ2 => ?_)
  refine k_if_ne (pc := 5) 10 dX0_isOffered_5 (by decide) ?_ ?_
  · refine k_aload_n (pc := 10) dX0_isOffered_10 rfl ?_
    refine k_gTX0_owners (pc := 11) kwf_X0_15 rfl dX0_isOffered_11 ?_
    refine k_iload_n (pc := 14) dX0_isOffered_14 rfl ?_
    refine k_lT13 (pc := 15) dX0_isOffered_15 ?_
    refine k_ist4 (pc := 16) dX0_isOffered_16 (Nat.le_of_ble_eq_true rfl) (fun v3 => ?_)
    refine k_iload_n (pc := 18) dX0_isOffered_18 rfl ?_
    refine k_if_eq (pc := 19) 47 dX0_isOffered_19 (by decide) ?_ ?_
    · refine k_iload (pc := 47) dX0_isOffered_47 rfl ?_
      refine k_iload_n (pc := 49) dX0_isOffered_49 rfl ?_
      refine k_icmp_ne (pc := 50) 57 dX0_isOffered_50 (by decide) ?_ ?_
      · refine k_iconst (pc := 57) (v := (nI 0)) dX0_isOffered_57 (by decide) ?_
        exact k_zreturn (pc := 58) rfl dX0_isOffered_58
      · refine k_iconst (pc := 53) (v := (nI 1)) dX0_isOffered_53 (by decide) ?_
        refine k_goto (pc := 54) 58 dX0_isOffered_54 (by decide) ?_
        exact k_zreturn (pc := 58) rfl dX0_isOffered_58
    · refine k_iload (pc := 22) dX0_isOffered_22 rfl ?_
      refine k_iload_n (pc := 24) dX0_isOffered_24 rfl ?_
      refine k_icmp_eq (pc := 25) 43 dX0_isOffered_25 (by decide) ?_ ?_
      · refine k_fg1 ?_
        refine k_fg2 ?_
        refine k_fg3 ?_
        refine k_fg4 ?_
        exact kX0_isOffered_c43 σ2
      · refine k_aload_n (pc := 28) dX0_isOffered_28 rfl ?_
        refine k_gTX0_chosen (pc := 29) kwf_X0_27 rfl dX0_isOffered_29 ?_
        refine k_iload (pc := 32) dX0_isOffered_32 rfl ?_
        refine k_lT17 (pc := 34) dX0_isOffered_34 ?_
        refine k_iload_n (pc := 35) dX0_isOffered_35 rfl ?_
        refine k_icmp_eq (pc := 36) 43 dX0_isOffered_36 (by decide) ?_ ?_
        · refine k_fg1 ?_
          refine k_fg2 ?_
          refine k_fg3 ?_
          refine k_fg4 ?_
          exact kX0_isOffered_c43 σ2
        · refine k_iconst (pc := 39) (v := (nI 1)) dX0_isOffered_39 (by decide) ?_
          refine k_goto (pc := 40) 58 dX0_isOffered_40 (by decide) ?_
          exact k_zreturn (pc := 58) rfl dX0_isOffered_58
  · refine k_iconst (pc := 8) (v := (nI 0)) dX0_isOffered_8 (by decide) ?_
    exact k_zreturn (pc := 9) rfl dX0_isOffered_9
-- TallTales.isBetterReply(III)Z
theorem ckX6_isBetterReply : k_Vok yX6_isBetterReply cX6_isBetterReply 8 (some .boolean) 3 := ⟨kwk_X6_isBetterReply, kwi_X6_isBetterReply, kwv_X6_isBetterReply, kwn_X6, by decide, by decide +kernel⟩
abbrev rmX6_isBetterReply : Room := { frames := 2, cells := 0, slots := 0, locals := 43 }
abbrev YX6_isBetterReply : k_Y := (rmX6_isBetterReply, cX6_isBetterReply, 8, RX6, (some .boolean))
noncomputable def fX6_isBetterReply_c65 (σ : k_S) : Option (Int32 × k_S) := k_z ((nI 1)) (some ((nI 1), σ))
set_option maxRecDepth 100000 in
set_option maxHeartbeats 4000000 in
theorem kX6_isBetterReply_c65 {X : k_C} {q : Nat → Nat} (σ : k_S) : KO X YX6_isBetterReply (cT (k_I X) q) 0 0 (k_Q k_ei X (cT (k_I X) q)) 65 [some (.ref (q 0)), none, none, none, none, none, none, none] [] σ (fX6_isBetterReply_c65 σ) := by
  unfold fX6_isBetterReply_c65
  refine k_iconst (pc := 65) (v := (nI 1)) dX6_isBetterReply_65 (by decide) ?_
  refine k_goto (pc := 66) 70 dX6_isBetterReply_66 (by decide) ?_
  exact k_zreturn (pc := 70) rfl dX6_isBetterReply_70
noncomputable def fX6_isBetterReply (σ : k_S) (x1 x2 x3 : Int32) : Option (Int32 × k_S) := k_ob (fX0_tallOf σ x2) fun r1 σ2 => k_bn (r1) fun v3 => k_ob (fX0_tallOf σ2 x3) fun r4 σ5 => k_bn (r4) fun v6 => k_ob (fX3_placeOf σ5 x1 v3) fun r7 σ8 => k_bn (r7) fun v9 => k_ob (fX3_placeOf σ8 x1 v6) fun r10 σ11 => k_bn (r10) fun v12 => (if v9 < v12 then fX6_isBetterReply_c65 σ11 else (if v9 = v12 then (if v3 < v6 then fX6_isBetterReply_c65 σ11 else k_z ((nI 0)) (some ((nI 0), σ11))) else k_z ((nI 0)) (some ((nI 0), σ11))))
set_option maxRecDepth 100000 in
set_option maxHeartbeats 4000000 in
theorem kX6_isBetterReply {D : va_G} {cI : ClassId} {q : Nat → Nat} {σ : k_S} {x1 x2 x3 : Int32} {r : Int32} {τ : k_S} (h : fX6_isBetterReply σ x1 x2 x3 = some (r, τ)) : k_Ct k_ei yX6_isBetterReply cX6_isBetterReply 8 (some .boolean) rmX6_isBetterReply (cT cI q) D cI [.ref (q 0), .int x1, .int x2, .int x3] σ r τ := by
  refine k_met (Y := YX6_isBetterReply) (cT_same _ _) (by decide) rfl (Nat.le_of_ble_eq_true rfl) (List.forall_mem_cons.mpr ⟨rfl, List.forall_mem_cons.mpr ⟨rfl, List.forall_mem_cons.mpr ⟨rfl, List.forall_mem_cons.mpr ⟨rfl, fun _ h => absurd h List.not_mem_nil⟩⟩⟩⟩) (fun X hD hI => ?_) h
  subst hD hI
  show KO X YX6_isBetterReply (cT (k_I X) q) 0 0 (k_Q k_ei X (cT (k_I X) q)) 0 [some (.ref (q 0)), some (.int x1), some (.int x2), some (.int x3), none, none, none, none] [] σ _
  unfold fX6_isBetterReply
  refine k_aload_n (pc := 0) dX6_isBetterReply_0 rfl ?_
  refine k_gTX6_house (pc := 1) kwf_X6_28 rfl dX6_isBetterReply_1 ?_
  refine k_iload_n (pc := 4) dX6_isBetterReply_4 rfl ?_
  refine k_vi1 (pc := 5) (cT_same _ _) ckX0_tallOf kwm_X6_122 cT_rv3 ⟨rfl, rfl⟩ ⟨Nat.le_of_ble_eq_true rfl, Nat.le_of_ble_eq_true rfl⟩ ⟨Nat.zero_le _, Nat.zero_le _⟩ (Nat.le_of_ble_eq_true rfl) dX6_isBetterReply_5 (fun _ _ hf => kX0_tallOf hf) (fun r1 σ2 => ?_)
  refine k_ist4 (pc := 8) dX6_isBetterReply_8 (Nat.le_of_ble_eq_true rfl) (fun v3 => ?_)
  refine k_aload_n (pc := 10) dX6_isBetterReply_10 rfl ?_
  refine k_gTX6_house (pc := 11) kwf_X6_28 rfl dX6_isBetterReply_11 ?_
  refine k_iload_n (pc := 14) dX6_isBetterReply_14 rfl ?_
  refine k_vi1 (pc := 15) (cT_same _ _) ckX0_tallOf kwm_X6_122 cT_rv3 ⟨rfl, rfl⟩ ⟨Nat.le_of_ble_eq_true rfl, Nat.le_of_ble_eq_true rfl⟩ ⟨Nat.zero_le _, Nat.zero_le _⟩ (Nat.le_of_ble_eq_true rfl) dX6_isBetterReply_15 (fun _ _ hf => kX0_tallOf hf) (fun r4 σ5 => ?_)
  refine k_ist5 (pc := 18) dX6_isBetterReply_18 (Nat.le_of_ble_eq_true rfl) (fun v6 => ?_)
  refine k_aload_n (pc := 20) dX6_isBetterReply_20 rfl ?_
  refine k_gTX6_talls (pc := 21) kwf_X6_35 rfl dX6_isBetterReply_21 ?_
  refine k_iload_n (pc := 24) dX6_isBetterReply_24 rfl ?_
  refine k_iload (pc := 25) dX6_isBetterReply_25 rfl ?_
  refine k_vi2 (pc := 27) (cT_same _ _) ckX3_placeOf kwm_X6_172 cT_rv4 ⟨rfl, rfl⟩ ⟨Nat.le_of_ble_eq_true rfl, Nat.le_of_ble_eq_true rfl⟩ ⟨Nat.zero_le _, Nat.zero_le _⟩ (Nat.le_of_ble_eq_true rfl) dX6_isBetterReply_27 (fun _ _ hf => kX3_placeOf hf) (fun r7 σ8 => ?_)
  refine k_ist6 (pc := 30) dX6_isBetterReply_30 (Nat.le_of_ble_eq_true rfl) (fun v9 => ?_)
  refine k_aload_n (pc := 32) dX6_isBetterReply_32 rfl ?_
  refine k_gTX6_talls (pc := 33) kwf_X6_35 rfl dX6_isBetterReply_33 ?_
  refine k_iload_n (pc := 36) dX6_isBetterReply_36 rfl ?_
  refine k_iload (pc := 37) dX6_isBetterReply_37 rfl ?_
  refine k_vi2 (pc := 39) (cT_same _ _) ckX3_placeOf kwm_X6_172 cT_rv4 ⟨rfl, rfl⟩ ⟨Nat.le_of_ble_eq_true rfl, Nat.le_of_ble_eq_true rfl⟩ ⟨Nat.zero_le _, Nat.zero_le _⟩ (Nat.le_of_ble_eq_true rfl) dX6_isBetterReply_39 (fun _ _ hf => kX3_placeOf hf) (fun r10 σ11 => ?_)
  refine k_ist7 (pc := 42) dX6_isBetterReply_42 (Nat.le_of_ble_eq_true rfl) (fun v12 => ?_)
  refine k_iload (pc := 44) dX6_isBetterReply_44 rfl ?_
  refine k_iload (pc := 46) dX6_isBetterReply_46 rfl ?_
  refine k_icmp_lt (pc := 48) 65 dX6_isBetterReply_48 (by decide) ?_ ?_
  · refine k_fg1 ?_
    refine k_fg2 ?_
    refine k_fg3 ?_
    refine k_fg4 ?_
    refine k_fg5 ?_
    refine k_fg6 ?_
    refine k_fg7 ?_
    exact kX6_isBetterReply_c65 σ11
  · refine k_iload (pc := 51) dX6_isBetterReply_51 rfl ?_
    refine k_iload (pc := 53) dX6_isBetterReply_53 rfl ?_
    refine k_icmp_ne (pc := 55) 69 dX6_isBetterReply_55 (by decide) ?_ ?_
    · refine k_iconst (pc := 69) (v := (nI 0)) dX6_isBetterReply_69 (by decide) ?_
      exact k_zreturn (pc := 70) rfl dX6_isBetterReply_70
    · refine k_iload (pc := 58) dX6_isBetterReply_58 rfl ?_
      refine k_iload (pc := 60) dX6_isBetterReply_60 rfl ?_
      refine k_icmp_ge (pc := 62) 69 dX6_isBetterReply_62 (by decide) ?_ ?_
      · refine k_iconst (pc := 69) (v := (nI 0)) dX6_isBetterReply_69 (by decide) ?_
        exact k_zreturn (pc := 70) rfl dX6_isBetterReply_70
      · refine k_fg1 ?_
        refine k_fg2 ?_
        refine k_fg3 ?_
        refine k_fg4 ?_
        refine k_fg5 ?_
        refine k_fg6 ?_
        refine k_fg7 ?_
        exact kX6_isBetterReply_c65 σ11
-- TallTales.bestReply(IIZ)I
theorem ckX6_bestReply : k_Vok yX6_bestReply cX6_bestReply 6 (some .int) 3 := ⟨kwk_X6_bestReply, kwi_X6_bestReply, kwv_X6_bestReply, kwn_X6, by decide, by decide +kernel⟩
abbrev rmX6_bestReply : Room := { frames := 3, cells := 0, slots := 0, locals := 70 }
abbrev YX6_bestReply : k_Y := (rmX6_bestReply, cX6_bestReply, 6, RX6, (some .int))
noncomputable def fX6_bestReply_c95 (kh43 : k_S → Int32 → Int32 → Int32 → Int32 → Int32 → Option (Int32 × k_S)) (σ : k_S) (l1 l2 l3 l4 l5 : Int32) : Option (Int32 × k_S) := k_bn (l5 + (nI 1)) fun v1 => kh43 σ l1 l2 l3 l4 v1
set_option maxRecDepth 100000 in
set_option maxHeartbeats 4000000 in
theorem kX6_bestReply_c95 {X : k_C} {q : Nat → Nat} (kh43 : k_S → Int32 → Int32 → Int32 → Int32 → Int32 → Option (Int32 × k_S)) (hk43 : ∀ (σ : k_S) (l1 l2 l3 l4 l5 : Int32), KO X YX6_bestReply (cT (k_I X) q) 0 0 (k_Q k_ei X (cT (k_I X) q)) 43 [some (.ref (q 0)), some (.int l1), some (.int l2), some (.int l3), some (.int l4), some (.int l5)] [] σ (kh43 σ l1 l2 l3 l4 l5)) (σ : k_S) (l1 l2 l3 l4 l5 : Int32) : KO X YX6_bestReply (cT (k_I X) q) 0 0 (k_Q k_ei X (cT (k_I X) q)) 95 [some (.ref (q 0)), some (.int l1), some (.int l2), some (.int l3), some (.int l4), some (.int l5)] [] σ (fX6_bestReply_c95 kh43 σ l1 l2 l3 l4 l5) := by
  unfold fX6_bestReply_c95
  refine k_iinc5 (pc := 95) (w := (nI 1)) dX6_bestReply_95 rfl (by decide) (Nat.le_of_ble_eq_true rfl) (fun v1 => ?_)
  refine k_goto (pc := 98) 43 dX6_bestReply_98 (by decide) ?_
  exact hk43 σ l1 l2 l3 l4 v1
noncomputable def fX6_bestReply_c91 (kh43 : k_S → Int32 → Int32 → Int32 → Int32 → Int32 → Option (Int32 × k_S)) (σ : k_S) (l1 l2 l3 l5 : Int32) : Option (Int32 × k_S) := k_bn (l5) fun v1 => fX6_bestReply_c95 kh43 σ l1 l2 l3 v1 l5
set_option maxRecDepth 100000 in
set_option maxHeartbeats 4000000 in
theorem kX6_bestReply_c91 {X : k_C} {q : Nat → Nat} (kh43 : k_S → Int32 → Int32 → Int32 → Int32 → Int32 → Option (Int32 × k_S)) (hk43 : ∀ (σ : k_S) (l1 l2 l3 l4 l5 : Int32), KO X YX6_bestReply (cT (k_I X) q) 0 0 (k_Q k_ei X (cT (k_I X) q)) 43 [some (.ref (q 0)), some (.int l1), some (.int l2), some (.int l3), some (.int l4), some (.int l5)] [] σ (kh43 σ l1 l2 l3 l4 l5)) (σ : k_S) (l1 l2 l3 l5 : Int32) : KO X YX6_bestReply (cT (k_I X) q) 0 0 (k_Q k_ei X (cT (k_I X) q)) 91 [some (.ref (q 0)), some (.int l1), some (.int l2), some (.int l3), none, some (.int l5)] [] σ (fX6_bestReply_c91 kh43 σ l1 l2 l3 l5) := by
  unfold fX6_bestReply_c91
  refine k_iload (pc := 91) dX6_bestReply_91 rfl ?_
  refine k_ist4 (pc := 93) dX6_bestReply_93 (Nat.le_of_ble_eq_true rfl) (fun v1 => ?_)
  exact kX6_bestReply_c95 kh43 hk43 σ l1 l2 l3 v1 l5
noncomputable def fX6_bestReply_c43 : Nat → k_S → Int32 → Int32 → Int32 → Int32 → Int32 → Option (Int32 × k_S)
  | 0, _, _, _, _, _, _ => none
  | n + 1, σ, l1, l2, l3, l4, l5 => (if l5 < σ.1 4 then k_ob (fX0_isOffered σ l1 l5 l3) fun r5 σ6 => (if r5 = 0 then fX6_bestReply_c95 (fX6_bestReply_c43 n) σ6 l1 l2 l3 l4 l5 else (if l4 = (k_ng 9) then fX6_bestReply_c91 (fX6_bestReply_c43 n) σ6 l1 l2 l3 l5 else k_ob (fX6_isBetterReply σ6 l1 l5 l4) fun r7 σ8 => (if r7 = 0 then fX6_bestReply_c95 (fX6_bestReply_c43 n) σ8 l1 l2 l3 l4 l5 else fX6_bestReply_c91 (fX6_bestReply_c43 n) σ8 l1 l2 l3 l5))) else (if l2 = 0 then some (l4, σ) else (if l4 = (k_ng 9) then some (l4, σ) else k_ob (fX0_tallOf σ l4) fun r1 σ2 => k_ob (fX3_placeOf σ2 l1 r1) fun r3 σ4 => some (r3, σ4))))
theorem fX6_bestReply_c43_s (n : Nat) (σ : k_S) (l1 l2 l3 l4 l5 : Int32) : fX6_bestReply_c43 (n + 1) σ l1 l2 l3 l4 l5 = (if l5 < σ.1 4 then k_ob (fX0_isOffered σ l1 l5 l3) fun r5 σ6 => (if r5 = 0 then fX6_bestReply_c95 (fX6_bestReply_c43 n) σ6 l1 l2 l3 l4 l5 else (if l4 = (k_ng 9) then fX6_bestReply_c91 (fX6_bestReply_c43 n) σ6 l1 l2 l3 l5 else k_ob (fX6_isBetterReply σ6 l1 l5 l4) fun r7 σ8 => (if r7 = 0 then fX6_bestReply_c95 (fX6_bestReply_c43 n) σ8 l1 l2 l3 l4 l5 else fX6_bestReply_c91 (fX6_bestReply_c43 n) σ8 l1 l2 l3 l5))) else (if l2 = 0 then some (l4, σ) else (if l4 = (k_ng 9) then some (l4, σ) else k_ob (fX0_tallOf σ l4) fun r1 σ2 => k_ob (fX3_placeOf σ2 l1 r1) fun r3 σ4 => some (r3, σ4)))) := rfl
set_option maxRecDepth 100000 in
set_option maxHeartbeats 4000000 in
theorem kX6_bestReply_c43 {X : k_C} {q : Nat → Nat} : ∀ (n : Nat) (σ : k_S) (l1 l2 l3 l4 l5 : Int32), KO X YX6_bestReply (cT (k_I X) q) 0 0 (k_Q k_ei X (cT (k_I X) q)) 43 [some (.ref (q 0)), some (.int l1), some (.int l2), some (.int l3), some (.int l4), some (.int l5)] [] σ (fX6_bestReply_c43 n σ l1 l2 l3 l4 l5) := by
  intro n
  induction n with
  | zero => intros; exact KO.nil
  | succ n ih =>
    intro σ l1 l2 l3 l4 l5
    rw [fX6_bestReply_c43_s]
    refine k_iload (pc := 43) dX6_bestReply_43 rfl ?_
    refine k_aload_n (pc := 45) dX6_bestReply_45 rfl ?_
    refine k_gTX6_house (pc := 46) kwf_X6_28 rfl dX6_bestReply_46 ?_
    refine k_gTX0_tales (pc := 49) kwf_X6_98 rfl dX6_bestReply_49 ?_
    refine k_icmp_ge (pc := 52) 101 dX6_bestReply_52 (by decide) ?_ ?_
    · refine k_iload_n (pc := 101) dX6_bestReply_101 rfl ?_
      refine k_if_eq (pc := 102) 112 dX6_bestReply_102 (by decide) ?_ ?_
      · refine k_iload (pc := 112) dX6_bestReply_112 rfl ?_
        exact k_ireturn (pc := 114) rfl dX6_bestReply_114
      · refine k_iload (pc := 105) dX6_bestReply_105 rfl ?_
        refine k_bipush (pc := 107) (v := (k_ng 9)) dX6_bestReply_107 (by decide) ?_
        refine k_icmp_ne (pc := 109) 115 dX6_bestReply_109 (by decide) ?_ ?_
        · refine k_aload_n (pc := 115) dX6_bestReply_115 rfl ?_
          refine k_gTX6_talls (pc := 116) kwf_X6_35 rfl dX6_bestReply_116 ?_
          refine k_iload_n (pc := 119) dX6_bestReply_119 rfl ?_
          refine k_aload_n (pc := 120) dX6_bestReply_120 rfl ?_
          refine k_gTX6_house (pc := 121) kwf_X6_28 rfl dX6_bestReply_121 ?_
          refine k_iload (pc := 124) dX6_bestReply_124 rfl ?_
          refine k_vi1 (pc := 126) (cT_same _ _) ckX0_tallOf kwm_X6_122 cT_rv3 ⟨rfl, rfl⟩ ⟨Nat.le_of_ble_eq_true rfl, Nat.le_of_ble_eq_true rfl⟩ ⟨Nat.zero_le _, Nat.zero_le _⟩ (Nat.le_of_ble_eq_true rfl) dX6_bestReply_126 (fun _ _ hf => kX0_tallOf hf) (fun r1 σ2 => ?_)
          refine k_vi2 (pc := 129) (cT_same _ _) ckX3_placeOf kwm_X6_172 cT_rv4 ⟨rfl, rfl⟩ ⟨Nat.le_of_ble_eq_true rfl, Nat.le_of_ble_eq_true rfl⟩ ⟨Nat.zero_le _, Nat.zero_le _⟩ (Nat.le_of_ble_eq_true rfl) dX6_bestReply_129 (fun _ _ hf => kX3_placeOf hf) (fun r3 σ4 => ?_)
          exact k_ireturn (pc := 132) rfl dX6_bestReply_132
        · refine k_iload (pc := 112) dX6_bestReply_112 rfl ?_
          exact k_ireturn (pc := 114) rfl dX6_bestReply_114
    · refine k_aload_n (pc := 55) dX6_bestReply_55 rfl ?_
      refine k_gTX6_house (pc := 56) kwf_X6_28 rfl dX6_bestReply_56 ?_
      refine k_iload_n (pc := 59) dX6_bestReply_59 rfl ?_
      refine k_iload (pc := 60) dX6_bestReply_60 rfl ?_
      refine k_iload_n (pc := 62) dX6_bestReply_62 rfl ?_
      refine k_vi3 (pc := 63) (cT_same _ _) ckX0_isOffered kwm_X6_262 cT_rv3 ⟨rfl, rfl⟩ ⟨Nat.le_of_ble_eq_true rfl, Nat.le_of_ble_eq_true rfl⟩ ⟨Nat.zero_le _, Nat.zero_le _⟩ (Nat.le_of_ble_eq_true rfl) dX6_bestReply_63 (fun _ _ hf => kX0_isOffered hf) (fun r5 σ6 => ?_)
      refine k_if_ne (pc := 66) 72 dX6_bestReply_66 (by decide) ?_ ?_
      · refine k_iload (pc := 72) dX6_bestReply_72 rfl ?_
        refine k_bipush (pc := 74) (v := (k_ng 9)) dX6_bestReply_74 (by decide) ?_
        refine k_icmp_eq (pc := 76) 91 dX6_bestReply_76 (by decide) ?_ ?_
        · refine k_fg4 ?_
          exact kX6_bestReply_c91 (fX6_bestReply_c43 n) ih σ6 l1 l2 l3 l5
        · refine k_aload_n (pc := 79) dX6_bestReply_79 rfl ?_
          refine k_iload_n (pc := 80) dX6_bestReply_80 rfl ?_
          refine k_iload (pc := 81) dX6_bestReply_81 rfl ?_
          refine k_iload (pc := 83) dX6_bestReply_83 rfl ?_
          refine k_vi3 (pc := 85) (cT_same _ _) ckX6_isBetterReply kwm_X6_266 cT_rv0 ⟨rfl, rfl⟩ ⟨Nat.le_of_ble_eq_true rfl, Nat.le_of_ble_eq_true rfl⟩ ⟨Nat.zero_le _, Nat.zero_le _⟩ (Nat.le_of_ble_eq_true rfl) dX6_bestReply_85 (fun _ _ hf => kX6_isBetterReply hf) (fun r7 σ8 => ?_)
          refine k_if_eq (pc := 88) 95 dX6_bestReply_88 (by decide) ?_ ?_
          · exact kX6_bestReply_c95 (fX6_bestReply_c43 n) ih σ8 l1 l2 l3 l4 l5
          · refine k_fg4 ?_
            exact kX6_bestReply_c91 (fX6_bestReply_c43 n) ih σ8 l1 l2 l3 l5
      · refine k_goto (pc := 69) 95 dX6_bestReply_69 (by decide) ?_
        exact kX6_bestReply_c95 (fX6_bestReply_c43 n) ih σ6 l1 l2 l3 l4 l5
noncomputable def fX6_bestReply (σ : k_S) (x1 x2 x3 : Int32) : Option (Int32 × k_S) := k_ob (fX0_hasGuest σ x1) fun r1 σ2 => (if r1 = 0 then some ((k_ng 1), σ2) else (if x2 < 0 then some ((k_ng 2), σ2) else (if (nI 1) < x2 then some ((k_ng 2), σ2) else k_ob (fX0_tallsAsChosen σ2) fun r3 σ4 => k_bn ((k_ng 9)) fun v5 => k_bn ((nI 0)) fun v6 => fX6_bestReply_c43 k_F σ4 x1 x2 x3 v5 v6)))
set_option maxRecDepth 100000 in
set_option maxHeartbeats 4000000 in
theorem kX6_bestReply {D : va_G} {cI : ClassId} {q : Nat → Nat} {σ : k_S} {x1 x2 x3 : Int32} {r : Int32} {τ : k_S} (h : fX6_bestReply σ x1 x2 x3 = some (r, τ)) : k_Ct k_ei yX6_bestReply cX6_bestReply 6 (some .int) rmX6_bestReply (cT cI q) D cI [.ref (q 0), .int x1, .int x2, .int x3] σ r τ := by
  refine k_met (Y := YX6_bestReply) (cT_same _ _) (by decide) rfl (Nat.le_of_ble_eq_true rfl) (List.forall_mem_cons.mpr ⟨rfl, List.forall_mem_cons.mpr ⟨rfl, List.forall_mem_cons.mpr ⟨rfl, List.forall_mem_cons.mpr ⟨rfl, fun _ h => absurd h List.not_mem_nil⟩⟩⟩⟩) (fun X hD hI => ?_) h
  subst hD hI
  show KO X YX6_bestReply (cT (k_I X) q) 0 0 (k_Q k_ei X (cT (k_I X) q)) 0 [some (.ref (q 0)), some (.int x1), some (.int x2), some (.int x3), none, none] [] σ _
  unfold fX6_bestReply
  refine k_aload_n (pc := 0) dX6_bestReply_0 rfl ?_
  refine k_gTX6_house (pc := 1) kwf_X6_28 rfl dX6_bestReply_1 ?_
  refine k_iload_n (pc := 4) dX6_bestReply_4 rfl ?_
  refine k_vi1 (pc := 5) (cT_same _ _) ckX0_hasGuest kwm_X6_132 cT_rv3 ⟨rfl, rfl⟩ ⟨Nat.le_of_ble_eq_true rfl, Nat.le_of_ble_eq_true rfl⟩ ⟨Nat.zero_le _, Nat.zero_le _⟩ (Nat.le_of_ble_eq_true rfl) dX6_bestReply_5 (fun _ _ hf => kX0_hasGuest hf) (fun r1 σ2 => ?_)
  refine k_if_ne (pc := 8) 13 dX6_bestReply_8 (by decide) ?_ ?_
  · refine k_iload_n (pc := 13) dX6_bestReply_13 rfl ?_
    refine k_if_lt (pc := 14) 22 dX6_bestReply_14 (by decide) ?_ ?_
    · refine k_bipush (pc := 22) (v := (k_ng 2)) dX6_bestReply_22 (by decide) ?_
      exact k_ireturn (pc := 24) rfl dX6_bestReply_24
    · refine k_iload_n (pc := 17) dX6_bestReply_17 rfl ?_
      refine k_iconst (pc := 18) (v := (nI 1)) dX6_bestReply_18 (by decide) ?_
      refine k_icmp_le (pc := 19) 25 dX6_bestReply_19 (by decide) ?_ ?_
      · refine k_aload_n (pc := 25) dX6_bestReply_25 rfl ?_
        refine k_gTX6_house (pc := 26) kwf_X6_28 rfl dX6_bestReply_26 ?_
        refine k_aload_n (pc := 29) dX6_bestReply_29 rfl ?_
        refine k_gTX6_talls (pc := 30) kwf_X6_35 rfl dX6_bestReply_30 ?_
        refine k_vv1 (pc := 33) (cT_same _ _) ckX0_tallsAsChosen kwm_X6_141 cT_rv3 ⟨rfl, rfl⟩ ⟨Nat.le_of_ble_eq_true rfl, Nat.le_of_ble_eq_true rfl⟩ ⟨Nat.zero_le _, Nat.zero_le _⟩ (Nat.le_of_ble_eq_true rfl) dX6_bestReply_33 (fun _ _ hf => kX0_tallsAsChosen hf) (fun r3 σ4 => ?_)
        refine k_bipush (pc := 36) (v := (k_ng 9)) dX6_bestReply_36 (by decide) ?_
        refine k_ist4 (pc := 38) dX6_bestReply_38 (Nat.le_of_ble_eq_true rfl) (fun v5 => ?_)
        refine k_iconst (pc := 40) (v := (nI 0)) dX6_bestReply_40 (by decide) ?_
        refine k_ist5 (pc := 41) dX6_bestReply_41 (Nat.le_of_ble_eq_true rfl) (fun v6 => ?_)
        exact kX6_bestReply_c43 k_F σ4 x1 x2 x3 v5 v6
      · refine k_bipush (pc := 22) (v := (k_ng 2)) dX6_bestReply_22 (by decide) ?_
        exact k_ireturn (pc := 24) rfl dX6_bestReply_24
  · refine k_iconst (pc := 11) (v := (k_ng 1)) dX6_bestReply_11 (by decide) ?_
    exact k_ireturn (pc := 12) rfl dX6_bestReply_12
-- TallTales.answer(II)I
theorem ckX6_answer : k_Vok yX6_answer cX6_answer 3 (some .int) 2 := ⟨kwk_X6_answer, kwi_X6_answer, kwv_X6_answer, kwn_X6, by decide, by decide +kernel⟩
abbrev rmX6_answer : Room := { frames := 4, cells := 0, slots := 0, locals := 95 }
abbrev YX6_answer : k_Y := (rmX6_answer, cX6_answer, 3, RX6, (some .int))
noncomputable def fX6_answer (σ : k_S) (x1 x2 : Int32) : Option (Int32 × k_S) := k_ob (fX6_bestReply σ x1 x2 ((nI 0))) fun r1 σ2 => some (r1, σ2)
set_option maxRecDepth 100000 in
set_option maxHeartbeats 4000000 in
theorem kX6_answer {D : va_G} {cI : ClassId} {q : Nat → Nat} {σ : k_S} {x1 x2 : Int32} {r : Int32} {τ : k_S} (h : fX6_answer σ x1 x2 = some (r, τ)) : k_Ct k_ei yX6_answer cX6_answer 3 (some .int) rmX6_answer (cT cI q) D cI [.ref (q 0), .int x1, .int x2] σ r τ := by
  refine k_met (Y := YX6_answer) (cT_same _ _) (by decide) rfl (Nat.le_of_ble_eq_true rfl) (List.forall_mem_cons.mpr ⟨rfl, List.forall_mem_cons.mpr ⟨rfl, List.forall_mem_cons.mpr ⟨rfl, fun _ h => absurd h List.not_mem_nil⟩⟩⟩) (fun X hD hI => ?_) h
  subst hD hI
  show KO X YX6_answer (cT (k_I X) q) 0 0 (k_Q k_ei X (cT (k_I X) q)) 0 [some (.ref (q 0)), some (.int x1), some (.int x2)] [] σ _
  unfold fX6_answer
  refine k_aload_n (pc := 0) dX6_answer_0 rfl ?_
  refine k_iload_n (pc := 1) dX6_answer_1 rfl ?_
  refine k_iload_n (pc := 2) dX6_answer_2 rfl ?_
  refine k_iconst (pc := 3) (v := (nI 0)) dX6_answer_3 (by decide) ?_
  refine k_vi3 (pc := 4) (cT_same _ _) ckX6_bestReply kwm_X6_178 cT_rv0 ⟨rfl, rfl⟩ ⟨Nat.le_of_ble_eq_true rfl, Nat.le_of_ble_eq_true rfl⟩ ⟨Nat.zero_le _, Nat.zero_le _⟩ (Nat.le_of_ble_eq_true rfl) dX6_answer_4 (fun _ _ hf => kX6_bestReply hf) (fun r1 σ2 => ?_)
  exact k_ireturn (pc := 7) rfl dX6_answer_7
-- TallTales.borrowed(II)I
theorem ckX6_borrowed : k_Vok yX6_borrowed cX6_borrowed 3 (some .int) 2 := ⟨kwk_X6_borrowed, kwi_X6_borrowed, kwv_X6_borrowed, kwn_X6, by decide, by decide +kernel⟩
abbrev rmX6_borrowed : Room := { frames := 4, cells := 0, slots := 0, locals := 95 }
abbrev YX6_borrowed : k_Y := (rmX6_borrowed, cX6_borrowed, 3, RX6, (some .int))
noncomputable def fX6_borrowed (σ : k_S) (x1 x2 : Int32) : Option (Int32 × k_S) := k_ob (fX6_bestReply σ x1 x2 ((nI 1))) fun r1 σ2 => some (r1, σ2)
set_option maxRecDepth 100000 in
set_option maxHeartbeats 4000000 in
theorem kX6_borrowed {D : va_G} {cI : ClassId} {q : Nat → Nat} {σ : k_S} {x1 x2 : Int32} {r : Int32} {τ : k_S} (h : fX6_borrowed σ x1 x2 = some (r, τ)) : k_Ct k_ei yX6_borrowed cX6_borrowed 3 (some .int) rmX6_borrowed (cT cI q) D cI [.ref (q 0), .int x1, .int x2] σ r τ := by
  refine k_met (Y := YX6_borrowed) (cT_same _ _) (by decide) rfl (Nat.le_of_ble_eq_true rfl) (List.forall_mem_cons.mpr ⟨rfl, List.forall_mem_cons.mpr ⟨rfl, List.forall_mem_cons.mpr ⟨rfl, fun _ h => absurd h List.not_mem_nil⟩⟩⟩) (fun X hD hI => ?_) h
  subst hD hI
  show KO X YX6_borrowed (cT (k_I X) q) 0 0 (k_Q k_ei X (cT (k_I X) q)) 0 [some (.ref (q 0)), some (.int x1), some (.int x2)] [] σ _
  unfold fX6_borrowed
  refine k_aload_n (pc := 0) dX6_borrowed_0 rfl ?_
  refine k_iload_n (pc := 1) dX6_borrowed_1 rfl ?_
  refine k_iload_n (pc := 2) dX6_borrowed_2 rfl ?_
  refine k_iconst (pc := 3) (v := (nI 1)) dX6_borrowed_3 (by decide) ?_
  refine k_vi3 (pc := 4) (cT_same _ _) ckX6_bestReply kwm_X6_178 cT_rv0 ⟨rfl, rfl⟩ ⟨Nat.le_of_ble_eq_true rfl, Nat.le_of_ble_eq_true rfl⟩ ⟨Nat.zero_le _, Nat.zero_le _⟩ (Nat.le_of_ble_eq_true rfl) dX6_borrowed_4 (fun _ _ hf => kX6_bestReply hf) (fun r1 σ2 => ?_)
  exact k_ireturn (pc := 7) rfl dX6_borrowed_7
-- TallTales$Talls.noLessThan(I)I
theorem ckX3_noLessThan : k_Vok yX3_noLessThan cX3_noLessThan 4 (some .int) 1 := ⟨kwk_X3_noLessThan, kwi_X3_noLessThan, kwv_X3_noLessThan, kwn_X3, by decide, by decide +kernel⟩
abbrev rmX3_noLessThan : Room := { frames := 0, cells := 0, slots := 0, locals := 0 }
abbrev YX3_noLessThan : k_Y := (rmX3_noLessThan, cX3_noLessThan, 4, RX3, (some .int))
noncomputable def fX3_noLessThan_c34 (kh4 : k_S → Int32 → Int32 → Int32 → Option (Int32 × k_S)) (σ : k_S) (l1 l2 l3 : Int32) : Option (Int32 × k_S) := k_bn (l3 + (nI 1)) fun v1 => kh4 σ l1 l2 v1
set_option maxRecDepth 100000 in
set_option maxHeartbeats 4000000 in
theorem kX3_noLessThan_c34 {X : k_C} {q : Nat → Nat} (kh4 : k_S → Int32 → Int32 → Int32 → Option (Int32 × k_S)) (hk4 : ∀ (σ : k_S) (l1 l2 l3 : Int32), KO X YX3_noLessThan (cT (k_I X) q) 0 0 (k_Q k_ei X (cT (k_I X) q)) 4 [some (.ref (q 4)), some (.int l1), some (.int l2), some (.int l3)] [] σ (kh4 σ l1 l2 l3)) (σ : k_S) (l1 l2 l3 : Int32) : KO X YX3_noLessThan (cT (k_I X) q) 0 0 (k_Q k_ei X (cT (k_I X) q)) 34 [some (.ref (q 4)), some (.int l1), some (.int l2), some (.int l3)] [] σ (fX3_noLessThan_c34 kh4 σ l1 l2 l3) := by
  unfold fX3_noLessThan_c34
  refine k_iinc3 (pc := 34) (w := (nI 1)) dX3_noLessThan_34 rfl (by decide) (Nat.le_of_ble_eq_true rfl) (fun v1 => ?_)
  refine k_goto (pc := 37) 4 dX3_noLessThan_37 (by decide) ?_
  exact hk4 σ l1 l2 v1
noncomputable def fX3_noLessThan_c4 : Nat → k_S → Int32 → Int32 → Int32 → Option (Int32 × k_S)
  | 0, _, _, _, _ => none
  | n + 1, σ, l1, l2, l3 => (if l3 < σ.1 7 then k_gd (l3) 5 ((if 0 < σ.2 14 (Int32.toNatClampNeg (l3)) then k_gd (l3) 5 ((if σ.2 14 (Int32.toNatClampNeg (l3)) < l1 then fX3_noLessThan_c34 (fX3_noLessThan_c4 n) σ l1 l2 l3 else k_bn (l2 + (nI 1)) fun v1 => fX3_noLessThan_c34 (fX3_noLessThan_c4 n) σ l1 v1 l3)) else fX3_noLessThan_c34 (fX3_noLessThan_c4 n) σ l1 l2 l3)) else some (l2, σ))
theorem fX3_noLessThan_c4_s (n : Nat) (σ : k_S) (l1 l2 l3 : Int32) : fX3_noLessThan_c4 (n + 1) σ l1 l2 l3 = (if l3 < σ.1 7 then k_gd (l3) 5 ((if 0 < σ.2 14 (Int32.toNatClampNeg (l3)) then k_gd (l3) 5 ((if σ.2 14 (Int32.toNatClampNeg (l3)) < l1 then fX3_noLessThan_c34 (fX3_noLessThan_c4 n) σ l1 l2 l3 else k_bn (l2 + (nI 1)) fun v1 => fX3_noLessThan_c34 (fX3_noLessThan_c4 n) σ l1 v1 l3)) else fX3_noLessThan_c34 (fX3_noLessThan_c4 n) σ l1 l2 l3)) else some (l2, σ)) := rfl
set_option maxRecDepth 100000 in
set_option maxHeartbeats 4000000 in
theorem kX3_noLessThan_c4 {X : k_C} {q : Nat → Nat} : ∀ (n : Nat) (σ : k_S) (l1 l2 l3 : Int32), KO X YX3_noLessThan (cT (k_I X) q) 0 0 (k_Q k_ei X (cT (k_I X) q)) 4 [some (.ref (q 4)), some (.int l1), some (.int l2), some (.int l3)] [] σ (fX3_noLessThan_c4 n σ l1 l2 l3) := by
  intro n
  induction n with
  | zero => intros; exact KO.nil
  | succ n ih =>
    intro σ l1 l2 l3
    rw [fX3_noLessThan_c4_s]
    refine k_iload_n (pc := 4) dX3_noLessThan_4 rfl ?_
    refine k_aload_n (pc := 5) dX3_noLessThan_5 rfl ?_
    refine k_gTX3_guests (pc := 6) kwf_X3_15 rfl dX3_noLessThan_6 ?_
    refine k_icmp_ge (pc := 9) 40 dX3_noLessThan_9 (by decide) ?_ ?_
    · refine k_iload_n (pc := 40) dX3_noLessThan_40 rfl ?_
      exact k_ireturn (pc := 41) rfl dX3_noLessThan_41
    · refine k_aload_n (pc := 12) dX3_noLessThan_12 rfl ?_
      refine k_gTX3_of (pc := 13) kwf_X3_9 rfl dX3_noLessThan_13 ?_
      refine k_iload_n (pc := 16) dX3_noLessThan_16 rfl ?_
      refine k_lT21 (pc := 17) dX3_noLessThan_17 ?_
      refine k_if_le (pc := 18) 34 dX3_noLessThan_18 (by decide) ?_ ?_
      · exact kX3_noLessThan_c34 (fX3_noLessThan_c4 n) ih σ l1 l2 l3
      · refine k_aload_n (pc := 21) dX3_noLessThan_21 rfl ?_
        refine k_gTX3_of (pc := 22) kwf_X3_9 rfl dX3_noLessThan_22 ?_
        refine k_iload_n (pc := 25) dX3_noLessThan_25 rfl ?_
        refine k_lT21 (pc := 26) dX3_noLessThan_26 ?_
        refine k_iload_n (pc := 27) dX3_noLessThan_27 rfl ?_
        refine k_icmp_lt (pc := 28) 34 dX3_noLessThan_28 (by decide) ?_ ?_
        · exact kX3_noLessThan_c34 (fX3_noLessThan_c4 n) ih σ l1 l2 l3
        · refine k_iinc2 (pc := 31) (w := (nI 1)) dX3_noLessThan_31 rfl (by decide) (Nat.le_of_ble_eq_true rfl) (fun v1 => ?_)
          exact kX3_noLessThan_c34 (fX3_noLessThan_c4 n) ih σ l1 v1 l3
noncomputable def fX3_noLessThan (σ : k_S) (x1 : Int32) : Option (Int32 × k_S) := k_bn ((nI 0)) fun v1 => k_bn ((nI 0)) fun v2 => fX3_noLessThan_c4 k_F σ x1 v1 v2
set_option maxRecDepth 100000 in
set_option maxHeartbeats 4000000 in
theorem kX3_noLessThan {D : va_G} {cI : ClassId} {q : Nat → Nat} {σ : k_S} {x1 : Int32} {r : Int32} {τ : k_S} (h : fX3_noLessThan σ x1 = some (r, τ)) : k_Ct k_ei yX3_noLessThan cX3_noLessThan 4 (some .int) rmX3_noLessThan (cT cI q) D cI [.ref (q 4), .int x1] σ r τ := by
  refine k_met (Y := YX3_noLessThan) (cT_same _ _) (by decide) rfl (Nat.le_of_ble_eq_true rfl) (List.forall_mem_cons.mpr ⟨rfl, List.forall_mem_cons.mpr ⟨rfl, fun _ h => absurd h List.not_mem_nil⟩⟩) (fun X hD hI => ?_) h
  subst hD hI
  show KO X YX3_noLessThan (cT (k_I X) q) 0 0 (k_Q k_ei X (cT (k_I X) q)) 0 [some (.ref (q 4)), some (.int x1), none, none] [] σ _
  unfold fX3_noLessThan
  refine k_iconst (pc := 0) (v := (nI 0)) dX3_noLessThan_0 (by decide) ?_
  refine k_ist2 (pc := 1) dX3_noLessThan_1 (Nat.le_of_ble_eq_true rfl) (fun v1 => ?_)
  refine k_iconst (pc := 2) (v := (nI 0)) dX3_noLessThan_2 (by decide) ?_
  refine k_ist3 (pc := 3) dX3_noLessThan_3 (Nat.le_of_ble_eq_true rfl) (fun v2 => ?_)
  exact kX3_noLessThan_c4 k_F σ x1 v1 v2
-- TallTales.bishop(I)I
theorem ckX6_bishop : k_Vok yX6_bishop cX6_bishop 2 (some .int) 1 := ⟨kwk_X6_bishop, kwi_X6_bishop, kwv_X6_bishop, kwn_X6, by decide, by decide +kernel⟩
abbrev rmX6_bishop : Room := { frames := 3, cells := 0, slots := 0, locals := 65 }
abbrev YX6_bishop : k_Y := (rmX6_bishop, cX6_bishop, 2, RX6, (some .int))
noncomputable def fX6_bishop (σ : k_S) (x1 : Int32) : Option (Int32 × k_S) := (if x1 < 0 then some ((k_ng 2), σ) else (if (nI 999) < x1 then some ((k_ng 2), σ) else k_ob (fX0_isOpen σ) fun r1 σ2 => (if r1 = 0 then some ((k_ng 3), σ2) else k_ob (fX0_tallsAsChosen σ2) fun r3 σ4 => k_ob (fX3_noLessThan σ4 x1) fun r5 σ6 => some (r5, σ6))))
set_option maxRecDepth 100000 in
set_option maxHeartbeats 4000000 in
theorem kX6_bishop {D : va_G} {cI : ClassId} {q : Nat → Nat} {σ : k_S} {x1 : Int32} {r : Int32} {τ : k_S} (h : fX6_bishop σ x1 = some (r, τ)) : k_Ct k_ei yX6_bishop cX6_bishop 2 (some .int) rmX6_bishop (cT cI q) D cI [.ref (q 0), .int x1] σ r τ := by
  refine k_met (Y := YX6_bishop) (cT_same _ _) (by decide) rfl (Nat.le_of_ble_eq_true rfl) (List.forall_mem_cons.mpr ⟨rfl, List.forall_mem_cons.mpr ⟨rfl, fun _ h => absurd h List.not_mem_nil⟩⟩) (fun X hD hI => ?_) h
  subst hD hI
  show KO X YX6_bishop (cT (k_I X) q) 0 0 (k_Q k_ei X (cT (k_I X) q)) 0 [some (.ref (q 0)), some (.int x1)] [] σ _
  unfold fX6_bishop
  refine k_iload_n (pc := 0) dX6_bishop_0 rfl ?_
  refine k_if_lt (pc := 1) 11 dX6_bishop_1 (by decide) ?_ ?_
  · refine k_bipush (pc := 11) (v := (k_ng 2)) dX6_bishop_11 (by decide) ?_
    exact k_ireturn (pc := 13) rfl dX6_bishop_13
  · refine k_iload_n (pc := 4) dX6_bishop_4 rfl ?_
    refine k_sipush (pc := 5) (v := (nI 999)) dX6_bishop_5 (by decide) ?_
    refine k_icmp_le (pc := 8) 14 dX6_bishop_8 (by decide) ?_ ?_
    · refine k_aload_n (pc := 14) dX6_bishop_14 rfl ?_
      refine k_gTX6_house (pc := 15) kwf_X6_28 rfl dX6_bishop_15 ?_
      refine k_vi0 (pc := 18) (cT_same _ _) ckX0_isOpen kwm_X6_125 cT_rv3 ⟨rfl, rfl⟩ ⟨Nat.le_of_ble_eq_true rfl, Nat.le_of_ble_eq_true rfl⟩ ⟨Nat.zero_le _, Nat.zero_le _⟩ (Nat.le_of_ble_eq_true rfl) dX6_bishop_18 (fun _ _ hf => kX0_isOpen hf) (fun r1 σ2 => ?_)
      refine k_if_ne (pc := 21) 27 dX6_bishop_21 (by decide) ?_ ?_
      · refine k_aload_n (pc := 27) dX6_bishop_27 rfl ?_
        refine k_gTX6_house (pc := 28) kwf_X6_28 rfl dX6_bishop_28 ?_
        refine k_aload_n (pc := 31) dX6_bishop_31 rfl ?_
        refine k_gTX6_talls (pc := 32) kwf_X6_35 rfl dX6_bishop_32 ?_
        refine k_vv1 (pc := 35) (cT_same _ _) ckX0_tallsAsChosen kwm_X6_141 cT_rv3 ⟨rfl, rfl⟩ ⟨Nat.le_of_ble_eq_true rfl, Nat.le_of_ble_eq_true rfl⟩ ⟨Nat.zero_le _, Nat.zero_le _⟩ (Nat.le_of_ble_eq_true rfl) dX6_bishop_35 (fun _ _ hf => kX0_tallsAsChosen hf) (fun r3 σ4 => ?_)
        refine k_aload_n (pc := 38) dX6_bishop_38 rfl ?_
        refine k_gTX6_talls (pc := 39) kwf_X6_35 rfl dX6_bishop_39 ?_
        refine k_iload_n (pc := 42) dX6_bishop_42 rfl ?_
        refine k_vi1 (pc := 43) (cT_same _ _) ckX3_noLessThan kwm_X6_182 cT_rv4 ⟨rfl, rfl⟩ ⟨Nat.le_of_ble_eq_true rfl, Nat.le_of_ble_eq_true rfl⟩ ⟨Nat.zero_le _, Nat.zero_le _⟩ (Nat.le_of_ble_eq_true rfl) dX6_bishop_43 (fun _ _ hf => kX3_noLessThan hf) (fun r5 σ6 => ?_)
        exact k_ireturn (pc := 46) rfl dX6_bishop_46
      · refine k_bipush (pc := 24) (v := (k_ng 3)) dX6_bishop_24 (by decide) ?_
        exact k_ireturn (pc := 26) rfl dX6_bishop_26
    · refine k_bipush (pc := 11) (v := (k_ng 2)) dX6_bishop_11 (by decide) ?_
      exact k_ireturn (pc := 13) rfl dX6_bishop_13
-- TallTales$Sheets.makeRow(III)V
theorem ckX2_makeRow : k_Vok yX2_makeRow cX2_makeRow 4 none 3 := ⟨kwk_X2_makeRow, kwi_X2_makeRow, kwv_X2_makeRow, kwn_X2, by decide, by decide +kernel⟩
abbrev rmX2_makeRow : Room := { frames := 2, cells := 0, slots := 0, locals := 90 }
abbrev YX2_makeRow : k_Y := (rmX2_makeRow, cX2_makeRow, 4, RX2, none)
noncomputable def fX2_makeRow (σ : k_S) (x1 x2 x3 : Int32) : Option (Unit × k_S) := k_gd (x1) 4 (k_bn (k_sa σ 2 (x1) (x2)) fun σ1 => k_gd (x1) 4 (k_bn (k_sa σ1 3 (x1) (x3)) fun σ2 => k_gf ((x1 * (nI 60))) (((x1 * (nI 60)) + x3)) 240 (k_bn (k_sA σ2 1 (k_fl (σ2.2 1) (Int32.toNatClampNeg ((x1 * (nI 60)))) (Int32.toNatClampNeg (((x1 * (nI 60)) + x3))) ((nI 0)))) fun σ3 => some ((), σ3))))
set_option maxRecDepth 100000 in
set_option maxHeartbeats 4000000 in
theorem kX2_makeRow {D : va_G} {cI : ClassId} {q : Nat → Nat} {σ : k_S} {x1 x2 x3 : Int32} {r : Unit} {τ : k_S} (h : fX2_makeRow σ x1 x2 x3 = some (r, τ)) : k_Ct k_ev yX2_makeRow cX2_makeRow 4 none rmX2_makeRow (cT cI q) D cI [.ref (q 1), .int x1, .int x2, .int x3] σ r τ := by
  refine k_met (Y := YX2_makeRow) (cT_same _ _) (by decide) rfl (Nat.le_of_ble_eq_true rfl) (List.forall_mem_cons.mpr ⟨rfl, List.forall_mem_cons.mpr ⟨rfl, List.forall_mem_cons.mpr ⟨rfl, List.forall_mem_cons.mpr ⟨rfl, fun _ h => absurd h List.not_mem_nil⟩⟩⟩⟩) (fun X hD hI => ?_) h
  subst hD hI
  show KO X YX2_makeRow (cT (k_I X) q) 0 0 (k_Q k_ev X (cT (k_I X) q)) 0 [some (.ref (q 1)), some (.int x1), some (.int x2), some (.int x3)] [] σ _
  unfold fX2_makeRow
  refine k_aload_n (pc := 0) dX2_makeRow_0 rfl ?_
  refine k_gTX2_sorts (pc := 1) kwf_X2_15 rfl dX2_makeRow_1 ?_
  refine k_iload_n (pc := 4) dX2_makeRow_4 rfl ?_
  refine k_iload_n (pc := 5) dX2_makeRow_5 rfl ?_
  refine k_sT9 (pc := 6) dX2_makeRow_6 (fun σ1 => ?_)
  refine k_aload_n (pc := 7) dX2_makeRow_7 rfl ?_
  refine k_gTX2_lengths (pc := 8) kwf_X2_18 rfl dX2_makeRow_8 ?_
  refine k_iload_n (pc := 11) dX2_makeRow_11 rfl ?_
  refine k_iload_n (pc := 12) dX2_makeRow_12 rfl ?_
  refine k_sT10 (pc := 13) dX2_makeRow_13 (fun σ2 => ?_)
  refine k_aload_n (pc := 14) dX2_makeRow_14 rfl ?_
  refine k_gTX2_cells (pc := 15) kwf_X2_9 rfl dX2_makeRow_15 ?_
  refine k_iload_n (pc := 18) dX2_makeRow_18 rfl ?_
  refine k_bipush (pc := 19) (v := (nI 60)) dX2_makeRow_19 (by decide) ?_
  refine k_imul (pc := 21) dX2_makeRow_21 ?_
  refine k_iload_n (pc := 22) dX2_makeRow_22 rfl ?_
  refine k_bipush (pc := 23) (v := (nI 60)) dX2_makeRow_23 (by decide) ?_
  refine k_imul (pc := 25) dX2_makeRow_25 ?_
  refine k_iload_n (pc := 26) dX2_makeRow_26 rfl ?_
  refine k_iadd (pc := 27) dX2_makeRow_27 ?_
  refine k_iconst (pc := 28) (v := (nI 0)) dX2_makeRow_28 (by decide) ?_
  refine k_fT4_8 (pc := 29) kwm_X2_35 ⟨Nat.le_of_ble_eq_true rfl, Nat.le_of_ble_eq_true rfl⟩ dX2_makeRow_29 (fun σ3 => ?_)
  exact k_return (pc := 32) rfl dX2_makeRow_32
-- TallTales.sheet(III)I
theorem ckX6_sheet : k_Vok yX6_sheet cX6_sheet 4 (some .int) 3 := ⟨kwk_X6_sheet, kwi_X6_sheet, kwv_X6_sheet, kwn_X6, by decide, by decide +kernel⟩
abbrev rmX6_sheet : Room := { frames := 3, cells := 0, slots := 0, locals := 113 }
abbrev YX6_sheet : k_Y := (rmX6_sheet, cX6_sheet, 4, RX6, (some .int))
noncomputable def fX6_sheet (σ : k_S) (x1 x2 x3 : Int32) : Option (Int32 × k_S) := k_bn (k_sf σ 1 ((nI 0))) fun σ1 => k_ob (fX6_isSheet σ1 x1) fun r2 σ3 => (if r2 = 0 then some ((k_ng 1), σ3) else k_ob (fX6_isSort σ3 x2) fun r4 σ5 => (if r4 = 0 then some ((k_ng 2), σ5) else (if (nI 60) < x3 then some ((k_ng 2), σ5) else (if x3 < 0 then k_ob (fX6_faulty σ5 ((nI 4))) fun r8 σ9 => some (r8, σ9) else k_ob (fX2_makeRow σ5 x1 x2 x3) fun r6 σ7 => some ((nI 1), σ7)))))
set_option maxRecDepth 100000 in
set_option maxHeartbeats 4000000 in
theorem kX6_sheet {D : va_G} {cI : ClassId} {q : Nat → Nat} {σ : k_S} {x1 x2 x3 : Int32} {r : Int32} {τ : k_S} (h : fX6_sheet σ x1 x2 x3 = some (r, τ)) : k_Ct k_ei yX6_sheet cX6_sheet 4 (some .int) rmX6_sheet (cT cI q) D cI [.ref (q 0), .int x1, .int x2, .int x3] σ r τ := by
  refine k_met (Y := YX6_sheet) (cT_same _ _) (by decide) rfl (Nat.le_of_ble_eq_true rfl) (List.forall_mem_cons.mpr ⟨rfl, List.forall_mem_cons.mpr ⟨rfl, List.forall_mem_cons.mpr ⟨rfl, List.forall_mem_cons.mpr ⟨rfl, fun _ h => absurd h List.not_mem_nil⟩⟩⟩⟩) (fun X hD hI => ?_) h
  subst hD hI
  show KO X YX6_sheet (cT (k_I X) q) 0 0 (k_Q k_ei X (cT (k_I X) q)) 0 [some (.ref (q 0)), some (.int x1), some (.int x2), some (.int x3)] [] σ _
  unfold fX6_sheet
  refine k_aload_n (pc := 0) dX6_sheet_0 rfl ?_
  refine k_iconst (pc := 1) (v := (nI 0)) dX6_sheet_1 (by decide) ?_
  refine k_pTX6_fault (pc := 2) kwf_X6_61 rfl dX6_sheet_2 (fun σ1 => ?_)
  refine k_iload_n (pc := 5) dX6_sheet_5 rfl ?_
  refine k_si1 (pc := 6) (cT_same _ _) ckX6_isSheet kwm_X6_65 ⟨rfl, rfl⟩ ⟨Nat.le_of_ble_eq_true rfl, Nat.le_of_ble_eq_true rfl⟩ ⟨Nat.zero_le _, Nat.zero_le _⟩ (Nat.le_of_ble_eq_true rfl) dX6_sheet_6 (fun _ _ hf => kX6_isSheet hf) (fun r2 σ3 => ?_)
  refine k_if_ne (pc := 9) 14 dX6_sheet_9 (by decide) ?_ ?_
  · refine k_iload_n (pc := 14) dX6_sheet_14 rfl ?_
    refine k_si1 (pc := 15) (cT_same _ _) ckX6_isSort kwm_X6_69 ⟨rfl, rfl⟩ ⟨Nat.le_of_ble_eq_true rfl, Nat.le_of_ble_eq_true rfl⟩ ⟨Nat.zero_le _, Nat.zero_le _⟩ (Nat.le_of_ble_eq_true rfl) dX6_sheet_15 (fun _ _ hf => kX6_isSort hf) (fun r4 σ5 => ?_)
    refine k_if_eq (pc := 18) 27 dX6_sheet_18 (by decide) ?_ ?_
    · refine k_bipush (pc := 27) (v := (k_ng 2)) dX6_sheet_27 (by decide) ?_
      exact k_ireturn (pc := 29) rfl dX6_sheet_29
    · refine k_iload_n (pc := 21) dX6_sheet_21 rfl ?_
      refine k_bipush (pc := 22) (v := (nI 60)) dX6_sheet_22 (by decide) ?_
      refine k_icmp_le (pc := 24) 30 dX6_sheet_24 (by decide) ?_ ?_
      · refine k_iload_n (pc := 30) dX6_sheet_30 rfl ?_
        refine k_if_ge (pc := 31) 40 dX6_sheet_31 (by decide) ?_ ?_
        · refine k_aload_n (pc := 40) dX6_sheet_40 rfl ?_
          refine k_gTX6_sheets (pc := 41) kwf_X6_12 rfl dX6_sheet_41 ?_
          refine k_iload_n (pc := 44) dX6_sheet_44 rfl ?_
          refine k_iload_n (pc := 45) dX6_sheet_45 rfl ?_
          refine k_iload_n (pc := 46) dX6_sheet_46 rfl ?_
          refine k_vv3 (pc := 47) (cT_same _ _) ckX2_makeRow kwm_X6_218 cT_rv1 ⟨rfl, rfl⟩ ⟨Nat.le_of_ble_eq_true rfl, Nat.le_of_ble_eq_true rfl⟩ ⟨Nat.zero_le _, Nat.zero_le _⟩ (Nat.le_of_ble_eq_true rfl) dX6_sheet_47 (fun _ _ hf => kX2_makeRow hf) (fun r6 σ7 => ?_)
          refine k_iconst (pc := 50) (v := (nI 1)) dX6_sheet_50 (by decide) ?_
          exact k_ireturn (pc := 51) rfl dX6_sheet_51
        · refine k_aload_n (pc := 34) dX6_sheet_34 rfl ?_
          refine k_iconst (pc := 35) (v := (nI 4)) dX6_sheet_35 (by decide) ?_
          refine k_vi1 (pc := 36) (cT_same _ _) ckX6_faulty kwm_X6_76 cT_rv0 ⟨rfl, rfl⟩ ⟨Nat.le_of_ble_eq_true rfl, Nat.le_of_ble_eq_true rfl⟩ ⟨Nat.zero_le _, Nat.zero_le _⟩ (Nat.le_of_ble_eq_true rfl) dX6_sheet_36 (fun _ _ hf => kX6_faulty hf) (fun r8 σ9 => ?_)
          exact k_ireturn (pc := 39) rfl dX6_sheet_39
      · refine k_bipush (pc := 27) (v := (k_ng 2)) dX6_sheet_27 (by decide) ?_
        exact k_ireturn (pc := 29) rfl dX6_sheet_29
  · refine k_iconst (pc := 12) (v := (k_ng 1)) dX6_sheet_12 (by decide) ?_
    exact k_ireturn (pc := 13) rfl dX6_sheet_13
-- TallTales$Sheets.write(III)V
theorem ckX2_write : k_Vok yX2_write cX2_write 5 none 3 := ⟨kwk_X2_write, kwi_X2_write, kwv_X2_write, kwn_X2, by decide, by decide +kernel⟩
abbrev rmX2_write : Room := { frames := 0, cells := 0, slots := 0, locals := 0 }
abbrev YX2_write : k_Y := (rmX2_write, cX2_write, 5, RX2, none)
noncomputable def fX2_write_c30 (σ : k_S) (l1 l2 l4 : Int32) : Option (Unit × k_S) := k_gd (((l1 * (nI 60)) + l2)) 240 (k_bn (k_sa σ 1 (((l1 * (nI 60)) + l2)) (l4)) fun σ1 => some ((), σ1))
set_option maxRecDepth 100000 in
set_option maxHeartbeats 4000000 in
theorem kX2_write_c30 {X : k_C} {q : Nat → Nat} (σ : k_S) (l1 l2 l4 : Int32) : KO X YX2_write (cT (k_I X) q) 0 0 (k_Q k_ev X (cT (k_I X) q)) 30 [some (.ref (q 1)), some (.int l1), some (.int l2), none, some (.int l4)] [] σ (fX2_write_c30 σ l1 l2 l4) := by
  unfold fX2_write_c30
  refine k_aload_n (pc := 30) dX2_write_30 rfl ?_
  refine k_gTX2_cells (pc := 31) kwf_X2_9 rfl dX2_write_31 ?_
  refine k_iload_n (pc := 34) dX2_write_34 rfl ?_
  refine k_bipush (pc := 35) (v := (nI 60)) dX2_write_35 (by decide) ?_
  refine k_imul (pc := 37) dX2_write_37 ?_
  refine k_iload_n (pc := 38) dX2_write_38 rfl ?_
  refine k_iadd (pc := 39) dX2_write_39 ?_
  refine k_iload (pc := 40) dX2_write_40 rfl ?_
  refine k_sT8 (pc := 42) dX2_write_42 (fun σ1 => ?_)
  exact k_return (pc := 43) rfl dX2_write_43
noncomputable def fX2_write_c16 (σ : k_S) (l1 l2 l3 l4 : Int32) : Option (Unit × k_S) := k_gd (l1) 4 ((if σ.2 2 (Int32.toNatClampNeg (l1)) = (nI 1) then k_bn ((l3).toInt16.toInt32) fun v1 => fX2_write_c30 σ l1 l2 v1 else fX2_write_c30 σ l1 l2 l4))
set_option maxRecDepth 100000 in
set_option maxHeartbeats 4000000 in
theorem kX2_write_c16 {X : k_C} {q : Nat → Nat} (σ : k_S) (l1 l2 l3 l4 : Int32) : KO X YX2_write (cT (k_I X) q) 0 0 (k_Q k_ev X (cT (k_I X) q)) 16 [some (.ref (q 1)), some (.int l1), some (.int l2), some (.int l3), some (.int l4)] [] σ (fX2_write_c16 σ l1 l2 l3 l4) := by
  unfold fX2_write_c16
  refine k_aload_n (pc := 16) dX2_write_16 rfl ?_
  refine k_gTX2_sorts (pc := 17) kwf_X2_15 rfl dX2_write_17 ?_
  refine k_iload_n (pc := 20) dX2_write_20 rfl ?_
  refine k_lT9 (pc := 21) dX2_write_21 ?_
  refine k_iconst (pc := 22) (v := (nI 1)) dX2_write_22 (by decide) ?_
  refine k_icmp_ne (pc := 23) 30 dX2_write_23 (by decide) ?_ ?_
  · refine k_fg3 ?_
    exact kX2_write_c30 σ l1 l2 l4
  · refine k_iload_n (pc := 26) dX2_write_26 rfl ?_
    refine k_i2s (pc := 27) dX2_write_27 ?_
    refine k_ist4 (pc := 28) dX2_write_28 (Nat.le_of_ble_eq_true rfl) (fun v1 => ?_)
    refine k_fg3 ?_
    exact kX2_write_c30 σ l1 l2 v1
noncomputable def fX2_write (σ : k_S) (x1 x2 x3 : Int32) : Option (Unit × k_S) := k_bn (x3) fun v1 => k_gd (x1) 4 ((if σ.2 2 (Int32.toNatClampNeg (x1)) = 0 then k_bn ((x3).toInt8.toInt32) fun v2 => fX2_write_c16 σ x1 x2 x3 v2 else fX2_write_c16 σ x1 x2 x3 v1))
set_option maxRecDepth 100000 in
set_option maxHeartbeats 4000000 in
theorem kX2_write {D : va_G} {cI : ClassId} {q : Nat → Nat} {σ : k_S} {x1 x2 x3 : Int32} {r : Unit} {τ : k_S} (h : fX2_write σ x1 x2 x3 = some (r, τ)) : k_Ct k_ev yX2_write cX2_write 5 none rmX2_write (cT cI q) D cI [.ref (q 1), .int x1, .int x2, .int x3] σ r τ := by
  refine k_met (Y := YX2_write) (cT_same _ _) (by decide) rfl (Nat.le_of_ble_eq_true rfl) (List.forall_mem_cons.mpr ⟨rfl, List.forall_mem_cons.mpr ⟨rfl, List.forall_mem_cons.mpr ⟨rfl, List.forall_mem_cons.mpr ⟨rfl, fun _ h => absurd h List.not_mem_nil⟩⟩⟩⟩) (fun X hD hI => ?_) h
  subst hD hI
  show KO X YX2_write (cT (k_I X) q) 0 0 (k_Q k_ev X (cT (k_I X) q)) 0 [some (.ref (q 1)), some (.int x1), some (.int x2), some (.int x3), none] [] σ _
  unfold fX2_write
  refine k_iload_n (pc := 0) dX2_write_0 rfl ?_
  refine k_ist4 (pc := 1) dX2_write_1 (Nat.le_of_ble_eq_true rfl) (fun v1 => ?_)
  refine k_aload_n (pc := 3) dX2_write_3 rfl ?_
  refine k_gTX2_sorts (pc := 4) kwf_X2_15 rfl dX2_write_4 ?_
  refine k_iload_n (pc := 7) dX2_write_7 rfl ?_
  refine k_lT9 (pc := 8) dX2_write_8 ?_
  refine k_if_ne (pc := 9) 16 dX2_write_9 (by decide) ?_ ?_
  · exact kX2_write_c16 σ x1 x2 x3 v1
  · refine k_iload_n (pc := 12) dX2_write_12 rfl ?_
    refine k_i2b (pc := 13) dX2_write_13 ?_
    refine k_ist4 (pc := 14) dX2_write_14 (Nat.le_of_ble_eq_true rfl) (fun v2 => ?_)
    exact kX2_write_c16 σ x1 x2 x3 v2
-- TallTales.put(III)I
theorem ckX6_put : k_Vok yX6_put cX6_put 4 (some .int) 3 := ⟨kwk_X6_put, kwi_X6_put, kwv_X6_put, kwn_X6, by decide, by decide +kernel⟩
abbrev rmX6_put : Room := { frames := 1, cells := 0, slots := 0, locals := 24 }
abbrev YX6_put : k_Y := (rmX6_put, cX6_put, 4, RX6, (some .int))
noncomputable def fX6_put (σ : k_S) (x1 x2 x3 : Int32) : Option (Int32 × k_S) := k_bn (k_sf σ 1 ((nI 0))) fun σ1 => k_ob (fX6_isSheet σ1 x1) fun r2 σ3 => (if r2 = 0 then some ((k_ng 1), σ3) else k_ob (fX2_hasRow σ3 x1) fun r4 σ5 => (if r4 = 0 then k_ob (fX6_faulty σ5 ((nI 1))) fun r12 σ13 => some (r12, σ13) else k_ob (fX2_hasCells σ5 x1 x2 ((nI 1))) fun r6 σ7 => (if r6 = 0 then k_ob (fX6_faulty σ7 ((nI 3))) fun r10 σ11 => some (r10, σ11) else k_ob (fX2_write σ7 x1 x2 x3) fun r8 σ9 => some ((nI 1), σ9))))
set_option maxRecDepth 100000 in
set_option maxHeartbeats 4000000 in
theorem kX6_put {D : va_G} {cI : ClassId} {q : Nat → Nat} {σ : k_S} {x1 x2 x3 : Int32} {r : Int32} {τ : k_S} (h : fX6_put σ x1 x2 x3 = some (r, τ)) : k_Ct k_ei yX6_put cX6_put 4 (some .int) rmX6_put (cT cI q) D cI [.ref (q 0), .int x1, .int x2, .int x3] σ r τ := by
  refine k_met (Y := YX6_put) (cT_same _ _) (by decide) rfl (Nat.le_of_ble_eq_true rfl) (List.forall_mem_cons.mpr ⟨rfl, List.forall_mem_cons.mpr ⟨rfl, List.forall_mem_cons.mpr ⟨rfl, List.forall_mem_cons.mpr ⟨rfl, fun _ h => absurd h List.not_mem_nil⟩⟩⟩⟩) (fun X hD hI => ?_) h
  subst hD hI
  show KO X YX6_put (cT (k_I X) q) 0 0 (k_Q k_ei X (cT (k_I X) q)) 0 [some (.ref (q 0)), some (.int x1), some (.int x2), some (.int x3)] [] σ _
  unfold fX6_put
  refine k_aload_n (pc := 0) dX6_put_0 rfl ?_
  refine k_iconst (pc := 1) (v := (nI 0)) dX6_put_1 (by decide) ?_
  refine k_pTX6_fault (pc := 2) kwf_X6_61 rfl dX6_put_2 (fun σ1 => ?_)
  refine k_iload_n (pc := 5) dX6_put_5 rfl ?_
  refine k_si1 (pc := 6) (cT_same _ _) ckX6_isSheet kwm_X6_65 ⟨rfl, rfl⟩ ⟨Nat.le_of_ble_eq_true rfl, Nat.le_of_ble_eq_true rfl⟩ ⟨Nat.zero_le _, Nat.zero_le _⟩ (Nat.le_of_ble_eq_true rfl) dX6_put_6 (fun _ _ hf => kX6_isSheet hf) (fun r2 σ3 => ?_)
  refine k_if_ne (pc := 9) 14 dX6_put_9 (by decide) ?_ ?_
  · refine k_aload_n (pc := 14) dX6_put_14 rfl ?_
    refine k_gTX6_sheets (pc := 15) kwf_X6_12 rfl dX6_put_15 ?_
    refine k_iload_n (pc := 18) dX6_put_18 rfl ?_
    refine k_vi1 (pc := 19) (cT_same _ _) ckX2_hasRow kwm_X6_225 cT_rv1 ⟨rfl, rfl⟩ ⟨Nat.le_of_ble_eq_true rfl, Nat.le_of_ble_eq_true rfl⟩ ⟨Nat.zero_le _, Nat.zero_le _⟩ (Nat.le_of_ble_eq_true rfl) dX6_put_19 (fun _ _ hf => kX2_hasRow hf) (fun r4 σ5 => ?_)
    refine k_if_ne (pc := 22) 31 dX6_put_22 (by decide) ?_ ?_
    · refine k_aload_n (pc := 31) dX6_put_31 rfl ?_
      refine k_gTX6_sheets (pc := 32) kwf_X6_12 rfl dX6_put_32 ?_
      refine k_iload_n (pc := 35) dX6_put_35 rfl ?_
      refine k_iload_n (pc := 36) dX6_put_36 rfl ?_
      refine k_iconst (pc := 37) (v := (nI 1)) dX6_put_37 (by decide) ?_
      refine k_vi3 (pc := 38) (cT_same _ _) ckX2_hasCells kwm_X6_228 cT_rv1 ⟨rfl, rfl⟩ ⟨Nat.le_of_ble_eq_true rfl, Nat.le_of_ble_eq_true rfl⟩ ⟨Nat.zero_le _, Nat.zero_le _⟩ (Nat.le_of_ble_eq_true rfl) dX6_put_38 (fun _ _ hf => kX2_hasCells hf) (fun r6 σ7 => ?_)
      refine k_if_ne (pc := 41) 50 dX6_put_41 (by decide) ?_ ?_
      · refine k_aload_n (pc := 50) dX6_put_50 rfl ?_
        refine k_gTX6_sheets (pc := 51) kwf_X6_12 rfl dX6_put_51 ?_
        refine k_iload_n (pc := 54) dX6_put_54 rfl ?_
        refine k_iload_n (pc := 55) dX6_put_55 rfl ?_
        refine k_iload_n (pc := 56) dX6_put_56 rfl ?_
        refine k_vv3 (pc := 57) (cT_same _ _) ckX2_write kwm_X6_232 cT_rv1 ⟨rfl, rfl⟩ ⟨Nat.le_of_ble_eq_true rfl, Nat.le_of_ble_eq_true rfl⟩ ⟨Nat.zero_le _, Nat.zero_le _⟩ (Nat.le_of_ble_eq_true rfl) dX6_put_57 (fun _ _ hf => kX2_write hf) (fun r8 σ9 => ?_)
        refine k_iconst (pc := 60) (v := (nI 1)) dX6_put_60 (by decide) ?_
        exact k_ireturn (pc := 61) rfl dX6_put_61
      · refine k_aload_n (pc := 44) dX6_put_44 rfl ?_
        refine k_iconst (pc := 45) (v := (nI 3)) dX6_put_45 (by decide) ?_
        refine k_vi1 (pc := 46) (cT_same _ _) ckX6_faulty kwm_X6_76 cT_rv0 ⟨rfl, rfl⟩ ⟨Nat.le_of_ble_eq_true rfl, Nat.le_of_ble_eq_true rfl⟩ ⟨Nat.zero_le _, Nat.zero_le _⟩ (Nat.le_of_ble_eq_true rfl) dX6_put_46 (fun _ _ hf => kX6_faulty hf) (fun r10 σ11 => ?_)
        exact k_ireturn (pc := 49) rfl dX6_put_49
    · refine k_aload_n (pc := 25) dX6_put_25 rfl ?_
      refine k_iconst (pc := 26) (v := (nI 1)) dX6_put_26 (by decide) ?_
      refine k_vi1 (pc := 27) (cT_same _ _) ckX6_faulty kwm_X6_76 cT_rv0 ⟨rfl, rfl⟩ ⟨Nat.le_of_ble_eq_true rfl, Nat.le_of_ble_eq_true rfl⟩ ⟨Nat.zero_le _, Nat.zero_le _⟩ (Nat.le_of_ble_eq_true rfl) dX6_put_27 (fun _ _ hf => kX6_faulty hf) (fun r12 σ13 => ?_)
      exact k_ireturn (pc := 30) rfl dX6_put_30
  · refine k_iconst (pc := 12) (v := (k_ng 1)) dX6_put_12 (by decide) ?_
    exact k_ireturn (pc := 13) rfl dX6_put_13
-- TallTales.many(I)I
theorem ckX6_many : k_Vok yX6_many cX6_many 2 (some .int) 1 := ⟨kwk_X6_many, kwi_X6_many, kwv_X6_many, kwn_X6, by decide, by decide +kernel⟩
abbrev rmX6_many : Room := { frames := 0, cells := 0, slots := 0, locals := 0 }
abbrev YX6_many : k_Y := (rmX6_many, cX6_many, 2, RX6, (some .int))
noncomputable def fX6_many (σ : k_S) (x1 : Int32) : Option (Int32 × k_S) := (if x1 = (nI 0) then some (σ.1 3, σ) else (if x1 = (nI 1) then some (σ.1 4, σ) else (if x1 = (nI 2) then some (σ.1 6, σ) else (if x1 = (nI 3) then some (σ.1 5, σ) else some ((k_ng 2), σ)))))
set_option maxRecDepth 100000 in
set_option maxHeartbeats 4000000 in
theorem kX6_many {D : va_G} {cI : ClassId} {q : Nat → Nat} {σ : k_S} {x1 : Int32} {r : Int32} {τ : k_S} (h : fX6_many σ x1 = some (r, τ)) : k_Ct k_ei yX6_many cX6_many 2 (some .int) rmX6_many (cT cI q) D cI [.ref (q 0), .int x1] σ r τ := by
  refine k_met (Y := YX6_many) (cT_same _ _) (by decide) rfl (Nat.le_of_ble_eq_true rfl) (List.forall_mem_cons.mpr ⟨rfl, List.forall_mem_cons.mpr ⟨rfl, fun _ h => absurd h List.not_mem_nil⟩⟩) (fun X hD hI => ?_) h
  subst hD hI
  show KO X YX6_many (cT (k_I X) q) 0 0 (k_Q k_ei X (cT (k_I X) q)) 0 [some (.ref (q 0)), some (.int x1)] [] σ _
  unfold fX6_many
  refine k_iload_n (pc := 0) dX6_many_0 rfl ?_
  refine KO.ite (c := x1 = (nI 0)) (fun hs1_0 => ?_) (fun hs1_0 => ?_)
  · refine k_tableIn (off := 31) (pc := 1) 32 dX6_many_1 hs1_0 (by decide) (by decide) (by decide) (by decide) ?_
    refine k_aload_n (pc := 32) dX6_many_32 rfl ?_
    refine k_gTX6_house (pc := 33) kwf_X6_28 rfl dX6_many_33 ?_
    refine k_gTX0_guests (pc := 36) kwf_X6_208 rfl dX6_many_36 ?_
    exact k_ireturn (pc := 39) rfl dX6_many_39
  · refine KO.ite (c := x1 = (nI 1)) (fun hs1_1 => ?_) (fun hs1_1 => ?_)
    · refine k_tableIn (off := 39) (pc := 1) 40 dX6_many_1 hs1_1 (by decide) (by decide) (by decide) (by decide) ?_
      refine k_aload_n (pc := 40) dX6_many_40 rfl ?_
      refine k_gTX6_house (pc := 41) kwf_X6_28 rfl dX6_many_41 ?_
      refine k_gTX0_tales (pc := 44) kwf_X6_98 rfl dX6_many_44 ?_
      exact k_ireturn (pc := 47) rfl dX6_many_47
    · refine KO.ite (c := x1 = (nI 2)) (fun hs1_2 => ?_) (fun hs1_2 => ?_)
      · refine k_tableIn (off := 47) (pc := 1) 48 dX6_many_1 hs1_2 (by decide) (by decide) (by decide) (by decide) ?_
        refine k_aload_n (pc := 48) dX6_many_48 rfl ?_
        refine k_gTX6_house (pc := 49) kwf_X6_28 rfl dX6_many_49 ?_
        refine k_gTX0_nights (pc := 52) kwf_X6_138 rfl dX6_many_52 ?_
        exact k_ireturn (pc := 55) rfl dX6_many_55
      · refine KO.ite (c := x1 = (nI 3)) (fun hs1_3 => ?_) (fun hs1_3 => ?_)
        · refine k_tableIn (off := 55) (pc := 1) 56 dX6_many_1 hs1_3 (by decide) (by decide) (by decide) (by decide) ?_
          refine k_aload_n (pc := 56) dX6_many_56 rfl ?_
          refine k_gTX6_house (pc := 57) kwf_X6_28 rfl dX6_many_57 ?_
          refine k_gTX0_memory (pc := 60) kwf_X6_129 rfl dX6_many_60 ?_
          exact k_ireturn (pc := 63) rfl dX6_many_63
        · refine k_tableOut (pc := 1) 64 dX6_many_1 (by have g0 := lv_neT (a := 0) hs1_0 (by decide); have g1 := lv_neT (a := 1) hs1_1 (by decide); have g2 := lv_neT (a := 2) hs1_2 (by decide); have g3 := lv_neT (a := 3) hs1_3 (by decide); omega) (by decide) ?_
          refine k_bipush (pc := 64) (v := (k_ng 2)) dX6_many_64 (by decide) ?_
          exact k_ireturn (pc := 66) rfl dX6_many_66
