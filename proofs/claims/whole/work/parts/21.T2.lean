/-! ===== T: methods as pure functions, and that the bytecode answers so (by program: wip/gen/dec.py) ===== -/
-- TallTales.lay(II)I
theorem ckX6_lay : k_Vok yX6_lay cX6_lay 3 (some .int) 2 := ⟨kwk_X6_lay, kwi_X6_lay, kwv_X6_lay, kwn_X6, by decide, by decide +kernel⟩
abbrev rmX6_lay : Room := { frames := 1, cells := 0, slots := 0, locals := 24 }
abbrev YX6_lay : k_Y := (rmX6_lay, cX6_lay, 3, RX6, (some .int))
noncomputable def fX6_lay (σ : k_S) (x1 x2 : Int32) : Option (Int32 × k_S) := k_ob (fX0_hasGuest σ x1) fun r1 σ2 => (if r1 = 0 then some ((k_ng 1), σ2) else k_ob (fX0_hasGuest σ2 x2) fun r3 σ4 => (if r3 = 0 then some ((k_ng 1), σ4) else k_ob (fX0_nightsAt σ4 x1 x2) fun r5 σ6 => some (r5, σ6)))
set_option maxRecDepth 100000 in
set_option maxHeartbeats 4000000 in
theorem kX6_lay {D : va_G} {cI : ClassId} {q : Nat → Nat} {σ : k_S} {x1 x2 : Int32} {r : Int32} {τ : k_S} (h : fX6_lay σ x1 x2 = some (r, τ)) : k_Ct k_ei yX6_lay cX6_lay 3 (some .int) rmX6_lay (cT cI q) D cI [.ref (q 0), .int x1, .int x2] σ r τ := by
  refine k_met (Y := YX6_lay) (cT_same _ _) (by decide) rfl (Nat.le_of_ble_eq_true rfl) (List.forall_mem_cons.mpr ⟨rfl, List.forall_mem_cons.mpr ⟨rfl, List.forall_mem_cons.mpr ⟨rfl, fun _ h => absurd h List.not_mem_nil⟩⟩⟩) (fun X hD hI => ?_) h
  subst hD hI
  show KO X YX6_lay (cT (k_I X) q) 0 0 (k_Q k_ei X (cT (k_I X) q)) 0 [some (.ref (q 0)), some (.int x1), some (.int x2)] [] σ _
  unfold fX6_lay
  refine k_aload_n (pc := 0) dX6_lay_0 rfl ?_
  refine k_gTX6_house (pc := 1) kwf_X6_28 rfl dX6_lay_1 ?_
  refine k_iload_n (pc := 4) dX6_lay_4 rfl ?_
  refine k_vi1 (pc := 5) (cT_same _ _) ckX0_hasGuest kwm_X6_132 cT_rv3 ⟨rfl, rfl⟩ ⟨Nat.le_of_ble_eq_true rfl, Nat.le_of_ble_eq_true rfl⟩ ⟨Nat.zero_le _, Nat.zero_le _⟩ (Nat.le_of_ble_eq_true rfl) dX6_lay_5 (fun _ _ hf => kX0_hasGuest hf) (fun r1 σ2 => ?_)
  refine k_if_eq (pc := 8) 22 dX6_lay_8 (by decide) ?_ ?_
  · refine k_iconst (pc := 22) (v := (k_ng 1)) dX6_lay_22 (by decide) ?_
    exact k_ireturn (pc := 23) rfl dX6_lay_23
  · refine k_aload_n (pc := 11) dX6_lay_11 rfl ?_
    refine k_gTX6_house (pc := 12) kwf_X6_28 rfl dX6_lay_12 ?_
    refine k_iload_n (pc := 15) dX6_lay_15 rfl ?_
    refine k_vi1 (pc := 16) (cT_same _ _) ckX0_hasGuest kwm_X6_132 cT_rv3 ⟨rfl, rfl⟩ ⟨Nat.le_of_ble_eq_true rfl, Nat.le_of_ble_eq_true rfl⟩ ⟨Nat.zero_le _, Nat.zero_le _⟩ (Nat.le_of_ble_eq_true rfl) dX6_lay_16 (fun _ _ hf => kX0_hasGuest hf) (fun r3 σ4 => ?_)
    refine k_if_ne (pc := 19) 24 dX6_lay_19 (by decide) ?_ ?_
    · refine k_aload_n (pc := 24) dX6_lay_24 rfl ?_
      refine k_gTX6_house (pc := 25) kwf_X6_28 rfl dX6_lay_25 ?_
      refine k_iload_n (pc := 28) dX6_lay_28 rfl ?_
      refine k_iload_n (pc := 29) dX6_lay_29 rfl ?_
      refine k_vi2 (pc := 30) (cT_same _ _) ckX0_nightsAt kwm_X6_165 cT_rv3 ⟨rfl, rfl⟩ ⟨Nat.le_of_ble_eq_true rfl, Nat.le_of_ble_eq_true rfl⟩ ⟨Nat.zero_le _, Nat.zero_le _⟩ (Nat.le_of_ble_eq_true rfl) dX6_lay_30 (fun _ _ hf => kX0_nightsAt hf) (fun r5 σ6 => ?_)
      exact k_ireturn (pc := 33) rfl dX6_lay_33
    · refine k_iconst (pc := 22) (v := (k_ng 1)) dX6_lay_22 (by decide) ?_
      exact k_ireturn (pc := 23) rfl dX6_lay_23
-- TallTales$Talls.needOf(I)I
theorem ckX3_needOf : k_Vok yX3_needOf cX3_needOf 4 (some .int) 1 := ⟨kwk_X3_needOf, kwi_X3_needOf, kwv_X3_needOf, kwn_X3, by decide, by decide +kernel⟩
abbrev rmX3_needOf : Room := { frames := 1, cells := 0, slots := 0, locals := 21 }
abbrev YX3_needOf : k_Y := (rmX3_needOf, cX3_needOf, 4, RX3, (some .int))
noncomputable def fX3_needOf_c47 (kh4 : k_S → Int32 → Int32 → Int32 → Option (Int32 × k_S)) (σ : k_S) (l1 l2 l3 : Int32) : Option (Int32 × k_S) := k_bn (l3 + (nI 1)) fun v1 => kh4 σ l1 l2 v1
set_option maxRecDepth 100000 in
set_option maxHeartbeats 4000000 in
theorem kX3_needOf_c47 {X : k_C} {q : Nat → Nat} (kh4 : k_S → Int32 → Int32 → Int32 → Option (Int32 × k_S)) (hk4 : ∀ (σ : k_S) (l1 l2 l3 : Int32), KO X YX3_needOf (cT (k_I X) q) 0 0 (k_Q k_ei X (cT (k_I X) q)) 4 [some (.ref (q 4)), some (.int l1), some (.int l2), some (.int l3)] [] σ (kh4 σ l1 l2 l3)) (σ : k_S) (l1 l2 l3 : Int32) : KO X YX3_needOf (cT (k_I X) q) 0 0 (k_Q k_ei X (cT (k_I X) q)) 47 [some (.ref (q 4)), some (.int l1), some (.int l2), some (.int l3)] [] σ (fX3_needOf_c47 kh4 σ l1 l2 l3) := by
  unfold fX3_needOf_c47
  refine k_iinc3 (pc := 47) (w := (nI 1)) dX3_needOf_47 rfl (by decide) (Nat.le_of_ble_eq_true rfl) (fun v1 => ?_)
  refine k_goto (pc := 50) 4 dX3_needOf_50 (by decide) ?_
  exact hk4 σ l1 l2 v1
noncomputable def fX3_needOf_c43 (kh4 : k_S → Int32 → Int32 → Int32 → Option (Int32 × k_S)) (σ : k_S) (l1 l3 s0 s1 : Int32) : Option (Int32 × k_S) := k_bn ((k_mx (s0) (s1))) fun v1 => fX3_needOf_c47 kh4 σ l1 v1 l3
set_option maxRecDepth 100000 in
set_option maxHeartbeats 4000000 in
theorem kX3_needOf_c43 {X : k_C} {q : Nat → Nat} (kh4 : k_S → Int32 → Int32 → Int32 → Option (Int32 × k_S)) (hk4 : ∀ (σ : k_S) (l1 l2 l3 : Int32), KO X YX3_needOf (cT (k_I X) q) 0 0 (k_Q k_ei X (cT (k_I X) q)) 4 [some (.ref (q 4)), some (.int l1), some (.int l2), some (.int l3)] [] σ (kh4 σ l1 l2 l3)) (σ : k_S) (l1 l3 s0 s1 : Int32) : KO X YX3_needOf (cT (k_I X) q) 0 0 (k_Q k_ei X (cT (k_I X) q)) 43 [some (.ref (q 4)), some (.int l1), none, some (.int l3)] [.int s1, .int s0] σ (fX3_needOf_c43 kh4 σ l1 l3 s0 s1) := by
  unfold fX3_needOf_c43
  refine k_max (pc := 43) kwm_X3_19 ⟨Nat.le_of_ble_eq_true rfl, Nat.le_of_ble_eq_true rfl⟩ ⟨Nat.zero_le _, Nat.zero_le _⟩ dX3_needOf_43 ?_
  refine k_ist2 (pc := 46) dX3_needOf_46 (Nat.le_of_ble_eq_true rfl) (fun v1 => ?_)
  exact kX3_needOf_c47 kh4 hk4 σ l1 v1 l3
noncomputable def fX3_needOf_c4 : Nat → k_S → Int32 → Int32 → Int32 → Option (Int32 × k_S)
  | 0, _, _, _, _ => none
  | n + 1, σ, l1, l2, l3 => (if l3 < σ.1 7 then (if l3 = l1 then fX3_needOf_c47 (fX3_needOf_c4 n) σ l1 l2 l3 else (if l3 < l1 then k_gd (l3) 5 (fX3_needOf_c43 (fX3_needOf_c4 n) σ l1 l3 l2 ((σ.2 14 (Int32.toNatClampNeg (l3)) + (nI 1)))) else k_gd (l3) 5 (fX3_needOf_c43 (fX3_needOf_c4 n) σ l1 l3 l2 (σ.2 14 (Int32.toNatClampNeg (l3)))))) else some (l2, σ))
theorem fX3_needOf_c4_s (n : Nat) (σ : k_S) (l1 l2 l3 : Int32) : fX3_needOf_c4 (n + 1) σ l1 l2 l3 = (if l3 < σ.1 7 then (if l3 = l1 then fX3_needOf_c47 (fX3_needOf_c4 n) σ l1 l2 l3 else (if l3 < l1 then k_gd (l3) 5 (fX3_needOf_c43 (fX3_needOf_c4 n) σ l1 l3 l2 ((σ.2 14 (Int32.toNatClampNeg (l3)) + (nI 1)))) else k_gd (l3) 5 (fX3_needOf_c43 (fX3_needOf_c4 n) σ l1 l3 l2 (σ.2 14 (Int32.toNatClampNeg (l3)))))) else some (l2, σ)) := rfl
set_option maxRecDepth 100000 in
set_option maxHeartbeats 4000000 in
theorem kX3_needOf_c4 {X : k_C} {q : Nat → Nat} : ∀ (n : Nat) (σ : k_S) (l1 l2 l3 : Int32), KO X YX3_needOf (cT (k_I X) q) 0 0 (k_Q k_ei X (cT (k_I X) q)) 4 [some (.ref (q 4)), some (.int l1), some (.int l2), some (.int l3)] [] σ (fX3_needOf_c4 n σ l1 l2 l3) := by
  intro n
  induction n with
  | zero => intros; exact KO.nil
  | succ n ih =>
    intro σ l1 l2 l3
    rw [fX3_needOf_c4_s]
    refine k_iload_n (pc := 4) dX3_needOf_4 rfl ?_
    refine k_aload_n (pc := 5) dX3_needOf_5 rfl ?_
    refine k_gTX3_guests (pc := 6) kwf_X3_15 rfl dX3_needOf_6 ?_
    refine k_icmp_ge (pc := 9) 53 dX3_needOf_9 (by decide) ?_ ?_
    · refine k_iload_n (pc := 53) dX3_needOf_53 rfl ?_
      exact k_ireturn (pc := 54) rfl dX3_needOf_54
    · refine k_iload_n (pc := 12) dX3_needOf_12 rfl ?_
      refine k_iload_n (pc := 13) dX3_needOf_13 rfl ?_
      refine k_icmp_ne (pc := 14) 20 dX3_needOf_14 (by decide) ?_ ?_
      · refine k_iload_n (pc := 20) dX3_needOf_20 rfl ?_
        refine k_iload_n (pc := 21) dX3_needOf_21 rfl ?_
        refine k_iload_n (pc := 22) dX3_needOf_22 rfl ?_
        refine k_icmp_ge (pc := 23) 37 dX3_needOf_23 (by decide) ?_ ?_
        · refine k_aload_n (pc := 37) dX3_needOf_37 rfl ?_
          refine k_gTX3_of (pc := 38) kwf_X3_9 rfl dX3_needOf_38 ?_
          refine k_iload_n (pc := 41) dX3_needOf_41 rfl ?_
          refine k_lT21 (pc := 42) dX3_needOf_42 ?_
          refine k_fg2 ?_
          exact kX3_needOf_c43 (fX3_needOf_c4 n) ih σ l1 l3 l2 (σ.2 14 (Int32.toNatClampNeg (l3)))
        · refine k_aload_n (pc := 26) dX3_needOf_26 rfl ?_
          refine k_gTX3_of (pc := 27) kwf_X3_9 rfl dX3_needOf_27 ?_
          refine k_iload_n (pc := 30) dX3_needOf_30 rfl ?_
          refine k_lT21 (pc := 31) dX3_needOf_31 ?_
          refine k_iconst (pc := 32) (v := (nI 1)) dX3_needOf_32 (by decide) ?_
          refine k_iadd (pc := 33) dX3_needOf_33 ?_
          refine k_goto (pc := 34) 43 dX3_needOf_34 (by decide) ?_
          refine k_fg2 ?_
          exact kX3_needOf_c43 (fX3_needOf_c4 n) ih σ l1 l3 l2 ((σ.2 14 (Int32.toNatClampNeg (l3)) + (nI 1)))
      · refine k_goto (pc := 17) 47 dX3_needOf_17 (by decide) ?_
        exact kX3_needOf_c47 (fX3_needOf_c4 n) ih σ l1 l2 l3
noncomputable def fX3_needOf (σ : k_S) (x1 : Int32) : Option (Int32 × k_S) := k_bn ((nI 1)) fun v1 => k_bn ((nI 0)) fun v2 => fX3_needOf_c4 k_F σ x1 v1 v2
set_option maxRecDepth 100000 in
set_option maxHeartbeats 4000000 in
theorem kX3_needOf {D : va_G} {cI : ClassId} {q : Nat → Nat} {σ : k_S} {x1 : Int32} {r : Int32} {τ : k_S} (h : fX3_needOf σ x1 = some (r, τ)) : k_Ct k_ei yX3_needOf cX3_needOf 4 (some .int) rmX3_needOf (cT cI q) D cI [.ref (q 4), .int x1] σ r τ := by
  refine k_met (Y := YX3_needOf) (cT_same _ _) (by decide) rfl (Nat.le_of_ble_eq_true rfl) (List.forall_mem_cons.mpr ⟨rfl, List.forall_mem_cons.mpr ⟨rfl, fun _ h => absurd h List.not_mem_nil⟩⟩) (fun X hD hI => ?_) h
  subst hD hI
  show KO X YX3_needOf (cT (k_I X) q) 0 0 (k_Q k_ei X (cT (k_I X) q)) 0 [some (.ref (q 4)), some (.int x1), none, none] [] σ _
  unfold fX3_needOf
  refine k_iconst (pc := 0) (v := (nI 1)) dX3_needOf_0 (by decide) ?_
  refine k_ist2 (pc := 1) dX3_needOf_1 (Nat.le_of_ble_eq_true rfl) (fun v1 => ?_)
  refine k_iconst (pc := 2) (v := (nI 0)) dX3_needOf_2 (by decide) ?_
  refine k_ist3 (pc := 3) dX3_needOf_3 (Nat.le_of_ble_eq_true rfl) (fun v2 => ?_)
  exact kX3_needOf_c4 k_F σ x1 v1 v2
-- TallTales.tonight(II)I
theorem ckX6_tonight : k_Vok yX6_tonight cX6_tonight 3 (some .int) 2 := ⟨kwk_X6_tonight, kwi_X6_tonight, kwv_X6_tonight, kwn_X6, by decide, by decide +kernel⟩
abbrev rmX6_tonight : Room := { frames := 3, cells := 0, slots := 0, locals := 65 }
abbrev YX6_tonight : k_Y := (rmX6_tonight, cX6_tonight, 3, RX6, (some .int))
noncomputable def fX6_tonight (σ : k_S) (x1 x2 : Int32) : Option (Int32 × k_S) := k_ob (fX0_hasGuest σ x1) fun r1 σ2 => (if r1 = 0 then some ((k_ng 1), σ2) else k_ob (fX0_tallsAsChosen σ2) fun r3 σ4 => (if x2 = (nI 0) then k_gd (x1) 5 (some (σ4.2 10 (Int32.toNatClampNeg (x1)), σ4)) else (if x2 = (nI 1) then k_gd (x1) 5 (k_ob (fX3_placeOf σ4 x1 (σ4.2 14 (Int32.toNatClampNeg (x1)))) fun r6 σ7 => some (r6, σ7)) else (if x2 = (nI 2) then k_ob (fX3_needOf σ4 x1) fun r8 σ9 => some (r8, σ9) else some ((k_ng 2), σ4)))))
set_option maxRecDepth 100000 in
set_option maxHeartbeats 4000000 in
theorem kX6_tonight {D : va_G} {cI : ClassId} {q : Nat → Nat} {σ : k_S} {x1 x2 : Int32} {r : Int32} {τ : k_S} (h : fX6_tonight σ x1 x2 = some (r, τ)) : k_Ct k_ei yX6_tonight cX6_tonight 3 (some .int) rmX6_tonight (cT cI q) D cI [.ref (q 0), .int x1, .int x2] σ r τ := by
  refine k_met (Y := YX6_tonight) (cT_same _ _) (by decide) rfl (Nat.le_of_ble_eq_true rfl) (List.forall_mem_cons.mpr ⟨rfl, List.forall_mem_cons.mpr ⟨rfl, List.forall_mem_cons.mpr ⟨rfl, fun _ h => absurd h List.not_mem_nil⟩⟩⟩) (fun X hD hI => ?_) h
  subst hD hI
  show KO X YX6_tonight (cT (k_I X) q) 0 0 (k_Q k_ei X (cT (k_I X) q)) 0 [some (.ref (q 0)), some (.int x1), some (.int x2)] [] σ _
  unfold fX6_tonight
  refine k_aload_n (pc := 0) dX6_tonight_0 rfl ?_
  refine k_gTX6_house (pc := 1) kwf_X6_28 rfl dX6_tonight_1 ?_
  refine k_iload_n (pc := 4) dX6_tonight_4 rfl ?_
  refine k_vi1 (pc := 5) (cT_same _ _) ckX0_hasGuest kwm_X6_132 cT_rv3 ⟨rfl, rfl⟩ ⟨Nat.le_of_ble_eq_true rfl, Nat.le_of_ble_eq_true rfl⟩ ⟨Nat.zero_le _, Nat.zero_le _⟩ (Nat.le_of_ble_eq_true rfl) dX6_tonight_5 (fun _ _ hf => kX0_hasGuest hf) (fun r1 σ2 => ?_)
  refine k_if_ne (pc := 8) 13 dX6_tonight_8 (by decide) ?_ ?_
  · refine k_aload_n (pc := 13) dX6_tonight_13 rfl ?_
    refine k_gTX6_house (pc := 14) kwf_X6_28 rfl dX6_tonight_14 ?_
    refine k_aload_n (pc := 17) dX6_tonight_17 rfl ?_
    refine k_gTX6_talls (pc := 18) kwf_X6_35 rfl dX6_tonight_18 ?_
    refine k_vv1 (pc := 21) (cT_same _ _) ckX0_tallsAsChosen kwm_X6_141 cT_rv3 ⟨rfl, rfl⟩ ⟨Nat.le_of_ble_eq_true rfl, Nat.le_of_ble_eq_true rfl⟩ ⟨Nat.zero_le _, Nat.zero_le _⟩ (Nat.le_of_ble_eq_true rfl) dX6_tonight_21 (fun _ _ hf => kX0_tallsAsChosen hf) (fun r3 σ4 => ?_)
    refine k_iload_n (pc := 24) dX6_tonight_24 rfl ?_
    refine KO.ite (c := x2 = (nI 0)) (fun hs5_0 => ?_) (fun hs5_0 => ?_)
    · refine k_tableIn (off := 27) (pc := 25) 52 dX6_tonight_25 hs5_0 (by decide) (by decide) (by decide) (by decide) ?_
      refine k_aload_n (pc := 52) dX6_tonight_52 rfl ?_
      refine k_gTX6_house (pc := 53) kwf_X6_28 rfl dX6_tonight_53 ?_
      refine k_gTX0_chosen (pc := 56) kwf_X6_135 rfl dX6_tonight_56 ?_
      refine k_iload_n (pc := 59) dX6_tonight_59 rfl ?_
      refine k_lT17 (pc := 60) dX6_tonight_60 ?_
      exact k_ireturn (pc := 61) rfl dX6_tonight_61
    · refine KO.ite (c := x2 = (nI 1)) (fun hs5_1 => ?_) (fun hs5_1 => ?_)
      · refine k_tableIn (off := 37) (pc := 25) 62 dX6_tonight_25 hs5_1 (by decide) (by decide) (by decide) (by decide) ?_
        refine k_aload_n (pc := 62) dX6_tonight_62 rfl ?_
        refine k_gTX6_talls (pc := 63) kwf_X6_35 rfl dX6_tonight_63 ?_
        refine k_iload_n (pc := 66) dX6_tonight_66 rfl ?_
        refine k_aload_n (pc := 67) dX6_tonight_67 rfl ?_
        refine k_gTX6_talls (pc := 68) kwf_X6_35 rfl dX6_tonight_68 ?_
        refine k_gTX3_of (pc := 71) kwf_X6_169 rfl dX6_tonight_71 ?_
        refine k_iload_n (pc := 74) dX6_tonight_74 rfl ?_
        refine k_lT21 (pc := 75) dX6_tonight_75 ?_
        refine k_vi2 (pc := 76) (cT_same _ _) ckX3_placeOf kwm_X6_172 cT_rv4 ⟨rfl, rfl⟩ ⟨Nat.le_of_ble_eq_true rfl, Nat.le_of_ble_eq_true rfl⟩ ⟨Nat.zero_le _, Nat.zero_le _⟩ (Nat.le_of_ble_eq_true rfl) dX6_tonight_76 (fun _ _ hf => kX3_placeOf hf) (fun r6 σ7 => ?_)
        exact k_ireturn (pc := 79) rfl dX6_tonight_79
      · refine KO.ite (c := x2 = (nI 2)) (fun hs5_2 => ?_) (fun hs5_2 => ?_)
        · refine k_tableIn (off := 55) (pc := 25) 80 dX6_tonight_25 hs5_2 (by decide) (by decide) (by decide) (by decide) ?_
          refine k_aload_n (pc := 80) dX6_tonight_80 rfl ?_
          refine k_gTX6_talls (pc := 81) kwf_X6_35 rfl dX6_tonight_81 ?_
          refine k_iload_n (pc := 84) dX6_tonight_84 rfl ?_
          refine k_vi1 (pc := 85) (cT_same _ _) ckX3_needOf kwm_X6_175 cT_rv4 ⟨rfl, rfl⟩ ⟨Nat.le_of_ble_eq_true rfl, Nat.le_of_ble_eq_true rfl⟩ ⟨Nat.zero_le _, Nat.zero_le _⟩ (Nat.le_of_ble_eq_true rfl) dX6_tonight_85 (fun _ _ hf => kX3_needOf hf) (fun r8 σ9 => ?_)
          exact k_ireturn (pc := 88) rfl dX6_tonight_88
        · refine k_tableOut (pc := 25) 89 dX6_tonight_25 (by have g0 := lv_neT (a := 0) hs5_0 (by decide); have g1 := lv_neT (a := 1) hs5_1 (by decide); have g2 := lv_neT (a := 2) hs5_2 (by decide); omega) (by decide) ?_
          refine k_bipush (pc := 89) (v := (k_ng 2)) dX6_tonight_89 (by decide) ?_
          exact k_ireturn (pc := 91) rfl dX6_tonight_91
  · refine k_iconst (pc := 11) (v := (k_ng 1)) dX6_tonight_11 (by decide) ?_
    exact k_ireturn (pc := 12) rfl dX6_tonight_12
-- TallTales$House.isOffered(IIZ)Z
theorem ckX0_isOffered : k_Vok yX0_isOffered cX0_isOffered 5 (some .boolean) 3 := ⟨kwk_X0_isOffered, kwi_X0_isOffered, kwv_X0_isOffered, kwn_X0, by decide, by decide +kernel⟩
abbrev rmX0_isOffered : Room := { frames := 2, cells := 0, slots := 0, locals := 45 }
abbrev YX0_isOffered : k_Y := (rmX0_isOffered, cX0_isOffered, 5, RX0, (some .boolean))
noncomputable def fX0_isOffered_c43 (σ : k_S) : Option (Int32 × k_S) := k_z ((nI 0)) (some ((nI 0), σ))
set_option maxRecDepth 100000 in
set_option maxHeartbeats 4000000 in
theorem kX0_isOffered_c43 {X : k_C} {q : Nat → Nat} (σ : k_S) : KO X YX0_isOffered (cT (k_I X) q) 0 0 (k_Q k_ei X (cT (k_I X) q)) 43 [some (.ref (q 3)), none, none, none, none] [] σ (fX0_isOffered_c43 σ) := by
  unfold fX0_isOffered_c43
  refine k_iconst (pc := 43) (v := (nI 0)) dX0_isOffered_43 (by decide) ?_
  refine k_goto (pc := 44) 58 dX0_isOffered_44 (by decide) ?_
  exact k_zreturn (pc := 58) rfl dX0_isOffered_58
noncomputable def fX0_isOffered (σ : k_S) (x1 x2 x3 : Int32) : Option (Int32 × k_S) := k_ob (fX0_isTellable σ x2) fun r1 σ2 => (if r1 = 0 then k_z ((nI 0)) (some ((nI 0), σ2)) else k_gd (x2) 10 (k_bn (σ2.2 6 (Int32.toNatClampNeg (x2))) fun v3 => (if x3 = 0 then (if v3 = x1 then k_z ((nI 1)) (some ((nI 1), σ2)) else k_z ((nI 0)) (some ((nI 0), σ2))) else (if v3 = x1 then fX0_isOffered_c43 σ2 else k_gd (v3) 5 ((if σ2.2 10 (Int32.toNatClampNeg (v3)) = x2 then fX0_isOffered_c43 σ2 else k_z ((nI 1)) (some ((nI 1), σ2))))))))
set_option maxRecDepth 100000 in
set_option maxHeartbeats 4000000 in
theorem kX0_isOffered {D : va_G} {cI : ClassId} {q : Nat → Nat} {σ : k_S} {x1 x2 x3 : Int32} {r : Int32} {τ : k_S} (h : fX0_isOffered σ x1 x2 x3 = some (r, τ)) : k_Ct k_ei yX0_isOffered cX0_isOffered 5 (some .boolean) rmX0_isOffered (cT cI q) D cI [.ref (q 3), .int x1, .int x2, .int x3] σ r τ := by
  refine k_met (Y := YX0_isOffered) (cT_same _ _) (by decide) rfl (Nat.le_of_ble_eq_true rfl) (List.forall_mem_cons.mpr ⟨rfl, List.forall_mem_cons.mpr ⟨rfl, List.forall_mem_cons.mpr ⟨rfl, List.forall_mem_cons.mpr ⟨rfl, fun _ h => absurd h List.not_mem_nil⟩⟩⟩⟩) (fun X hD hI => ?_) h
  subst hD hI
  show KO X YX0_isOffered (cT (k_I X) q) 0 0 (k_Q k_ei X (cT (k_I X) q)) 0 [some (.ref (q 3)), some (.int x1), some (.int x2), some (.int x3), none] [] σ _
  unfold fX0_isOffered
  refine k_aload_n (pc := 0) dX0_isOffered_0 rfl ?_
  refine k_iload_n (pc := 1) dX0_isOffered_1 rfl ?_
  refine k_vi1 (pc := 2) (cT_same _ _) ckX0_isTellable kwm_X0_81 cT_rv3 ⟨rfl, rfl⟩ ⟨Nat.le_of_ble_eq_true rfl, Nat.le_of_ble_eq_true rfl⟩ ⟨Nat.zero_le _, Nat.zero_le _⟩ (Nat.le_of_ble_eq_true rfl) dX0_isOffered_2 (fun _ _ hf => kX0_isTellable hf) (fun r1 σ2 => ?_)
  refine k_if_ne (pc := 5) 10 dX0_isOffered_5 (by decide) ?_ ?_
  · refine k_aload_n (pc := 10) dX0_isOffered_10 rfl ?_
    refine k_gTX0_owners (pc := 11) kwf_X0_15 rfl dX0_isOffered_11 ?_
    refine k_iload_n (pc := 14) dX0_isOffered_14 rfl ?_
    refine k_lT13 (pc := 15) dX0_isOffered_15 ?_
    refine k_ist4 (pc := 16) dX0_isOffered_16 (Nat.le_of_ble_eq_true rfl) (fun v3 => ?_)
    refine k_iload_n (pc := 18) dX0_isOffered_18 rfl ?_
    refine k_if_eq (pc := 19) 47 dX0_isOffered_19 (by decide) ?_ ?_
    · refine k_iload (pc := 47) dX0_isOffered_47 rfl ?_
      refine k_iload_n (pc := 49) dX0_isOffered_49 rfl ?_
      refine k_icmp_ne (pc := 50) 57 dX0_isOffered_50 (by decide) ?_ ?_
      · refine k_iconst (pc := 57) (v := (nI 0)) dX0_isOffered_57 (by decide) ?_
        exact k_zreturn (pc := 58) rfl dX0_isOffered_58
      · refine k_iconst (pc := 53) (v := (nI 1)) dX0_isOffered_53 (by decide) ?_
        refine k_goto (pc := 54) 58 dX0_isOffered_54 (by decide) ?_
        exact k_zreturn (pc := 58) rfl dX0_isOffered_58
    · refine k_iload (pc := 22) dX0_isOffered_22 rfl ?_
      refine k_iload_n (pc := 24) dX0_isOffered_24 rfl ?_
      refine k_icmp_eq (pc := 25) 43 dX0_isOffered_25 (by decide) ?_ ?_
      · refine k_fg1 ?_
        refine k_fg2 ?_
        refine k_fg3 ?_
        refine k_fg4 ?_
        exact kX0_isOffered_c43 σ2
      · refine k_aload_n (pc := 28) dX0_isOffered_28 rfl ?_
        refine k_gTX0_chosen (pc := 29) kwf_X0_27 rfl dX0_isOffered_29 ?_
        refine k_iload (pc := 32) dX0_isOffered_32 rfl ?_
        refine k_lT17 (pc := 34) dX0_isOffered_34 ?_
        refine k_iload_n (pc := 35) dX0_isOffered_35 rfl ?_
        refine k_icmp_eq (pc := 36) 43 dX0_isOffered_36 (by decide) ?_ ?_
        · refine k_fg1 ?_
          refine k_fg2 ?_
          refine k_fg3 ?_
          refine k_fg4 ?_
          exact kX0_isOffered_c43 σ2
        · refine k_iconst (pc := 39) (v := (nI 1)) dX0_isOffered_39 (by decide) ?_
          refine k_goto (pc := 40) 58 dX0_isOffered_40 (by decide) ?_
          exact k_zreturn (pc := 58) rfl dX0_isOffered_58
  · refine k_iconst (pc := 8) (v := (nI 0)) dX0_isOffered_8 (by decide) ?_
    exact k_zreturn (pc := 9) rfl dX0_isOffered_9
-- TallTales.isBetterReply(III)Z
theorem ckX6_isBetterReply : k_Vok yX6_isBetterReply cX6_isBetterReply 8 (some .boolean) 3 := ⟨kwk_X6_isBetterReply, kwi_X6_isBetterReply, kwv_X6_isBetterReply, kwn_X6, by decide, by decide +kernel⟩
abbrev rmX6_isBetterReply : Room := { frames := 2, cells := 0, slots := 0, locals := 43 }
abbrev YX6_isBetterReply : k_Y := (rmX6_isBetterReply, cX6_isBetterReply, 8, RX6, (some .boolean))
noncomputable def fX6_isBetterReply_c65 (σ : k_S) : Option (Int32 × k_S) := k_z ((nI 1)) (some ((nI 1), σ))
set_option maxRecDepth 100000 in
set_option maxHeartbeats 4000000 in
theorem kX6_isBetterReply_c65 {X : k_C} {q : Nat → Nat} (σ : k_S) : KO X YX6_isBetterReply (cT (k_I X) q) 0 0 (k_Q k_ei X (cT (k_I X) q)) 65 [some (.ref (q 0)), none, none, none, none, none, none, none] [] σ (fX6_isBetterReply_c65 σ) := by
  unfold fX6_isBetterReply_c65
  refine k_iconst (pc := 65) (v := (nI 1)) dX6_isBetterReply_65 (by decide) ?_
  refine k_goto (pc := 66) 70 dX6_isBetterReply_66 (by decide) ?_
  exact k_zreturn (pc := 70) rfl dX6_isBetterReply_70
noncomputable def fX6_isBetterReply (σ : k_S) (x1 x2 x3 : Int32) : Option (Int32 × k_S) := k_ob (fX0_tallOf σ x2) fun r1 σ2 => k_bn (r1) fun v3 => k_ob (fX0_tallOf σ2 x3) fun r4 σ5 => k_bn (r4) fun v6 => k_ob (fX3_placeOf σ5 x1 v3) fun r7 σ8 => k_bn (r7) fun v9 => k_ob (fX3_placeOf σ8 x1 v6) fun r10 σ11 => k_bn (r10) fun v12 => (if v9 < v12 then fX6_isBetterReply_c65 σ11 else (if v9 = v12 then (if v3 < v6 then fX6_isBetterReply_c65 σ11 else k_z ((nI 0)) (some ((nI 0), σ11))) else k_z ((nI 0)) (some ((nI 0), σ11))))
set_option maxRecDepth 100000 in
set_option maxHeartbeats 4000000 in
theorem kX6_isBetterReply {D : va_G} {cI : ClassId} {q : Nat → Nat} {σ : k_S} {x1 x2 x3 : Int32} {r : Int32} {τ : k_S} (h : fX6_isBetterReply σ x1 x2 x3 = some (r, τ)) : k_Ct k_ei yX6_isBetterReply cX6_isBetterReply 8 (some .boolean) rmX6_isBetterReply (cT cI q) D cI [.ref (q 0), .int x1, .int x2, .int x3] σ r τ := by
  refine k_met (Y := YX6_isBetterReply) (cT_same _ _) (by decide) rfl (Nat.le_of_ble_eq_true rfl) (List.forall_mem_cons.mpr ⟨rfl, List.forall_mem_cons.mpr ⟨rfl, List.forall_mem_cons.mpr ⟨rfl, List.forall_mem_cons.mpr ⟨rfl, fun _ h => absurd h List.not_mem_nil⟩⟩⟩⟩) (fun X hD hI => ?_) h
  subst hD hI
  show KO X YX6_isBetterReply (cT (k_I X) q) 0 0 (k_Q k_ei X (cT (k_I X) q)) 0 [some (.ref (q 0)), some (.int x1), some (.int x2), some (.int x3), none, none, none, none] [] σ _
  unfold fX6_isBetterReply
  refine k_aload_n (pc := 0) dX6_isBetterReply_0 rfl ?_
  refine k_gTX6_house (pc := 1) kwf_X6_28 rfl dX6_isBetterReply_1 ?_
  refine k_iload_n (pc := 4) dX6_isBetterReply_4 rfl ?_
  refine k_vi1 (pc := 5) (cT_same _ _) ckX0_tallOf kwm_X6_122 cT_rv3 ⟨rfl, rfl⟩ ⟨Nat.le_of_ble_eq_true rfl, Nat.le_of_ble_eq_true rfl⟩ ⟨Nat.zero_le _, Nat.zero_le _⟩ (Nat.le_of_ble_eq_true rfl) dX6_isBetterReply_5 (fun _ _ hf => kX0_tallOf hf) (fun r1 σ2 => ?_)
  refine k_ist4 (pc := 8) dX6_isBetterReply_8 (Nat.le_of_ble_eq_true rfl) (fun v3 => ?_)
  refine k_aload_n (pc := 10) dX6_isBetterReply_10 rfl ?_
  refine k_gTX6_house (pc := 11) kwf_X6_28 rfl dX6_isBetterReply_11 ?_
  refine k_iload_n (pc := 14) dX6_isBetterReply_14 rfl ?_
  refine k_vi1 (pc := 15) (cT_same _ _) ckX0_tallOf kwm_X6_122 cT_rv3 ⟨rfl, rfl⟩ ⟨Nat.le_of_ble_eq_true rfl, Nat.le_of_ble_eq_true rfl⟩ ⟨Nat.zero_le _, Nat.zero_le _⟩ (Nat.le_of_ble_eq_true rfl) dX6_isBetterReply_15 (fun _ _ hf => kX0_tallOf hf) (fun r4 σ5 => ?_)
  refine k_ist5 (pc := 18) dX6_isBetterReply_18 (Nat.le_of_ble_eq_true rfl) (fun v6 => ?_)
  refine k_aload_n (pc := 20) dX6_isBetterReply_20 rfl ?_
  refine k_gTX6_talls (pc := 21) kwf_X6_35 rfl dX6_isBetterReply_21 ?_
  refine k_iload_n (pc := 24) dX6_isBetterReply_24 rfl ?_
  refine k_iload (pc := 25) dX6_isBetterReply_25 rfl ?_
  refine k_vi2 (pc := 27) (cT_same _ _) ckX3_placeOf kwm_X6_172 cT_rv4 ⟨rfl, rfl⟩ ⟨Nat.le_of_ble_eq_true rfl, Nat.le_of_ble_eq_true rfl⟩ ⟨Nat.zero_le _, Nat.zero_le _⟩ (Nat.le_of_ble_eq_true rfl) dX6_isBetterReply_27 (fun _ _ hf => kX3_placeOf hf) (fun r7 σ8 => ?_)
  refine k_ist6 (pc := 30) dX6_isBetterReply_30 (Nat.le_of_ble_eq_true rfl) (fun v9 => ?_)
  refine k_aload_n (pc := 32) dX6_isBetterReply_32 rfl ?_
  refine k_gTX6_talls (pc := 33) kwf_X6_35 rfl dX6_isBetterReply_33 ?_
  refine k_iload_n (pc := 36) dX6_isBetterReply_36 rfl ?_
  refine k_iload (pc := 37) dX6_isBetterReply_37 rfl ?_
  refine k_vi2 (pc := 39) (cT_same _ _) ckX3_placeOf kwm_X6_172 cT_rv4 ⟨rfl, rfl⟩ ⟨Nat.le_of_ble_eq_true rfl, Nat.le_of_ble_eq_true rfl⟩ ⟨Nat.zero_le _, Nat.zero_le _⟩ (Nat.le_of_ble_eq_true rfl) dX6_isBetterReply_39 (fun _ _ hf => kX3_placeOf hf) (fun r10 σ11 => ?_)
  refine k_ist7 (pc := 42) dX6_isBetterReply_42 (Nat.le_of_ble_eq_true rfl) (fun v12 => ?_)
  refine k_iload (pc := 44) dX6_isBetterReply_44 rfl ?_
  refine k_iload (pc := 46) dX6_isBetterReply_46 rfl ?_
  refine k_icmp_lt (pc := 48) 65 dX6_isBetterReply_48 (by decide) ?_ ?_
  · refine k_fg1 ?_
    refine k_fg2 ?_
    refine k_fg3 ?_
    refine k_fg4 ?_
    refine k_fg5 ?_
    refine k_fg6 ?_
    refine k_fg7 ?_
    exact kX6_isBetterReply_c65 σ11
  · refine k_iload (pc := 51) dX6_isBetterReply_51 rfl ?_
    refine k_iload (pc := 53) dX6_isBetterReply_53 rfl ?_
    refine k_icmp_ne (pc := 55) 69 dX6_isBetterReply_55 (by decide) ?_ ?_
    · refine k_iconst (pc := 69) (v := (nI 0)) dX6_isBetterReply_69 (by decide) ?_
      exact k_zreturn (pc := 70) rfl dX6_isBetterReply_70
    · refine k_iload (pc := 58) dX6_isBetterReply_58 rfl ?_
      refine k_iload (pc := 60) dX6_isBetterReply_60 rfl ?_
      refine k_icmp_ge (pc := 62) 69 dX6_isBetterReply_62 (by decide) ?_ ?_
      · refine k_iconst (pc := 69) (v := (nI 0)) dX6_isBetterReply_69 (by decide) ?_
        exact k_zreturn (pc := 70) rfl dX6_isBetterReply_70
      · refine k_fg1 ?_
        refine k_fg2 ?_
        refine k_fg3 ?_
        refine k_fg4 ?_
        refine k_fg5 ?_
        refine k_fg6 ?_
        refine k_fg7 ?_
        exact kX6_isBetterReply_c65 σ11
-- TallTales.bestReply(IIZ)I
theorem ckX6_bestReply : k_Vok yX6_bestReply cX6_bestReply 6 (some .int) 3 := ⟨kwk_X6_bestReply, kwi_X6_bestReply, kwv_X6_bestReply, kwn_X6, by decide, by decide +kernel⟩
abbrev rmX6_bestReply : Room := { frames := 3, cells := 0, slots := 0, locals := 70 }
abbrev YX6_bestReply : k_Y := (rmX6_bestReply, cX6_bestReply, 6, RX6, (some .int))
noncomputable def fX6_bestReply_c95 (kh43 : k_S → Int32 → Int32 → Int32 → Int32 → Int32 → Option (Int32 × k_S)) (σ : k_S) (l1 l2 l3 l4 l5 : Int32) : Option (Int32 × k_S) := k_bn (l5 + (nI 1)) fun v1 => kh43 σ l1 l2 l3 l4 v1
set_option maxRecDepth 100000 in
set_option maxHeartbeats 4000000 in
theorem kX6_bestReply_c95 {X : k_C} {q : Nat → Nat} (kh43 : k_S → Int32 → Int32 → Int32 → Int32 → Int32 → Option (Int32 × k_S)) (hk43 : ∀ (σ : k_S) (l1 l2 l3 l4 l5 : Int32), KO X YX6_bestReply (cT (k_I X) q) 0 0 (k_Q k_ei X (cT (k_I X) q)) 43 [some (.ref (q 0)), some (.int l1), some (.int l2), some (.int l3), some (.int l4), some (.int l5)] [] σ (kh43 σ l1 l2 l3 l4 l5)) (σ : k_S) (l1 l2 l3 l4 l5 : Int32) : KO X YX6_bestReply (cT (k_I X) q) 0 0 (k_Q k_ei X (cT (k_I X) q)) 95 [some (.ref (q 0)), some (.int l1), some (.int l2), some (.int l3), some (.int l4), some (.int l5)] [] σ (fX6_bestReply_c95 kh43 σ l1 l2 l3 l4 l5) := by
  unfold fX6_bestReply_c95
  refine k_iinc5 (pc := 95) (w := (nI 1)) dX6_bestReply_95 rfl (by decide) (Nat.le_of_ble_eq_true rfl) (fun v1 => ?_)
  refine k_goto (pc := 98) 43 dX6_bestReply_98 (by decide) ?_
  exact hk43 σ l1 l2 l3 l4 v1
noncomputable def fX6_bestReply_c91 (kh43 : k_S → Int32 → Int32 → Int32 → Int32 → Int32 → Option (Int32 × k_S)) (σ : k_S) (l1 l2 l3 l5 : Int32) : Option (Int32 × k_S) := k_bn (l5) fun v1 => fX6_bestReply_c95 kh43 σ l1 l2 l3 v1 l5
set_option maxRecDepth 100000 in
set_option maxHeartbeats 4000000 in
theorem kX6_bestReply_c91 {X : k_C} {q : Nat → Nat} (kh43 : k_S → Int32 → Int32 → Int32 → Int32 → Int32 → Option (Int32 × k_S)) (hk43 : ∀ (σ : k_S) (l1 l2 l3 l4 l5 : Int32), KO X YX6_bestReply (cT (k_I X) q) 0 0 (k_Q k_ei X (cT (k_I X) q)) 43 [some (.ref (q 0)), some (.int l1), some (.int l2), some (.int l3), some (.int l4), some (.int l5)] [] σ (kh43 σ l1 l2 l3 l4 l5)) (σ : k_S) (l1 l2 l3 l5 : Int32) : KO X YX6_bestReply (cT (k_I X) q) 0 0 (k_Q k_ei X (cT (k_I X) q)) 91 [some (.ref (q 0)), some (.int l1), some (.int l2), some (.int l3), none, some (.int l5)] [] σ (fX6_bestReply_c91 kh43 σ l1 l2 l3 l5) := by
  unfold fX6_bestReply_c91
  refine k_iload (pc := 91) dX6_bestReply_91 rfl ?_
  refine k_ist4 (pc := 93) dX6_bestReply_93 (Nat.le_of_ble_eq_true rfl) (fun v1 => ?_)
  exact kX6_bestReply_c95 kh43 hk43 σ l1 l2 l3 v1 l5
noncomputable def fX6_bestReply_c43 : Nat → k_S → Int32 → Int32 → Int32 → Int32 → Int32 → Option (Int32 × k_S)
  | 0, _, _, _, _, _, _ => none
  | n + 1, σ, l1, l2, l3, l4, l5 => (if l5 < σ.1 4 then k_ob (fX0_isOffered σ l1 l5 l3) fun r5 σ6 => (if r5 = 0 then fX6_bestReply_c95 (fX6_bestReply_c43 n) σ6 l1 l2 l3 l4 l5 else (if l4 = (k_ng 9) then fX6_bestReply_c91 (fX6_bestReply_c43 n) σ6 l1 l2 l3 l5 else k_ob (fX6_isBetterReply σ6 l1 l5 l4) fun r7 σ8 => (if r7 = 0 then fX6_bestReply_c95 (fX6_bestReply_c43 n) σ8 l1 l2 l3 l4 l5 else fX6_bestReply_c91 (fX6_bestReply_c43 n) σ8 l1 l2 l3 l5))) else (if l2 = 0 then some (l4, σ) else (if l4 = (k_ng 9) then some (l4, σ) else k_ob (fX0_tallOf σ l4) fun r1 σ2 => k_ob (fX3_placeOf σ2 l1 r1) fun r3 σ4 => some (r3, σ4))))
theorem fX6_bestReply_c43_s (n : Nat) (σ : k_S) (l1 l2 l3 l4 l5 : Int32) : fX6_bestReply_c43 (n + 1) σ l1 l2 l3 l4 l5 = (if l5 < σ.1 4 then k_ob (fX0_isOffered σ l1 l5 l3) fun r5 σ6 => (if r5 = 0 then fX6_bestReply_c95 (fX6_bestReply_c43 n) σ6 l1 l2 l3 l4 l5 else (if l4 = (k_ng 9) then fX6_bestReply_c91 (fX6_bestReply_c43 n) σ6 l1 l2 l3 l5 else k_ob (fX6_isBetterReply σ6 l1 l5 l4) fun r7 σ8 => (if r7 = 0 then fX6_bestReply_c95 (fX6_bestReply_c43 n) σ8 l1 l2 l3 l4 l5 else fX6_bestReply_c91 (fX6_bestReply_c43 n) σ8 l1 l2 l3 l5))) else (if l2 = 0 then some (l4, σ) else (if l4 = (k_ng 9) then some (l4, σ) else k_ob (fX0_tallOf σ l4) fun r1 σ2 => k_ob (fX3_placeOf σ2 l1 r1) fun r3 σ4 => some (r3, σ4)))) := rfl
set_option maxRecDepth 100000 in
set_option maxHeartbeats 4000000 in
theorem kX6_bestReply_c43 {X : k_C} {q : Nat → Nat} : ∀ (n : Nat) (σ : k_S) (l1 l2 l3 l4 l5 : Int32), KO X YX6_bestReply (cT (k_I X) q) 0 0 (k_Q k_ei X (cT (k_I X) q)) 43 [some (.ref (q 0)), some (.int l1), some (.int l2), some (.int l3), some (.int l4), some (.int l5)] [] σ (fX6_bestReply_c43 n σ l1 l2 l3 l4 l5) := by
  intro n
  induction n with
  | zero => intros; exact KO.nil
  | succ n ih =>
    intro σ l1 l2 l3 l4 l5
    rw [fX6_bestReply_c43_s]
    refine k_iload (pc := 43) dX6_bestReply_43 rfl ?_
    refine k_aload_n (pc := 45) dX6_bestReply_45 rfl ?_
    refine k_gTX6_house (pc := 46) kwf_X6_28 rfl dX6_bestReply_46 ?_
    refine k_gTX0_tales (pc := 49) kwf_X6_98 rfl dX6_bestReply_49 ?_
    refine k_icmp_ge (pc := 52) 101 dX6_bestReply_52 (by decide) ?_ ?_
    · refine k_iload_n (pc := 101) dX6_bestReply_101 rfl ?_
      refine k_if_eq (pc := 102) 112 dX6_bestReply_102 (by decide) ?_ ?_
      · refine k_iload (pc := 112) dX6_bestReply_112 rfl ?_
        exact k_ireturn (pc := 114) rfl dX6_bestReply_114
      · refine k_iload (pc := 105) dX6_bestReply_105 rfl ?_
        refine k_bipush (pc := 107) (v := (k_ng 9)) dX6_bestReply_107 (by decide) ?_
        refine k_icmp_ne (pc := 109) 115 dX6_bestReply_109 (by decide) ?_ ?_
        · refine k_aload_n (pc := 115) dX6_bestReply_115 rfl ?_
          refine k_gTX6_talls (pc := 116) kwf_X6_35 rfl dX6_bestReply_116 ?_
          refine k_iload_n (pc := 119) dX6_bestReply_119 rfl ?_
          refine k_aload_n (pc := 120) dX6_bestReply_120 rfl ?_
          refine k_gTX6_house (pc := 121) kwf_X6_28 rfl dX6_bestReply_121 ?_
          refine k_iload (pc := 124) dX6_bestReply_124 rfl ?_
          refine k_vi1 (pc := 126) (cT_same _ _) ckX0_tallOf kwm_X6_122 cT_rv3 ⟨rfl, rfl⟩ ⟨Nat.le_of_ble_eq_true rfl, Nat.le_of_ble_eq_true rfl⟩ ⟨Nat.zero_le _, Nat.zero_le _⟩ (Nat.le_of_ble_eq_true rfl) dX6_bestReply_126 (fun _ _ hf => kX0_tallOf hf) (fun r1 σ2 => ?_)
          refine k_vi2 (pc := 129) (cT_same _ _) ckX3_placeOf kwm_X6_172 cT_rv4 ⟨rfl, rfl⟩ ⟨Nat.le_of_ble_eq_true rfl, Nat.le_of_ble_eq_true rfl⟩ ⟨Nat.zero_le _, Nat.zero_le _⟩ (Nat.le_of_ble_eq_true rfl) dX6_bestReply_129 (fun _ _ hf => kX3_placeOf hf) (fun r3 σ4 => ?_)
          exact k_ireturn (pc := 132) rfl dX6_bestReply_132
        · refine k_iload (pc := 112) dX6_bestReply_112 rfl ?_
          exact k_ireturn (pc := 114) rfl dX6_bestReply_114
    · refine k_aload_n (pc := 55) dX6_bestReply_55 rfl ?_
      refine k_gTX6_house (pc := 56) kwf_X6_28 rfl dX6_bestReply_56 ?_
      refine k_iload_n (pc := 59) dX6_bestReply_59 rfl ?_
      refine k_iload (pc := 60) dX6_bestReply_60 rfl ?_
      refine k_iload_n (pc := 62) dX6_bestReply_62 rfl ?_
      refine k_vi3 (pc := 63) (cT_same _ _) ckX0_isOffered kwm_X6_262 cT_rv3 ⟨rfl, rfl⟩ ⟨Nat.le_of_ble_eq_true rfl, Nat.le_of_ble_eq_true rfl⟩ ⟨Nat.zero_le _, Nat.zero_le _⟩ (Nat.le_of_ble_eq_true rfl) dX6_bestReply_63 (fun _ _ hf => kX0_isOffered hf) (fun r5 σ6 => ?_)
      refine k_if_ne (pc := 66) 72 dX6_bestReply_66 (by decide) ?_ ?_
      · refine k_iload (pc := 72) dX6_bestReply_72 rfl ?_
        refine k_bipush (pc := 74) (v := (k_ng 9)) dX6_bestReply_74 (by decide) ?_
        refine k_icmp_eq (pc := 76) 91 dX6_bestReply_76 (by decide) ?_ ?_
        · refine k_fg4 ?_
          exact kX6_bestReply_c91 (fX6_bestReply_c43 n) ih σ6 l1 l2 l3 l5
        · refine k_aload_n (pc := 79) dX6_bestReply_79 rfl ?_
          refine k_iload_n (pc := 80) dX6_bestReply_80 rfl ?_
          refine k_iload (pc := 81) dX6_bestReply_81 rfl ?_
          refine k_iload (pc := 83) dX6_bestReply_83 rfl ?_
          refine k_vi3 (pc := 85) (cT_same _ _) ckX6_isBetterReply kwm_X6_266 cT_rv0 ⟨rfl, rfl⟩ ⟨Nat.le_of_ble_eq_true rfl, Nat.le_of_ble_eq_true rfl⟩ ⟨Nat.zero_le _, Nat.zero_le _⟩ (Nat.le_of_ble_eq_true rfl) dX6_bestReply_85 (fun _ _ hf => kX6_isBetterReply hf) (fun r7 σ8 => ?_)
          refine k_if_eq (pc := 88) 95 dX6_bestReply_88 (by decide) ?_ ?_
          · exact kX6_bestReply_c95 (fX6_bestReply_c43 n) ih σ8 l1 l2 l3 l4 l5
          · refine k_fg4 ?_
            exact kX6_bestReply_c91 (fX6_bestReply_c43 n) ih σ8 l1 l2 l3 l5
      · refine k_goto (pc := 69) 95 dX6_bestReply_69 (by decide) ?_
        exact kX6_bestReply_c95 (fX6_bestReply_c43 n) ih σ6 l1 l2 l3 l4 l5
noncomputable def fX6_bestReply (σ : k_S) (x1 x2 x3 : Int32) : Option (Int32 × k_S) := k_ob (fX0_hasGuest σ x1) fun r1 σ2 => (if r1 = 0 then some ((k_ng 1), σ2) else (if x2 < 0 then some ((k_ng 2), σ2) else (if (nI 1) < x2 then some ((k_ng 2), σ2) else k_ob (fX0_tallsAsChosen σ2) fun r3 σ4 => k_bn ((k_ng 9)) fun v5 => k_bn ((nI 0)) fun v6 => fX6_bestReply_c43 k_F σ4 x1 x2 x3 v5 v6)))
set_option maxRecDepth 100000 in
set_option maxHeartbeats 4000000 in
theorem kX6_bestReply {D : va_G} {cI : ClassId} {q : Nat → Nat} {σ : k_S} {x1 x2 x3 : Int32} {r : Int32} {τ : k_S} (h : fX6_bestReply σ x1 x2 x3 = some (r, τ)) : k_Ct k_ei yX6_bestReply cX6_bestReply 6 (some .int) rmX6_bestReply (cT cI q) D cI [.ref (q 0), .int x1, .int x2, .int x3] σ r τ := by
  refine k_met (Y := YX6_bestReply) (cT_same _ _) (by decide) rfl (Nat.le_of_ble_eq_true rfl) (List.forall_mem_cons.mpr ⟨rfl, List.forall_mem_cons.mpr ⟨rfl, List.forall_mem_cons.mpr ⟨rfl, List.forall_mem_cons.mpr ⟨rfl, fun _ h => absurd h List.not_mem_nil⟩⟩⟩⟩) (fun X hD hI => ?_) h
  subst hD hI
  show KO X YX6_bestReply (cT (k_I X) q) 0 0 (k_Q k_ei X (cT (k_I X) q)) 0 [some (.ref (q 0)), some (.int x1), some (.int x2), some (.int x3), none, none] [] σ _
  unfold fX6_bestReply
  refine k_aload_n (pc := 0) dX6_bestReply_0 rfl ?_
  refine k_gTX6_house (pc := 1) kwf_X6_28 rfl dX6_bestReply_1 ?_
  refine k_iload_n (pc := 4) dX6_bestReply_4 rfl ?_
  refine k_vi1 (pc := 5) (cT_same _ _) ckX0_hasGuest kwm_X6_132 cT_rv3 ⟨rfl, rfl⟩ ⟨Nat.le_of_ble_eq_true rfl, Nat.le_of_ble_eq_true rfl⟩ ⟨Nat.zero_le _, Nat.zero_le _⟩ (Nat.le_of_ble_eq_true rfl) dX6_bestReply_5 (fun _ _ hf => kX0_hasGuest hf) (fun r1 σ2 => ?_)
  refine k_if_ne (pc := 8) 13 dX6_bestReply_8 (by decide) ?_ ?_
  · refine k_iload_n (pc := 13) dX6_bestReply_13 rfl ?_
    refine k_if_lt (pc := 14) 22 dX6_bestReply_14 (by decide) ?_ ?_
    · refine k_bipush (pc := 22) (v := (k_ng 2)) dX6_bestReply_22 (by decide) ?_
      exact k_ireturn (pc := 24) rfl dX6_bestReply_24
    · refine k_iload_n (pc := 17) dX6_bestReply_17 rfl ?_
      refine k_iconst (pc := 18) (v := (nI 1)) dX6_bestReply_18 (by decide) ?_
      refine k_icmp_le (pc := 19) 25 dX6_bestReply_19 (by decide) ?_ ?_
      · refine k_aload_n (pc := 25) dX6_bestReply_25 rfl ?_
        refine k_gTX6_house (pc := 26) kwf_X6_28 rfl dX6_bestReply_26 ?_
        refine k_aload_n (pc := 29) dX6_bestReply_29 rfl ?_
        refine k_gTX6_talls (pc := 30) kwf_X6_35 rfl dX6_bestReply_30 ?_
        refine k_vv1 (pc := 33) (cT_same _ _) ckX0_tallsAsChosen kwm_X6_141 cT_rv3 ⟨rfl, rfl⟩ ⟨Nat.le_of_ble_eq_true rfl, Nat.le_of_ble_eq_true rfl⟩ ⟨Nat.zero_le _, Nat.zero_le _⟩ (Nat.le_of_ble_eq_true rfl) dX6_bestReply_33 (fun _ _ hf => kX0_tallsAsChosen hf) (fun r3 σ4 => ?_)
        refine k_bipush (pc := 36) (v := (k_ng 9)) dX6_bestReply_36 (by decide) ?_
        refine k_ist4 (pc := 38) dX6_bestReply_38 (Nat.le_of_ble_eq_true rfl) (fun v5 => ?_)
        refine k_iconst (pc := 40) (v := (nI 0)) dX6_bestReply_40 (by decide) ?_
        refine k_ist5 (pc := 41) dX6_bestReply_41 (Nat.le_of_ble_eq_true rfl) (fun v6 => ?_)
        exact kX6_bestReply_c43 k_F σ4 x1 x2 x3 v5 v6
      · refine k_bipush (pc := 22) (v := (k_ng 2)) dX6_bestReply_22 (by decide) ?_
        exact k_ireturn (pc := 24) rfl dX6_bestReply_24
  · refine k_iconst (pc := 11) (v := (k_ng 1)) dX6_bestReply_11 (by decide) ?_
    exact k_ireturn (pc := 12) rfl dX6_bestReply_12
-- TallTales.answer(II)I
theorem ckX6_answer : k_Vok yX6_answer cX6_answer 3 (some .int) 2 := ⟨kwk_X6_answer, kwi_X6_answer, kwv_X6_answer, kwn_X6, by decide, by decide +kernel⟩
abbrev rmX6_answer : Room := { frames := 4, cells := 0, slots := 0, locals := 95 }
abbrev YX6_answer : k_Y := (rmX6_answer, cX6_answer, 3, RX6, (some .int))
noncomputable def fX6_answer (σ : k_S) (x1 x2 : Int32) : Option (Int32 × k_S) := k_ob (fX6_bestReply σ x1 x2 ((nI 0))) fun r1 σ2 => some (r1, σ2)
set_option maxRecDepth 100000 in
set_option maxHeartbeats 4000000 in
theorem kX6_answer {D : va_G} {cI : ClassId} {q : Nat → Nat} {σ : k_S} {x1 x2 : Int32} {r : Int32} {τ : k_S} (h : fX6_answer σ x1 x2 = some (r, τ)) : k_Ct k_ei yX6_answer cX6_answer 3 (some .int) rmX6_answer (cT cI q) D cI [.ref (q 0), .int x1, .int x2] σ r τ := by
  refine k_met (Y := YX6_answer) (cT_same _ _) (by decide) rfl (Nat.le_of_ble_eq_true rfl) (List.forall_mem_cons.mpr ⟨rfl, List.forall_mem_cons.mpr ⟨rfl, List.forall_mem_cons.mpr ⟨rfl, fun _ h => absurd h List.not_mem_nil⟩⟩⟩) (fun X hD hI => ?_) h
  subst hD hI
  show KO X YX6_answer (cT (k_I X) q) 0 0 (k_Q k_ei X (cT (k_I X) q)) 0 [some (.ref (q 0)), some (.int x1), some (.int x2)] [] σ _
  unfold fX6_answer
  refine k_aload_n (pc := 0) dX6_answer_0 rfl ?_
  refine k_iload_n (pc := 1) dX6_answer_1 rfl ?_
  refine k_iload_n (pc := 2) dX6_answer_2 rfl ?_
  refine k_iconst (pc := 3) (v := (nI 0)) dX6_answer_3 (by decide) ?_
  refine k_vi3 (pc := 4) (cT_same _ _) ckX6_bestReply kwm_X6_178 cT_rv0 ⟨rfl, rfl⟩ ⟨Nat.le_of_ble_eq_true rfl, Nat.le_of_ble_eq_true rfl⟩ ⟨Nat.zero_le _, Nat.zero_le _⟩ (Nat.le_of_ble_eq_true rfl) dX6_answer_4 (fun _ _ hf => kX6_bestReply hf) (fun r1 σ2 => ?_)
  exact k_ireturn (pc := 7) rfl dX6_answer_7
-- TallTales.borrowed(II)I
theorem ckX6_borrowed : k_Vok yX6_borrowed cX6_borrowed 3 (some .int) 2 := ⟨kwk_X6_borrowed, kwi_X6_borrowed, kwv_X6_borrowed, kwn_X6, by decide, by decide +kernel⟩
abbrev rmX6_borrowed : Room := { frames := 4, cells := 0, slots := 0, locals := 95 }
abbrev YX6_borrowed : k_Y := (rmX6_borrowed, cX6_borrowed, 3, RX6, (some .int))
noncomputable def fX6_borrowed (σ : k_S) (x1 x2 : Int32) : Option (Int32 × k_S) := k_ob (fX6_bestReply σ x1 x2 ((nI 1))) fun r1 σ2 => some (r1, σ2)
set_option maxRecDepth 100000 in
set_option maxHeartbeats 4000000 in
theorem kX6_borrowed {D : va_G} {cI : ClassId} {q : Nat → Nat} {σ : k_S} {x1 x2 : Int32} {r : Int32} {τ : k_S} (h : fX6_borrowed σ x1 x2 = some (r, τ)) : k_Ct k_ei yX6_borrowed cX6_borrowed 3 (some .int) rmX6_borrowed (cT cI q) D cI [.ref (q 0), .int x1, .int x2] σ r τ := by
  refine k_met (Y := YX6_borrowed) (cT_same _ _) (by decide) rfl (Nat.le_of_ble_eq_true rfl) (List.forall_mem_cons.mpr ⟨rfl, List.forall_mem_cons.mpr ⟨rfl, List.forall_mem_cons.mpr ⟨rfl, fun _ h => absurd h List.not_mem_nil⟩⟩⟩) (fun X hD hI => ?_) h
  subst hD hI
  show KO X YX6_borrowed (cT (k_I X) q) 0 0 (k_Q k_ei X (cT (k_I X) q)) 0 [some (.ref (q 0)), some (.int x1), some (.int x2)] [] σ _
  unfold fX6_borrowed
  refine k_aload_n (pc := 0) dX6_borrowed_0 rfl ?_
  refine k_iload_n (pc := 1) dX6_borrowed_1 rfl ?_
  refine k_iload_n (pc := 2) dX6_borrowed_2 rfl ?_
  refine k_iconst (pc := 3) (v := (nI 1)) dX6_borrowed_3 (by decide) ?_
  refine k_vi3 (pc := 4) (cT_same _ _) ckX6_bestReply kwm_X6_178 cT_rv0 ⟨rfl, rfl⟩ ⟨Nat.le_of_ble_eq_true rfl, Nat.le_of_ble_eq_true rfl⟩ ⟨Nat.zero_le _, Nat.zero_le _⟩ (Nat.le_of_ble_eq_true rfl) dX6_borrowed_4 (fun _ _ hf => kX6_bestReply hf) (fun r1 σ2 => ?_)
  exact k_ireturn (pc := 7) rfl dX6_borrowed_7
-- TallTales$Talls.noLessThan(I)I
theorem ckX3_noLessThan : k_Vok yX3_noLessThan cX3_noLessThan 4 (some .int) 1 := ⟨kwk_X3_noLessThan, kwi_X3_noLessThan, kwv_X3_noLessThan, kwn_X3, by decide, by decide +kernel⟩
abbrev rmX3_noLessThan : Room := { frames := 0, cells := 0, slots := 0, locals := 0 }
abbrev YX3_noLessThan : k_Y := (rmX3_noLessThan, cX3_noLessThan, 4, RX3, (some .int))
noncomputable def fX3_noLessThan_c34 (kh4 : k_S → Int32 → Int32 → Int32 → Option (Int32 × k_S)) (σ : k_S) (l1 l2 l3 : Int32) : Option (Int32 × k_S) := k_bn (l3 + (nI 1)) fun v1 => kh4 σ l1 l2 v1
set_option maxRecDepth 100000 in
set_option maxHeartbeats 4000000 in
theorem kX3_noLessThan_c34 {X : k_C} {q : Nat → Nat} (kh4 : k_S → Int32 → Int32 → Int32 → Option (Int32 × k_S)) (hk4 : ∀ (σ : k_S) (l1 l2 l3 : Int32), KO X YX3_noLessThan (cT (k_I X) q) 0 0 (k_Q k_ei X (cT (k_I X) q)) 4 [some (.ref (q 4)), some (.int l1), some (.int l2), some (.int l3)] [] σ (kh4 σ l1 l2 l3)) (σ : k_S) (l1 l2 l3 : Int32) : KO X YX3_noLessThan (cT (k_I X) q) 0 0 (k_Q k_ei X (cT (k_I X) q)) 34 [some (.ref (q 4)), some (.int l1), some (.int l2), some (.int l3)] [] σ (fX3_noLessThan_c34 kh4 σ l1 l2 l3) := by
  unfold fX3_noLessThan_c34
  refine k_iinc3 (pc := 34) (w := (nI 1)) dX3_noLessThan_34 rfl (by decide) (Nat.le_of_ble_eq_true rfl) (fun v1 => ?_)
  refine k_goto (pc := 37) 4 dX3_noLessThan_37 (by decide) ?_
  exact hk4 σ l1 l2 v1
noncomputable def fX3_noLessThan_c4 : Nat → k_S → Int32 → Int32 → Int32 → Option (Int32 × k_S)
  | 0, _, _, _, _ => none
  | n + 1, σ, l1, l2, l3 => (if l3 < σ.1 7 then k_gd (l3) 5 ((if 0 < σ.2 14 (Int32.toNatClampNeg (l3)) then k_gd (l3) 5 ((if σ.2 14 (Int32.toNatClampNeg (l3)) < l1 then fX3_noLessThan_c34 (fX3_noLessThan_c4 n) σ l1 l2 l3 else k_bn (l2 + (nI 1)) fun v1 => fX3_noLessThan_c34 (fX3_noLessThan_c4 n) σ l1 v1 l3)) else fX3_noLessThan_c34 (fX3_noLessThan_c4 n) σ l1 l2 l3)) else some (l2, σ))
theorem fX3_noLessThan_c4_s (n : Nat) (σ : k_S) (l1 l2 l3 : Int32) : fX3_noLessThan_c4 (n + 1) σ l1 l2 l3 = (if l3 < σ.1 7 then k_gd (l3) 5 ((if 0 < σ.2 14 (Int32.toNatClampNeg (l3)) then k_gd (l3) 5 ((if σ.2 14 (Int32.toNatClampNeg (l3)) < l1 then fX3_noLessThan_c34 (fX3_noLessThan_c4 n) σ l1 l2 l3 else k_bn (l2 + (nI 1)) fun v1 => fX3_noLessThan_c34 (fX3_noLessThan_c4 n) σ l1 v1 l3)) else fX3_noLessThan_c34 (fX3_noLessThan_c4 n) σ l1 l2 l3)) else some (l2, σ)) := rfl
set_option maxRecDepth 100000 in
set_option maxHeartbeats 4000000 in
theorem kX3_noLessThan_c4 {X : k_C} {q : Nat → Nat} : ∀ (n : Nat) (σ : k_S) (l1 l2 l3 : Int32), KO X YX3_noLessThan (cT (k_I X) q) 0 0 (k_Q k_ei X (cT (k_I X) q)) 4 [some (.ref (q 4)), some (.int l1), some (.int l2), some (.int l3)] [] σ (fX3_noLessThan_c4 n σ l1 l2 l3) := by
  intro n
  induction n with
  | zero => intros; exact KO.nil
  | succ n ih =>
    intro σ l1 l2 l3
    rw [fX3_noLessThan_c4_s]
    refine k_iload_n (pc := 4) dX3_noLessThan_4 rfl ?_
    refine k_aload_n (pc := 5) dX3_noLessThan_5 rfl ?_
    refine k_gTX3_guests (pc := 6) kwf_X3_15 rfl dX3_noLessThan_6 ?_
    refine k_icmp_ge (pc := 9) 40 dX3_noLessThan_9 (by decide) ?_ ?_
    · refine k_iload_n (pc := 40) dX3_noLessThan_40 rfl ?_
      exact k_ireturn (pc := 41) rfl dX3_noLessThan_41
    · refine k_aload_n (pc := 12) dX3_noLessThan_12 rfl ?_
      refine k_gTX3_of (pc := 13) kwf_X3_9 rfl dX3_noLessThan_13 ?_
      refine k_iload_n (pc := 16) dX3_noLessThan_16 rfl ?_
      refine k_lT21 (pc := 17) dX3_noLessThan_17 ?_
      refine k_if_le (pc := 18) 34 dX3_noLessThan_18 (by decide) ?_ ?_
      · exact kX3_noLessThan_c34 (fX3_noLessThan_c4 n) ih σ l1 l2 l3
      · refine k_aload_n (pc := 21) dX3_noLessThan_21 rfl ?_
        refine k_gTX3_of (pc := 22) kwf_X3_9 rfl dX3_noLessThan_22 ?_
        refine k_iload_n (pc := 25) dX3_noLessThan_25 rfl ?_
        refine k_lT21 (pc := 26) dX3_noLessThan_26 ?_
        refine k_iload_n (pc := 27) dX3_noLessThan_27 rfl ?_
        refine k_icmp_lt (pc := 28) 34 dX3_noLessThan_28 (by decide) ?_ ?_
        · exact kX3_noLessThan_c34 (fX3_noLessThan_c4 n) ih σ l1 l2 l3
        · refine k_iinc2 (pc := 31) (w := (nI 1)) dX3_noLessThan_31 rfl (by decide) (Nat.le_of_ble_eq_true rfl) (fun v1 => ?_)
          exact kX3_noLessThan_c34 (fX3_noLessThan_c4 n) ih σ l1 v1 l3
noncomputable def fX3_noLessThan (σ : k_S) (x1 : Int32) : Option (Int32 × k_S) := k_bn ((nI 0)) fun v1 => k_bn ((nI 0)) fun v2 => fX3_noLessThan_c4 k_F σ x1 v1 v2
set_option maxRecDepth 100000 in
set_option maxHeartbeats 4000000 in
theorem kX3_noLessThan {D : va_G} {cI : ClassId} {q : Nat → Nat} {σ : k_S} {x1 : Int32} {r : Int32} {τ : k_S} (h : fX3_noLessThan σ x1 = some (r, τ)) : k_Ct k_ei yX3_noLessThan cX3_noLessThan 4 (some .int) rmX3_noLessThan (cT cI q) D cI [.ref (q 4), .int x1] σ r τ := by
  refine k_met (Y := YX3_noLessThan) (cT_same _ _) (by decide) rfl (Nat.le_of_ble_eq_true rfl) (List.forall_mem_cons.mpr ⟨rfl, List.forall_mem_cons.mpr ⟨rfl, fun _ h => absurd h List.not_mem_nil⟩⟩) (fun X hD hI => ?_) h
  subst hD hI
  show KO X YX3_noLessThan (cT (k_I X) q) 0 0 (k_Q k_ei X (cT (k_I X) q)) 0 [some (.ref (q 4)), some (.int x1), none, none] [] σ _
  unfold fX3_noLessThan
  refine k_iconst (pc := 0) (v := (nI 0)) dX3_noLessThan_0 (by decide) ?_
  refine k_ist2 (pc := 1) dX3_noLessThan_1 (Nat.le_of_ble_eq_true rfl) (fun v1 => ?_)
  refine k_iconst (pc := 2) (v := (nI 0)) dX3_noLessThan_2 (by decide) ?_
  refine k_ist3 (pc := 3) dX3_noLessThan_3 (Nat.le_of_ble_eq_true rfl) (fun v2 => ?_)
  exact kX3_noLessThan_c4 k_F σ x1 v1 v2
-- TallTales.bishop(I)I
theorem ckX6_bishop : k_Vok yX6_bishop cX6_bishop 2 (some .int) 1 := ⟨kwk_X6_bishop, kwi_X6_bishop, kwv_X6_bishop, kwn_X6, by decide, by decide +kernel⟩
abbrev rmX6_bishop : Room := { frames := 3, cells := 0, slots := 0, locals := 65 }
abbrev YX6_bishop : k_Y := (rmX6_bishop, cX6_bishop, 2, RX6, (some .int))
noncomputable def fX6_bishop (σ : k_S) (x1 : Int32) : Option (Int32 × k_S) := (if x1 < 0 then some ((k_ng 2), σ) else (if (nI 999) < x1 then some ((k_ng 2), σ) else k_ob (fX0_isOpen σ) fun r1 σ2 => (if r1 = 0 then some ((k_ng 3), σ2) else k_ob (fX0_tallsAsChosen σ2) fun r3 σ4 => k_ob (fX3_noLessThan σ4 x1) fun r5 σ6 => some (r5, σ6))))
set_option maxRecDepth 100000 in
set_option maxHeartbeats 4000000 in
theorem kX6_bishop {D : va_G} {cI : ClassId} {q : Nat → Nat} {σ : k_S} {x1 : Int32} {r : Int32} {τ : k_S} (h : fX6_bishop σ x1 = some (r, τ)) : k_Ct k_ei yX6_bishop cX6_bishop 2 (some .int) rmX6_bishop (cT cI q) D cI [.ref (q 0), .int x1] σ r τ := by
  refine k_met (Y := YX6_bishop) (cT_same _ _) (by decide) rfl (Nat.le_of_ble_eq_true rfl) (List.forall_mem_cons.mpr ⟨rfl, List.forall_mem_cons.mpr ⟨rfl, fun _ h => absurd h List.not_mem_nil⟩⟩) (fun X hD hI => ?_) h
  subst hD hI
  show KO X YX6_bishop (cT (k_I X) q) 0 0 (k_Q k_ei X (cT (k_I X) q)) 0 [some (.ref (q 0)), some (.int x1)] [] σ _
  unfold fX6_bishop
  refine k_iload_n (pc := 0) dX6_bishop_0 rfl ?_
  refine k_if_lt (pc := 1) 11 dX6_bishop_1 (by decide) ?_ ?_
  · refine k_bipush (pc := 11) (v := (k_ng 2)) dX6_bishop_11 (by decide) ?_
    exact k_ireturn (pc := 13) rfl dX6_bishop_13
  · refine k_iload_n (pc := 4) dX6_bishop_4 rfl ?_
    refine k_sipush (pc := 5) (v := (nI 999)) dX6_bishop_5 (by decide) ?_
    refine k_icmp_le (pc := 8) 14 dX6_bishop_8 (by decide) ?_ ?_
    · refine k_aload_n (pc := 14) dX6_bishop_14 rfl ?_
      refine k_gTX6_house (pc := 15) kwf_X6_28 rfl dX6_bishop_15 ?_
      refine k_vi0 (pc := 18) (cT_same _ _) ckX0_isOpen kwm_X6_125 cT_rv3 ⟨rfl, rfl⟩ ⟨Nat.le_of_ble_eq_true rfl, Nat.le_of_ble_eq_true rfl⟩ ⟨Nat.zero_le _, Nat.zero_le _⟩ (Nat.le_of_ble_eq_true rfl) dX6_bishop_18 (fun _ _ hf => kX0_isOpen hf) (fun r1 σ2 => ?_)
      refine k_if_ne (pc := 21) 27 dX6_bishop_21 (by decide) ?_ ?_
      · refine k_aload_n (pc := 27) dX6_bishop_27 rfl ?_
        refine k_gTX6_house (pc := 28) kwf_X6_28 rfl dX6_bishop_28 ?_
        refine k_aload_n (pc := 31) dX6_bishop_31 rfl ?_
        refine k_gTX6_talls (pc := 32) kwf_X6_35 rfl dX6_bishop_32 ?_
        refine k_vv1 (pc := 35) (cT_same _ _) ckX0_tallsAsChosen kwm_X6_141 cT_rv3 ⟨rfl, rfl⟩ ⟨Nat.le_of_ble_eq_true rfl, Nat.le_of_ble_eq_true rfl⟩ ⟨Nat.zero_le _, Nat.zero_le _⟩ (Nat.le_of_ble_eq_true rfl) dX6_bishop_35 (fun _ _ hf => kX0_tallsAsChosen hf) (fun r3 σ4 => ?_)
        refine k_aload_n (pc := 38) dX6_bishop_38 rfl ?_
        refine k_gTX6_talls (pc := 39) kwf_X6_35 rfl dX6_bishop_39 ?_
        refine k_iload_n (pc := 42) dX6_bishop_42 rfl ?_
        refine k_vi1 (pc := 43) (cT_same _ _) ckX3_noLessThan kwm_X6_182 cT_rv4 ⟨rfl, rfl⟩ ⟨Nat.le_of_ble_eq_true rfl, Nat.le_of_ble_eq_true rfl⟩ ⟨Nat.zero_le _, Nat.zero_le _⟩ (Nat.le_of_ble_eq_true rfl) dX6_bishop_43 (fun _ _ hf => kX3_noLessThan hf) (fun r5 σ6 => ?_)
        exact k_ireturn (pc := 46) rfl dX6_bishop_46
      · refine k_bipush (pc := 24) (v := (k_ng 3)) dX6_bishop_24 (by decide) ?_
        exact k_ireturn (pc := 26) rfl dX6_bishop_26
    · refine k_bipush (pc := 11) (v := (k_ng 2)) dX6_bishop_11 (by decide) ?_
      exact k_ireturn (pc := 13) rfl dX6_bishop_13
-- TallTales$Rests.ownAfter(II)I
theorem ckX1_ownAfter : k_Vok yX1_ownAfter cX1_ownAfter 4 (some .int) 2 := ⟨kwk_X1_ownAfter, kwi_X1_ownAfter, kwv_X1_ownAfter, kwn_X1, by decide, by decide +kernel⟩
abbrev rmX1_ownAfter : Room := { frames := 2, cells := 0, slots := 0, locals := 45 }
abbrev YX1_ownAfter : k_Y := (rmX1_ownAfter, cX1_ownAfter, 4, RX1, (some .int))
noncomputable def fX1_ownAfter_c45 (kh8 : k_S → Int32 → Int32 → Option (Int32 × k_S)) (σ : k_S) (l1 l3 : Int32) : Option (Int32 × k_S) := k_bn (l3 + (nI 1)) fun v1 => kh8 σ l1 v1
set_option maxRecDepth 100000 in
set_option maxHeartbeats 4000000 in
theorem kX1_ownAfter_c45 {X : k_C} {q : Nat → Nat} (kh8 : k_S → Int32 → Int32 → Option (Int32 × k_S)) (hk8 : ∀ (σ : k_S) (l1 l3 : Int32), KO X YX1_ownAfter (cT (k_I X) q) 0 0 (k_Q k_ei X (cT (k_I X) q)) 8 [some (.ref (q 5)), some (.int l1), none, some (.int l3)] [] σ (kh8 σ l1 l3)) (σ : k_S) (l1 l3 : Int32) : KO X YX1_ownAfter (cT (k_I X) q) 0 0 (k_Q k_ei X (cT (k_I X) q)) 45 [some (.ref (q 5)), some (.int l1), none, some (.int l3)] [] σ (fX1_ownAfter_c45 kh8 σ l1 l3) := by
  unfold fX1_ownAfter_c45
  refine k_iinc3 (pc := 45) (w := (nI 1)) dX1_ownAfter_45 rfl (by decide) (Nat.le_of_ble_eq_true rfl) (fun v1 => ?_)
  refine k_goto (pc := 48) 8 dX1_ownAfter_48 (by decide) ?_
  exact hk8 σ l1 v1
noncomputable def fX1_ownAfter_c8 : Nat → k_S → Int32 → Int32 → Option (Int32 × k_S)
  | 0, _, _, _ => none
  | n + 1, σ, l1, l3 => (if l3 < σ.1 4 then k_gd (l3) 10 ((if σ.2 6 (Int32.toNatClampNeg (l3)) = l1 then k_ob (fX0_isTellable σ l3) fun r1 σ2 => (if r1 = 0 then fX1_ownAfter_c45 (fX1_ownAfter_c8 n) σ2 l1 l3 else some (l3, σ2)) else fX1_ownAfter_c45 (fX1_ownAfter_c8 n) σ l1 l3)) else some ((k_ng 9), σ))
theorem fX1_ownAfter_c8_s (n : Nat) (σ : k_S) (l1 l3 : Int32) : fX1_ownAfter_c8 (n + 1) σ l1 l3 = (if l3 < σ.1 4 then k_gd (l3) 10 ((if σ.2 6 (Int32.toNatClampNeg (l3)) = l1 then k_ob (fX0_isTellable σ l3) fun r1 σ2 => (if r1 = 0 then fX1_ownAfter_c45 (fX1_ownAfter_c8 n) σ2 l1 l3 else some (l3, σ2)) else fX1_ownAfter_c45 (fX1_ownAfter_c8 n) σ l1 l3)) else some ((k_ng 9), σ)) := rfl
set_option maxRecDepth 100000 in
set_option maxHeartbeats 4000000 in
theorem kX1_ownAfter_c8 {X : k_C} {q : Nat → Nat} : ∀ (n : Nat) (σ : k_S) (l1 l3 : Int32), KO X YX1_ownAfter (cT (k_I X) q) 0 0 (k_Q k_ei X (cT (k_I X) q)) 8 [some (.ref (q 5)), some (.int l1), none, some (.int l3)] [] σ (fX1_ownAfter_c8 n σ l1 l3) := by
  intro n
  induction n with
  | zero => intros; exact KO.nil
  | succ n ih =>
    intro σ l1 l3
    rw [fX1_ownAfter_c8_s]
    refine k_iload_n (pc := 8) dX1_ownAfter_8 rfl ?_
    refine k_aload_n (pc := 9) dX1_ownAfter_9 rfl ?_
    refine k_gTX1_house (pc := 10) kwf_X1_18 rfl dX1_ownAfter_10 ?_
    refine k_gTX0_tales (pc := 13) kwf_X1_60 rfl dX1_ownAfter_13 ?_
    refine k_icmp_ge (pc := 16) 51 dX1_ownAfter_16 (by decide) ?_ ?_
    · refine k_bipush (pc := 51) (v := (k_ng 9)) dX1_ownAfter_51 (by decide) ?_
      exact k_ireturn (pc := 53) rfl dX1_ownAfter_53
    · refine k_aload_n (pc := 19) dX1_ownAfter_19 rfl ?_
      refine k_gTX1_house (pc := 20) kwf_X1_18 rfl dX1_ownAfter_20 ?_
      refine k_gTX0_owners (pc := 23) kwf_X1_63 rfl dX1_ownAfter_23 ?_
      refine k_iload_n (pc := 26) dX1_ownAfter_26 rfl ?_
      refine k_lT13 (pc := 27) dX1_ownAfter_27 ?_
      refine k_iload_n (pc := 28) dX1_ownAfter_28 rfl ?_
      refine k_icmp_ne (pc := 29) 45 dX1_ownAfter_29 (by decide) ?_ ?_
      · exact kX1_ownAfter_c45 (fX1_ownAfter_c8 n) ih σ l1 l3
      · refine k_aload_n (pc := 32) dX1_ownAfter_32 rfl ?_
        refine k_gTX1_house (pc := 33) kwf_X1_18 rfl dX1_ownAfter_33 ?_
        refine k_iload_n (pc := 36) dX1_ownAfter_36 rfl ?_
        refine k_vi1 (pc := 37) (cT_same _ _) ckX0_isTellable kwm_X1_66 cT_rv3 ⟨rfl, rfl⟩ ⟨Nat.le_of_ble_eq_true rfl, Nat.le_of_ble_eq_true rfl⟩ ⟨Nat.zero_le _, Nat.zero_le _⟩ (Nat.le_of_ble_eq_true rfl) dX1_ownAfter_37 (fun _ _ hf => kX0_isTellable hf) (fun r1 σ2 => ?_)
        refine k_if_eq (pc := 40) 45 dX1_ownAfter_40 (by decide) ?_ ?_
        · exact kX1_ownAfter_c45 (fX1_ownAfter_c8 n) ih σ2 l1 l3
        · refine k_iload_n (pc := 43) dX1_ownAfter_43 rfl ?_
          exact k_ireturn (pc := 44) rfl dX1_ownAfter_44
noncomputable def fX1_ownAfter (σ : k_S) (x1 x2 : Int32) : Option (Int32 × k_S) := k_bn ((k_mx ((x2 + (nI 1))) ((nI 0)))) fun v1 => fX1_ownAfter_c8 k_F σ x1 v1
set_option maxRecDepth 100000 in
set_option maxHeartbeats 4000000 in
theorem kX1_ownAfter {D : va_G} {cI : ClassId} {q : Nat → Nat} {σ : k_S} {x1 x2 : Int32} {r : Int32} {τ : k_S} (h : fX1_ownAfter σ x1 x2 = some (r, τ)) : k_Ct k_ei yX1_ownAfter cX1_ownAfter 4 (some .int) rmX1_ownAfter (cT cI q) D cI [.ref (q 5), .int x1, .int x2] σ r τ := by
  refine k_met (Y := YX1_ownAfter) (cT_same _ _) (by decide) rfl (Nat.le_of_ble_eq_true rfl) (List.forall_mem_cons.mpr ⟨rfl, List.forall_mem_cons.mpr ⟨rfl, List.forall_mem_cons.mpr ⟨rfl, fun _ h => absurd h List.not_mem_nil⟩⟩⟩) (fun X hD hI => ?_) h
  subst hD hI
  show KO X YX1_ownAfter (cT (k_I X) q) 0 0 (k_Q k_ei X (cT (k_I X) q)) 0 [some (.ref (q 5)), some (.int x1), some (.int x2), none] [] σ _
  unfold fX1_ownAfter
  refine k_iload_n (pc := 0) dX1_ownAfter_0 rfl ?_
  refine k_iconst (pc := 1) (v := (nI 1)) dX1_ownAfter_1 (by decide) ?_
  refine k_iadd (pc := 2) dX1_ownAfter_2 ?_
  refine k_iconst (pc := 3) (v := (nI 0)) dX1_ownAfter_3 (by decide) ?_
  refine k_max (pc := 4) kwm_X1_55 ⟨Nat.le_of_ble_eq_true rfl, Nat.le_of_ble_eq_true rfl⟩ ⟨Nat.zero_le _, Nat.zero_le _⟩ dX1_ownAfter_4 ?_
  refine k_ist3 (pc := 7) dX1_ownAfter_7 (Nat.le_of_ble_eq_true rfl) (fun v1 => ?_)
  refine k_fg2 ?_
  exact kX1_ownAfter_c8 k_F σ x1 v1
-- TallTales$Rests.canDoBetter(I)Z
theorem ckX1_canDoBetter : k_Vok yX1_canDoBetter cX1_canDoBetter 4 (some .boolean) 1 := ⟨kwk_X1_canDoBetter, kwi_X1_canDoBetter, kwv_X1_canDoBetter, kwn_X1, by decide, by decide +kernel⟩
abbrev rmX1_canDoBetter : Room := { frames := 3, cells := 0, slots := 0, locals := 69 }
abbrev YX1_canDoBetter : k_Y := (rmX1_canDoBetter, cX1_canDoBetter, 4, RX1, (some .boolean))
noncomputable def fX1_canDoBetter_c69 (kh20 : k_S → Int32 → Int32 → Int32 → Option (Int32 × k_S)) (σ : k_S) (l1 l2 l3 : Int32) : Option (Int32 × k_S) := k_bn (l3 + (nI 1)) fun v1 => kh20 σ l1 l2 v1
set_option maxRecDepth 100000 in
set_option maxHeartbeats 4000000 in
theorem kX1_canDoBetter_c69 {X : k_C} {q : Nat → Nat} (kh20 : k_S → Int32 → Int32 → Int32 → Option (Int32 × k_S)) (hk20 : ∀ (σ : k_S) (l1 l2 l3 : Int32), KO X YX1_canDoBetter (cT (k_I X) q) 0 0 (k_Q k_ei X (cT (k_I X) q)) 20 [some (.ref (q 5)), some (.int l1), some (.int l2), some (.int l3)] [] σ (kh20 σ l1 l2 l3)) (σ : k_S) (l1 l2 l3 : Int32) : KO X YX1_canDoBetter (cT (k_I X) q) 0 0 (k_Q k_ei X (cT (k_I X) q)) 69 [some (.ref (q 5)), some (.int l1), some (.int l2), some (.int l3)] [] σ (fX1_canDoBetter_c69 kh20 σ l1 l2 l3) := by
  unfold fX1_canDoBetter_c69
  refine k_iinc3 (pc := 69) (w := (nI 1)) dX1_canDoBetter_69 rfl (by decide) (Nat.le_of_ble_eq_true rfl) (fun v1 => ?_)
  refine k_goto (pc := 72) 20 dX1_canDoBetter_72 (by decide) ?_
  exact hk20 σ l1 l2 v1
noncomputable def fX1_canDoBetter_c20 : Nat → k_S → Int32 → Int32 → Int32 → Option (Int32 × k_S)
  | 0, _, _, _, _ => none
  | n + 1, σ, l1, l2, l3 => (if l3 < σ.1 4 then k_ob (fX0_isOffered σ l1 l3 ((nI 0))) fun r1 σ2 => (if r1 = 0 then fX1_canDoBetter_c69 (fX1_canDoBetter_c20 n) σ2 l1 l2 l3 else k_ob (fX0_tallOf σ2 l3) fun r3 σ4 => k_ob (fX3_placeOf σ4 l1 r3) fun r5 σ6 => (if r5 < l2 then k_z ((nI 1)) (some ((nI 1), σ6)) else fX1_canDoBetter_c69 (fX1_canDoBetter_c20 n) σ6 l1 l2 l3)) else k_z ((nI 0)) (some ((nI 0), σ)))
theorem fX1_canDoBetter_c20_s (n : Nat) (σ : k_S) (l1 l2 l3 : Int32) : fX1_canDoBetter_c20 (n + 1) σ l1 l2 l3 = (if l3 < σ.1 4 then k_ob (fX0_isOffered σ l1 l3 ((nI 0))) fun r1 σ2 => (if r1 = 0 then fX1_canDoBetter_c69 (fX1_canDoBetter_c20 n) σ2 l1 l2 l3 else k_ob (fX0_tallOf σ2 l3) fun r3 σ4 => k_ob (fX3_placeOf σ4 l1 r3) fun r5 σ6 => (if r5 < l2 then k_z ((nI 1)) (some ((nI 1), σ6)) else fX1_canDoBetter_c69 (fX1_canDoBetter_c20 n) σ6 l1 l2 l3)) else k_z ((nI 0)) (some ((nI 0), σ))) := rfl
set_option maxRecDepth 100000 in
set_option maxHeartbeats 4000000 in
theorem kX1_canDoBetter_c20 {X : k_C} {q : Nat → Nat} : ∀ (n : Nat) (σ : k_S) (l1 l2 l3 : Int32), KO X YX1_canDoBetter (cT (k_I X) q) 0 0 (k_Q k_ei X (cT (k_I X) q)) 20 [some (.ref (q 5)), some (.int l1), some (.int l2), some (.int l3)] [] σ (fX1_canDoBetter_c20 n σ l1 l2 l3) := by
  intro n
  induction n with
  | zero => intros; exact KO.nil
  | succ n ih =>
    intro σ l1 l2 l3
    rw [fX1_canDoBetter_c20_s]
    refine k_iload_n (pc := 20) dX1_canDoBetter_20 rfl ?_
    refine k_aload_n (pc := 21) dX1_canDoBetter_21 rfl ?_
    refine k_gTX1_house (pc := 22) kwf_X1_18 rfl dX1_canDoBetter_22 ?_
    refine k_gTX0_tales (pc := 25) kwf_X1_60 rfl dX1_canDoBetter_25 ?_
    refine k_icmp_ge (pc := 28) 75 dX1_canDoBetter_28 (by decide) ?_ ?_
    · refine k_iconst (pc := 75) (v := (nI 0)) dX1_canDoBetter_75 (by decide) ?_
      exact k_zreturn (pc := 76) rfl dX1_canDoBetter_76
    · refine k_aload_n (pc := 31) dX1_canDoBetter_31 rfl ?_
      refine k_gTX1_house (pc := 32) kwf_X1_18 rfl dX1_canDoBetter_32 ?_
      refine k_iload_n (pc := 35) dX1_canDoBetter_35 rfl ?_
      refine k_iload_n (pc := 36) dX1_canDoBetter_36 rfl ?_
      refine k_iconst (pc := 37) (v := (nI 0)) dX1_canDoBetter_37 (by decide) ?_
      refine k_vi3 (pc := 38) (cT_same _ _) ckX0_isOffered kwm_X1_89 cT_rv3 ⟨rfl, rfl⟩ ⟨Nat.le_of_ble_eq_true rfl, Nat.le_of_ble_eq_true rfl⟩ ⟨Nat.zero_le _, Nat.zero_le _⟩ (Nat.le_of_ble_eq_true rfl) dX1_canDoBetter_38 (fun _ _ hf => kX0_isOffered hf) (fun r1 σ2 => ?_)
      refine k_if_ne (pc := 41) 47 dX1_canDoBetter_41 (by decide) ?_ ?_
      · refine k_aload_n (pc := 47) dX1_canDoBetter_47 rfl ?_
        refine k_gTX1_talls (pc := 48) kwf_X1_22 rfl dX1_canDoBetter_48 ?_
        refine k_iload_n (pc := 51) dX1_canDoBetter_51 rfl ?_
        refine k_aload_n (pc := 52) dX1_canDoBetter_52 rfl ?_
        refine k_gTX1_house (pc := 53) kwf_X1_18 rfl dX1_canDoBetter_53 ?_
        refine k_iload_n (pc := 56) dX1_canDoBetter_56 rfl ?_
        refine k_vi1 (pc := 57) (cT_same _ _) ckX0_tallOf kwm_X1_79 cT_rv3 ⟨rfl, rfl⟩ ⟨Nat.le_of_ble_eq_true rfl, Nat.le_of_ble_eq_true rfl⟩ ⟨Nat.zero_le _, Nat.zero_le _⟩ (Nat.le_of_ble_eq_true rfl) dX1_canDoBetter_57 (fun _ _ hf => kX0_tallOf hf) (fun r3 σ4 => ?_)
        refine k_vi2 (pc := 60) (cT_same _ _) ckX3_placeOf kwm_X1_86 cT_rv4 ⟨rfl, rfl⟩ ⟨Nat.le_of_ble_eq_true rfl, Nat.le_of_ble_eq_true rfl⟩ ⟨Nat.zero_le _, Nat.zero_le _⟩ (Nat.le_of_ble_eq_true rfl) dX1_canDoBetter_60 (fun _ _ hf => kX3_placeOf hf) (fun r5 σ6 => ?_)
        refine k_iload_n (pc := 63) dX1_canDoBetter_63 rfl ?_
        refine k_icmp_ge (pc := 64) 69 dX1_canDoBetter_64 (by decide) ?_ ?_
        · exact kX1_canDoBetter_c69 (fX1_canDoBetter_c20 n) ih σ6 l1 l2 l3
        · refine k_iconst (pc := 67) (v := (nI 1)) dX1_canDoBetter_67 (by decide) ?_
          exact k_zreturn (pc := 68) rfl dX1_canDoBetter_68
      · refine k_goto (pc := 44) 69 dX1_canDoBetter_44 (by decide) ?_
        exact kX1_canDoBetter_c69 (fX1_canDoBetter_c20 n) ih σ2 l1 l2 l3
noncomputable def fX1_canDoBetter (σ : k_S) (x1 : Int32) : Option (Int32 × k_S) := k_gd (x1) 5 (k_ob (fX3_placeOf σ x1 (σ.2 14 (Int32.toNatClampNeg (x1)))) fun r1 σ2 => k_bn (r1) fun v3 => k_bn ((nI 0)) fun v4 => fX1_canDoBetter_c20 k_F σ2 x1 v3 v4)
set_option maxRecDepth 100000 in
set_option maxHeartbeats 4000000 in
theorem kX1_canDoBetter {D : va_G} {cI : ClassId} {q : Nat → Nat} {σ : k_S} {x1 : Int32} {r : Int32} {τ : k_S} (h : fX1_canDoBetter σ x1 = some (r, τ)) : k_Ct k_ei yX1_canDoBetter cX1_canDoBetter 4 (some .boolean) rmX1_canDoBetter (cT cI q) D cI [.ref (q 5), .int x1] σ r τ := by
  refine k_met (Y := YX1_canDoBetter) (cT_same _ _) (by decide) rfl (Nat.le_of_ble_eq_true rfl) (List.forall_mem_cons.mpr ⟨rfl, List.forall_mem_cons.mpr ⟨rfl, fun _ h => absurd h List.not_mem_nil⟩⟩) (fun X hD hI => ?_) h
  subst hD hI
  show KO X YX1_canDoBetter (cT (k_I X) q) 0 0 (k_Q k_ei X (cT (k_I X) q)) 0 [some (.ref (q 5)), some (.int x1), none, none] [] σ _
  unfold fX1_canDoBetter
  refine k_aload_n (pc := 0) dX1_canDoBetter_0 rfl ?_
  refine k_gTX1_talls (pc := 1) kwf_X1_22 rfl dX1_canDoBetter_1 ?_
  refine k_iload_n (pc := 4) dX1_canDoBetter_4 rfl ?_
  refine k_aload_n (pc := 5) dX1_canDoBetter_5 rfl ?_
  refine k_gTX1_talls (pc := 6) kwf_X1_22 rfl dX1_canDoBetter_6 ?_
  refine k_gTX3_of (pc := 9) kwf_X1_73 rfl dX1_canDoBetter_9 ?_
  refine k_iload_n (pc := 12) dX1_canDoBetter_12 rfl ?_
  refine k_lT21 (pc := 13) dX1_canDoBetter_13 ?_
  refine k_vi2 (pc := 14) (cT_same _ _) ckX3_placeOf kwm_X1_86 cT_rv4 ⟨rfl, rfl⟩ ⟨Nat.le_of_ble_eq_true rfl, Nat.le_of_ble_eq_true rfl⟩ ⟨Nat.zero_le _, Nat.zero_le _⟩ (Nat.le_of_ble_eq_true rfl) dX1_canDoBetter_14 (fun _ _ hf => kX3_placeOf hf) (fun r1 σ2 => ?_)
  refine k_ist2 (pc := 17) dX1_canDoBetter_17 (Nat.le_of_ble_eq_true rfl) (fun v3 => ?_)
  refine k_iconst (pc := 18) (v := (nI 0)) dX1_canDoBetter_18 (by decide) ?_
  refine k_ist3 (pc := 19) dX1_canDoBetter_19 (Nat.le_of_ble_eq_true rfl) (fun v4 => ?_)
  exact kX1_canDoBetter_c20 k_F σ2 x1 v3 v4
-- TallTales$Rests.isRest()Z
theorem ckX1_isRest : k_Vok yX1_isRest cX1_isRest 2 (some .boolean) 0 := ⟨kwk_X1_isRest, kwi_X1_isRest, kwv_X1_isRest, kwn_X1, by decide, by decide +kernel⟩
abbrev rmX1_isRest : Room := { frames := 4, cells := 0, slots := 0, locals := 92 }
abbrev YX1_isRest : k_Y := (rmX1_isRest, cX1_isRest, 2, RX1, (some .boolean))
noncomputable def fX1_isRest_c68 (kh16 : k_S → Int32 → Option (Int32 × k_S)) (σ : k_S) (l1 s1 s2 : Int32) : Option (Int32 × k_S) := k_gd (s1) 5 (k_bn (k_sa σ 14 (s1) (s2)) fun σ1 => k_bn (l1 + (nI 1)) fun v2 => kh16 σ1 v2)
set_option maxRecDepth 100000 in
set_option maxHeartbeats 4000000 in
theorem kX1_isRest_c68 {X : k_C} {q : Nat → Nat} (kh16 : k_S → Int32 → Option (Int32 × k_S)) (hk16 : ∀ (σ : k_S) (l1 : Int32), KO X YX1_isRest (cT (k_I X) q) 0 0 (k_Q k_ei X (cT (k_I X) q)) 16 [some (.ref (q 5)), some (.int l1)] [] σ (kh16 σ l1)) (σ : k_S) (l1 s1 s2 : Int32) : KO X YX1_isRest (cT (k_I X) q) 0 0 (k_Q k_ei X (cT (k_I X) q)) 68 [some (.ref (q 5)), some (.int l1)] [.int s2, .int s1, .ref (q 21)] σ (fX1_isRest_c68 kh16 σ l1 s1 s2) := by
  unfold fX1_isRest_c68
  refine k_sT21 (pc := 68) dX1_isRest_68 (fun σ1 => ?_)
  refine k_iinc1 (pc := 69) (w := (nI 1)) dX1_isRest_69 rfl (by decide) (Nat.le_of_ble_eq_true rfl) (fun v2 => ?_)
  refine k_goto (pc := 72) 16 dX1_isRest_72 (by decide) ?_
  exact hk16 σ1 v2
noncomputable def fX1_isRest_c77 : Nat → k_S → Int32 → Option (Int32 × k_S)
  | 0, _, _ => none
  | n + 1, σ, l1 => (if l1 < σ.1 3 then k_ob (fX1_canDoBetter σ l1) fun r1 σ2 => (if r1 = 0 then k_bn (l1 + (nI 1)) fun v3 => fX1_isRest_c77 n σ2 v3 else k_z ((nI 0)) (some ((nI 0), σ2))) else k_z ((nI 1)) (some ((nI 1), σ)))
theorem fX1_isRest_c77_s (n : Nat) (σ : k_S) (l1 : Int32) : fX1_isRest_c77 (n + 1) σ l1 = (if l1 < σ.1 3 then k_ob (fX1_canDoBetter σ l1) fun r1 σ2 => (if r1 = 0 then k_bn (l1 + (nI 1)) fun v3 => fX1_isRest_c77 n σ2 v3 else k_z ((nI 0)) (some ((nI 0), σ2))) else k_z ((nI 1)) (some ((nI 1), σ))) := rfl
set_option maxRecDepth 100000 in
set_option maxHeartbeats 4000000 in
theorem kX1_isRest_c77 {X : k_C} {q : Nat → Nat} : ∀ (n : Nat) (σ : k_S) (l1 : Int32), KO X YX1_isRest (cT (k_I X) q) 0 0 (k_Q k_ei X (cT (k_I X) q)) 77 [some (.ref (q 5)), some (.int l1)] [] σ (fX1_isRest_c77 n σ l1) := by
  intro n
  induction n with
  | zero => intros; exact KO.nil
  | succ n ih =>
    intro σ l1
    rw [fX1_isRest_c77_s]
    refine k_iload_n (pc := 77) dX1_isRest_77 rfl ?_
    refine k_aload_n (pc := 78) dX1_isRest_78 rfl ?_
    refine k_gTX1_house (pc := 79) kwf_X1_18 rfl dX1_isRest_79 ?_
    refine k_gTX0_guests (pc := 82) kwf_X1_30 rfl dX1_isRest_82 ?_
    refine k_icmp_ge (pc := 85) 104 dX1_isRest_85 (by decide) ?_ ?_
    · refine k_iconst (pc := 104) (v := (nI 1)) dX1_isRest_104 (by decide) ?_
      exact k_zreturn (pc := 105) rfl dX1_isRest_105
    · refine k_aload_n (pc := 88) dX1_isRest_88 rfl ?_
      refine k_iload_n (pc := 89) dX1_isRest_89 rfl ?_
      refine k_vi1 (pc := 90) (cT_same _ _) ckX1_canDoBetter kwm_X1_83 cT_rv5 ⟨rfl, rfl⟩ ⟨Nat.le_of_ble_eq_true rfl, Nat.le_of_ble_eq_true rfl⟩ ⟨Nat.zero_le _, Nat.zero_le _⟩ (Nat.le_of_ble_eq_true rfl) dX1_isRest_90 (fun _ _ hf => kX1_canDoBetter hf) (fun r1 σ2 => ?_)
      refine k_if_eq (pc := 93) 98 dX1_isRest_93 (by decide) ?_ ?_
      · refine k_iinc1 (pc := 98) (w := (nI 1)) dX1_isRest_98 rfl (by decide) (Nat.le_of_ble_eq_true rfl) (fun v3 => ?_)
        refine k_goto (pc := 101) 77 dX1_isRest_101 (by decide) ?_
        exact ih σ2 v3
      · refine k_iconst (pc := 96) (v := (nI 0)) dX1_isRest_96 (by decide) ?_
        exact k_zreturn (pc := 97) rfl dX1_isRest_97
noncomputable def fX1_isRest_c16 : Nat → k_S → Int32 → Option (Int32 × k_S)
  | 0, _, _ => none
  | n + 1, σ, l1 => (if l1 < σ.1 3 then k_gd (l1) 5 (k_ob (fX0_hasTale σ (σ.2 15 (Int32.toNatClampNeg (l1)))) fun r2 σ3 => (if r2 = 0 then fX1_isRest_c68 (fX1_isRest_c16 n) σ3 l1 l1 ((nI 0)) else k_gd (l1) 5 (k_ob (fX0_tallOf σ3 (σ3.2 15 (Int32.toNatClampNeg (l1)))) fun r4 σ5 => fX1_isRest_c68 (fX1_isRest_c16 n) σ5 l1 l1 r4))) else k_bn ((nI 0)) fun v1 => fX1_isRest_c77 k_F σ v1)
theorem fX1_isRest_c16_s (n : Nat) (σ : k_S) (l1 : Int32) : fX1_isRest_c16 (n + 1) σ l1 = (if l1 < σ.1 3 then k_gd (l1) 5 (k_ob (fX0_hasTale σ (σ.2 15 (Int32.toNatClampNeg (l1)))) fun r2 σ3 => (if r2 = 0 then fX1_isRest_c68 (fX1_isRest_c16 n) σ3 l1 l1 ((nI 0)) else k_gd (l1) 5 (k_ob (fX0_tallOf σ3 (σ3.2 15 (Int32.toNatClampNeg (l1)))) fun r4 σ5 => fX1_isRest_c68 (fX1_isRest_c16 n) σ5 l1 l1 r4))) else k_bn ((nI 0)) fun v1 => fX1_isRest_c77 k_F σ v1) := rfl
set_option maxRecDepth 100000 in
set_option maxHeartbeats 4000000 in
theorem kX1_isRest_c16 {X : k_C} {q : Nat → Nat} : ∀ (n : Nat) (σ : k_S) (l1 : Int32), KO X YX1_isRest (cT (k_I X) q) 0 0 (k_Q k_ei X (cT (k_I X) q)) 16 [some (.ref (q 5)), some (.int l1)] [] σ (fX1_isRest_c16 n σ l1) := by
  intro n
  induction n with
  | zero => intros; exact KO.nil
  | succ n ih =>
    intro σ l1
    rw [fX1_isRest_c16_s]
    refine k_iload_n (pc := 16) dX1_isRest_16 rfl ?_
    refine k_aload_n (pc := 17) dX1_isRest_17 rfl ?_
    refine k_gTX1_house (pc := 18) kwf_X1_18 rfl dX1_isRest_18 ?_
    refine k_gTX0_guests (pc := 21) kwf_X1_30 rfl dX1_isRest_21 ?_
    refine k_icmp_ge (pc := 24) 75 dX1_isRest_24 (by decide) ?_ ?_
    · refine k_iconst (pc := 75) (v := (nI 0)) dX1_isRest_75 (by decide) ?_
      refine k_ist1 (pc := 76) dX1_isRest_76 (Nat.le_of_ble_eq_true rfl) (fun v1 => ?_)
      exact kX1_isRest_c77 k_F σ v1
    · refine k_aload_n (pc := 27) dX1_isRest_27 rfl ?_
      refine k_gTX1_talls (pc := 28) kwf_X1_22 rfl dX1_isRest_28 ?_
      refine k_gTX3_of (pc := 31) kwf_X1_73 rfl dX1_isRest_31 ?_
      refine k_iload_n (pc := 34) dX1_isRest_34 rfl ?_
      refine k_aload_n (pc := 35) dX1_isRest_35 rfl ?_
      refine k_gTX1_house (pc := 36) kwf_X1_18 rfl dX1_isRest_36 ?_
      refine k_aload_n (pc := 39) dX1_isRest_39 rfl ?_
      refine k_gTX1_picks (pc := 40) kwf_X1_9 rfl dX1_isRest_40 ?_
      refine k_iload_n (pc := 43) dX1_isRest_43 rfl ?_
      refine k_lT22 (pc := 44) dX1_isRest_44 ?_
      refine k_vi1 (pc := 45) (cT_same _ _) ckX0_hasTale kwm_X1_76 cT_rv3 ⟨rfl, rfl⟩ ⟨Nat.le_of_ble_eq_true rfl, Nat.le_of_ble_eq_true rfl⟩ ⟨Nat.zero_le _, Nat.zero_le _⟩ (Nat.le_of_ble_eq_true rfl) dX1_isRest_45 (fun _ _ hf => kX0_hasTale hf) (fun r2 σ3 => ?_)
      refine k_if_eq (pc := 48) 67 dX1_isRest_48 (by decide) ?_ ?_
      · refine k_iconst (pc := 67) (v := (nI 0)) dX1_isRest_67 (by decide) ?_
        exact kX1_isRest_c68 (fX1_isRest_c16 n) ih σ3 l1 l1 ((nI 0))
      · refine k_aload_n (pc := 51) dX1_isRest_51 rfl ?_
        refine k_gTX1_house (pc := 52) kwf_X1_18 rfl dX1_isRest_52 ?_
        refine k_aload_n (pc := 55) dX1_isRest_55 rfl ?_
        refine k_gTX1_picks (pc := 56) kwf_X1_9 rfl dX1_isRest_56 ?_
        refine k_iload_n (pc := 59) dX1_isRest_59 rfl ?_
        refine k_lT22 (pc := 60) dX1_isRest_60 ?_
        refine k_vi1 (pc := 61) (cT_same _ _) ckX0_tallOf kwm_X1_79 cT_rv3 ⟨rfl, rfl⟩ ⟨Nat.le_of_ble_eq_true rfl, Nat.le_of_ble_eq_true rfl⟩ ⟨Nat.zero_le _, Nat.zero_le _⟩ (Nat.le_of_ble_eq_true rfl) dX1_isRest_61 (fun _ _ hf => kX0_tallOf hf) (fun r4 σ5 => ?_)
        refine k_goto (pc := 64) 68 dX1_isRest_64 (by decide) ?_
        exact kX1_isRest_c68 (fX1_isRest_c16 n) ih σ5 l1 l1 r4
noncomputable def fX1_isRest (σ : k_S) : Option (Int32 × k_S) := k_bn (k_sf σ 7 (σ.1 3)) fun σ1 => k_bn ((nI 0)) fun v2 => fX1_isRest_c16 k_F σ1 v2
set_option maxRecDepth 100000 in
set_option maxHeartbeats 4000000 in
theorem kX1_isRest {D : va_G} {cI : ClassId} {q : Nat → Nat} {σ : k_S} {r : Int32} {τ : k_S} (h : fX1_isRest σ = some (r, τ)) : k_Ct k_ei yX1_isRest cX1_isRest 2 (some .boolean) rmX1_isRest (cT cI q) D cI [.ref (q 5)] σ r τ := by
  refine k_met (Y := YX1_isRest) (cT_same _ _) (by decide) rfl (Nat.le_of_ble_eq_true rfl) (List.forall_mem_cons.mpr ⟨rfl, fun _ h => absurd h List.not_mem_nil⟩) (fun X hD hI => ?_) h
  subst hD hI
  show KO X YX1_isRest (cT (k_I X) q) 0 0 (k_Q k_ei X (cT (k_I X) q)) 0 [some (.ref (q 5)), none] [] σ _
  unfold fX1_isRest
  refine k_aload_n (pc := 0) dX1_isRest_0 rfl ?_
  refine k_gTX1_talls (pc := 1) kwf_X1_22 rfl dX1_isRest_1 ?_
  refine k_aload_n (pc := 4) dX1_isRest_4 rfl ?_
  refine k_gTX1_house (pc := 5) kwf_X1_18 rfl dX1_isRest_5 ?_
  refine k_gTX0_guests (pc := 8) kwf_X1_30 rfl dX1_isRest_8 ?_
  refine k_pTX3_guests (pc := 11) kwf_X1_70 rfl dX1_isRest_11 (fun σ1 => ?_)
  refine k_iconst (pc := 14) (v := (nI 0)) dX1_isRest_14 (by decide) ?_
  refine k_ist1 (pc := 15) dX1_isRest_15 (Nat.le_of_ble_eq_true rfl) (fun v2 => ?_)
  exact kX1_isRest_c16 k_F σ1 v2
-- TallTales$Rests.keepRest()V
theorem ckX1_keepRest : k_Vok yX1_keepRest cX1_keepRest 1 none 0 := ⟨kwk_X1_keepRest, kwi_X1_keepRest, kwv_X1_keepRest, kwn_X1, by decide, by decide +kernel⟩
abbrev rmX1_keepRest : Room := { frames := 1, cells := 0, slots := 0, locals := 48 }
abbrev YX1_keepRest : k_Y := (rmX1_keepRest, cX1_keepRest, 1, RX1, none)
noncomputable def fX1_keepRest_c21 (σ : k_S) : Option (Unit × k_S) := k_bn (k_sf σ 8 ((σ.1 8 + (nI 1)))) fun σ1 => some ((), σ1)
set_option maxRecDepth 100000 in
set_option maxHeartbeats 4000000 in
theorem kX1_keepRest_c21 {X : k_C} {q : Nat → Nat} (σ : k_S) : KO X YX1_keepRest (cT (k_I X) q) 0 0 (k_Q k_ev X (cT (k_I X) q)) 21 [some (.ref (q 5))] [] σ (fX1_keepRest_c21 σ) := by
  unfold fX1_keepRest_c21
  refine k_aload_n (pc := 21) dX1_keepRest_21 rfl ?_
  refine k_dup (pc := 22) dX1_keepRest_22 rfl ?_
  refine k_gTX1_count (pc := 23) kwf_X1_26 rfl dX1_keepRest_23 ?_
  refine k_iconst (pc := 26) (v := (nI 1)) dX1_keepRest_26 (by decide) ?_
  refine k_iadd (pc := 27) dX1_keepRest_27 ?_
  refine k_pTX1_count (pc := 28) kwf_X1_26 rfl dX1_keepRest_28 (fun σ1 => ?_)
  exact k_return (pc := 31) rfl dX1_keepRest_31
noncomputable def fX1_keepRest (σ : k_S) : Option (Unit × k_S) := (if σ.1 8 = 0 then k_gc ((nI 0)) ((nI 0)) ((nI 5)) 5 5 (k_bn (k_sc σ 15 16 ((nI 0)) ((nI 0)) ((nI 5))) fun σ1 => fX1_keepRest_c21 σ1) else fX1_keepRest_c21 σ)
set_option maxRecDepth 100000 in
set_option maxHeartbeats 4000000 in
theorem kX1_keepRest {D : va_G} {cI : ClassId} {q : Nat → Nat} {σ : k_S} {r : Unit} {τ : k_S} (h : fX1_keepRest σ = some (r, τ)) : k_Ct k_ev yX1_keepRest cX1_keepRest 1 none rmX1_keepRest (cT cI q) D cI [.ref (q 5)] σ r τ := by
  refine k_met (Y := YX1_keepRest) (cT_same _ _) (by decide) rfl (Nat.le_of_ble_eq_true rfl) (List.forall_mem_cons.mpr ⟨rfl, fun _ h => absurd h List.not_mem_nil⟩) (fun X hD hI => ?_) h
  subst hD hI
  show KO X YX1_keepRest (cT (k_I X) q) 0 0 (k_Q k_ev X (cT (k_I X) q)) 0 [some (.ref (q 5))] [] σ _
  unfold fX1_keepRest
  refine k_aload_n (pc := 0) dX1_keepRest_0 rfl ?_
  refine k_gTX1_count (pc := 1) kwf_X1_26 rfl dX1_keepRest_1 ?_
  refine k_if_ne (pc := 4) 21 dX1_keepRest_4 (by decide) ?_ ?_
  · exact kX1_keepRest_c21 σ
  · refine k_aload_n (pc := 7) dX1_keepRest_7 rfl ?_
    refine k_gTX1_picks (pc := 8) kwf_X1_9 rfl dX1_keepRest_8 ?_
    refine k_iconst (pc := 11) (v := (nI 0)) dX1_keepRest_11 (by decide) ?_
    refine k_aload_n (pc := 12) dX1_keepRest_12 rfl ?_
    refine k_gTX1_first (pc := 13) kwf_X1_15 rfl dX1_keepRest_13 ?_
    refine k_iconst (pc := 16) (v := (nI 0)) dX1_keepRest_16 (by decide) ?_
    refine k_iconst (pc := 17) (v := (nI 5)) dX1_keepRest_17 (by decide) ?_
    refine k_cT_22_23 (pc := 18) kwm_X1_49 ⟨Nat.le_of_ble_eq_true rfl, Nat.le_of_ble_eq_true rfl⟩ dX1_keepRest_18 (fun σ1 => ?_)
    exact kX1_keepRest_c21 σ1
-- TallTales$Rests.goOn()Z
theorem ckX1_goOn : k_Vok yX1_goOn cX1_goOn 3 (some .boolean) 0 := ⟨kwk_X1_goOn, kwi_X1_goOn, kwv_X1_goOn, kwn_X1, by decide, by decide +kernel⟩
abbrev rmX1_goOn : Room := { frames := 3, cells := 0, slots := 0, locals := 68 }
abbrev YX1_goOn : k_Y := (rmX1_goOn, cX1_goOn, 3, RX1, (some .boolean))
noncomputable def fX1_goOn_c10 : Nat → k_S → Int32 → Option (Int32 × k_S)
  | 0, _, _ => none
  | n + 1, σ, l1 => (if l1 < 0 then k_z ((nI 0)) (some ((nI 0), σ)) else k_gd (l1) 5 (k_ob (fX1_ownAfter σ l1 (σ.2 15 (Int32.toNatClampNeg (l1)))) fun r1 σ2 => k_bn (r1) fun v3 => (if v3 = (k_ng 9) then k_ob (fX1_ownAfter σ2 l1 ((k_ng 9))) fun r4 σ5 => k_gd (l1) 5 (k_bn (k_sa σ5 15 (l1) (r4)) fun σ6 => k_bn (l1 + (k_ng 1)) fun v7 => fX1_goOn_c10 n σ6 v7) else k_gd (l1) 5 (k_bn (k_sa σ2 15 (l1) (v3)) fun σ8 => k_z ((nI 1)) (some ((nI 1), σ8))))))
theorem fX1_goOn_c10_s (n : Nat) (σ : k_S) (l1 : Int32) : fX1_goOn_c10 (n + 1) σ l1 = (if l1 < 0 then k_z ((nI 0)) (some ((nI 0), σ)) else k_gd (l1) 5 (k_ob (fX1_ownAfter σ l1 (σ.2 15 (Int32.toNatClampNeg (l1)))) fun r1 σ2 => k_bn (r1) fun v3 => (if v3 = (k_ng 9) then k_ob (fX1_ownAfter σ2 l1 ((k_ng 9))) fun r4 σ5 => k_gd (l1) 5 (k_bn (k_sa σ5 15 (l1) (r4)) fun σ6 => k_bn (l1 + (k_ng 1)) fun v7 => fX1_goOn_c10 n σ6 v7) else k_gd (l1) 5 (k_bn (k_sa σ2 15 (l1) (v3)) fun σ8 => k_z ((nI 1)) (some ((nI 1), σ8)))))) := rfl
set_option maxRecDepth 100000 in
set_option maxHeartbeats 4000000 in
theorem kX1_goOn_c10 {X : k_C} {q : Nat → Nat} : ∀ (n : Nat) (σ : k_S) (l1 : Int32), KO X YX1_goOn (cT (k_I X) q) 0 0 (k_Q k_ei X (cT (k_I X) q)) 10 [some (.ref (q 5)), some (.int l1), none] [] σ (fX1_goOn_c10 n σ l1) := by
  intro n
  induction n with
  | zero => intros; exact KO.nil
  | succ n ih =>
    intro σ l1
    rw [fX1_goOn_c10_s]
    refine k_iload_n (pc := 10) dX1_goOn_10 rfl ?_
    refine k_if_lt (pc := 11) 60 dX1_goOn_11 (by decide) ?_ ?_
    · refine k_iconst (pc := 60) (v := (nI 0)) dX1_goOn_60 (by decide) ?_
      exact k_zreturn (pc := 61) rfl dX1_goOn_61
    · refine k_aload_n (pc := 14) dX1_goOn_14 rfl ?_
      refine k_iload_n (pc := 15) dX1_goOn_15 rfl ?_
      refine k_aload_n (pc := 16) dX1_goOn_16 rfl ?_
      refine k_gTX1_picks (pc := 17) kwf_X1_9 rfl dX1_goOn_17 ?_
      refine k_iload_n (pc := 20) dX1_goOn_20 rfl ?_
      refine k_lT22 (pc := 21) dX1_goOn_21 ?_
      refine k_vi2 (pc := 22) (cT_same _ _) ckX1_ownAfter kwm_X1_35 cT_rv5 ⟨rfl, rfl⟩ ⟨Nat.le_of_ble_eq_true rfl, Nat.le_of_ble_eq_true rfl⟩ ⟨Nat.zero_le _, Nat.zero_le _⟩ (Nat.le_of_ble_eq_true rfl) dX1_goOn_22 (fun _ _ hf => kX1_ownAfter hf) (fun r1 σ2 => ?_)
      refine k_ist2 (pc := 25) dX1_goOn_25 (Nat.le_of_ble_eq_true rfl) (fun v3 => ?_)
      refine k_iload_n (pc := 26) dX1_goOn_26 rfl ?_
      refine k_bipush (pc := 27) (v := (k_ng 9)) dX1_goOn_27 (by decide) ?_
      refine k_icmp_eq (pc := 29) 41 dX1_goOn_29 (by decide) ?_ ?_
      · refine k_aload_n (pc := 41) dX1_goOn_41 rfl ?_
        refine k_gTX1_picks (pc := 42) kwf_X1_9 rfl dX1_goOn_42 ?_
        refine k_iload_n (pc := 45) dX1_goOn_45 rfl ?_
        refine k_aload_n (pc := 46) dX1_goOn_46 rfl ?_
        refine k_iload_n (pc := 47) dX1_goOn_47 rfl ?_
        refine k_bipush (pc := 48) (v := (k_ng 9)) dX1_goOn_48 (by decide) ?_
        refine k_vi2 (pc := 50) (cT_same _ _) ckX1_ownAfter kwm_X1_35 cT_rv5 ⟨rfl, rfl⟩ ⟨Nat.le_of_ble_eq_true rfl, Nat.le_of_ble_eq_true rfl⟩ ⟨Nat.zero_le _, Nat.zero_le _⟩ (Nat.le_of_ble_eq_true rfl) dX1_goOn_50 (fun _ _ hf => kX1_ownAfter hf) (fun r4 σ5 => ?_)
        refine k_sT22 (pc := 53) dX1_goOn_53 (fun σ6 => ?_)
        refine k_iinc1 (pc := 54) (w := (k_ng 1)) dX1_goOn_54 rfl (by decide) (Nat.le_of_ble_eq_true rfl) (fun v7 => ?_)
        refine k_goto (pc := 57) 10 dX1_goOn_57 (by decide) ?_
        refine k_fg2 ?_
        exact ih σ6 v7
      · refine k_aload_n (pc := 32) dX1_goOn_32 rfl ?_
        refine k_gTX1_picks (pc := 33) kwf_X1_9 rfl dX1_goOn_33 ?_
        refine k_iload_n (pc := 36) dX1_goOn_36 rfl ?_
        refine k_iload_n (pc := 37) dX1_goOn_37 rfl ?_
        refine k_sT22 (pc := 38) dX1_goOn_38 (fun σ8 => ?_)
        refine k_iconst (pc := 39) (v := (nI 1)) dX1_goOn_39 (by decide) ?_
        exact k_zreturn (pc := 40) rfl dX1_goOn_40
noncomputable def fX1_goOn (σ : k_S) : Option (Int32 × k_S) := k_bn ((σ.1 3 - (nI 1))) fun v1 => fX1_goOn_c10 k_F σ v1
set_option maxRecDepth 100000 in
set_option maxHeartbeats 4000000 in
theorem kX1_goOn {D : va_G} {cI : ClassId} {q : Nat → Nat} {σ : k_S} {r : Int32} {τ : k_S} (h : fX1_goOn σ = some (r, τ)) : k_Ct k_ei yX1_goOn cX1_goOn 3 (some .boolean) rmX1_goOn (cT cI q) D cI [.ref (q 5)] σ r τ := by
  refine k_met (Y := YX1_goOn) (cT_same _ _) (by decide) rfl (Nat.le_of_ble_eq_true rfl) (List.forall_mem_cons.mpr ⟨rfl, fun _ h => absurd h List.not_mem_nil⟩) (fun X hD hI => ?_) h
  subst hD hI
  show KO X YX1_goOn (cT (k_I X) q) 0 0 (k_Q k_ei X (cT (k_I X) q)) 0 [some (.ref (q 5)), none, none] [] σ _
  unfold fX1_goOn
  refine k_aload_n (pc := 0) dX1_goOn_0 rfl ?_
  refine k_gTX1_house (pc := 1) kwf_X1_18 rfl dX1_goOn_1 ?_
  refine k_gTX0_guests (pc := 4) kwf_X1_30 rfl dX1_goOn_4 ?_
  refine k_iconst (pc := 7) (v := (nI 1)) dX1_goOn_7 (by decide) ?_
  refine k_isub (pc := 8) dX1_goOn_8 ?_
  refine k_ist1 (pc := 9) dX1_goOn_9 (Nat.le_of_ble_eq_true rfl) (fun v1 => ?_)
  exact kX1_goOn_c10 k_F σ v1
-- TallTales$Rests.find()V
theorem ckX1_find : k_Vok yX1_find cX1_find 3 none 0 := ⟨kwk_X1_find, kwi_X1_find, kwv_X1_find, kwn_X1, by decide, by decide +kernel⟩
abbrev rmX1_find : Room := { frames := 5, cells := 0, slots := 0, locals := 113 }
abbrev YX1_find : k_Y := (rmX1_find, cX1_find, 3, RX1, none)
noncomputable def fX1_find_c63 (kh41 : k_S → Int32 → Int32 → Option (Unit × k_S)) (σ : k_S) (l2 : Int32) : Option (Unit × k_S) := k_ob (fX1_goOn σ) fun r1 σ2 => k_bn (r1) fun v3 => k_bn (l2 + (nI 1)) fun v4 => kh41 σ2 v3 v4
set_option maxRecDepth 100000 in
set_option maxHeartbeats 4000000 in
theorem kX1_find_c63 {X : k_C} {q : Nat → Nat} (kh41 : k_S → Int32 → Int32 → Option (Unit × k_S)) (hk41 : ∀ (σ : k_S) (l1 l2 : Int32), KO X YX1_find (cT (k_I X) q) 0 0 (k_Q k_ev X (cT (k_I X) q)) 41 [some (.ref (q 5)), some (.int l1), some (.int l2)] [] σ (kh41 σ l1 l2)) (σ : k_S) (l2 : Int32) : KO X YX1_find (cT (k_I X) q) 0 0 (k_Q k_ev X (cT (k_I X) q)) 63 [some (.ref (q 5)), none, some (.int l2)] [] σ (fX1_find_c63 kh41 σ l2) := by
  unfold fX1_find_c63
  refine k_aload_n (pc := 63) dX1_find_63 rfl ?_
  refine k_vi0 (pc := 64) (cT_same _ _) ckX1_goOn kwm_X1_46 cT_rv5 ⟨rfl, rfl⟩ ⟨Nat.le_of_ble_eq_true rfl, Nat.le_of_ble_eq_true rfl⟩ ⟨Nat.zero_le _, Nat.zero_le _⟩ (Nat.le_of_ble_eq_true rfl) dX1_find_64 (fun _ _ hf => kX1_goOn hf) (fun r1 σ2 => ?_)
  refine k_ist1 (pc := 67) dX1_find_67 (Nat.le_of_ble_eq_true rfl) (fun v3 => ?_)
  refine k_iinc2 (pc := 68) (w := (nI 1)) dX1_find_68 rfl (by decide) (Nat.le_of_ble_eq_true rfl) (fun v4 => ?_)
  refine k_goto (pc := 71) 41 dX1_find_71 (by decide) ?_
  exact hk41 σ2 v3 v4
noncomputable def fX1_find_c41 : Nat → k_S → Int32 → Int32 → Option (Unit × k_S)
  | 0, _, _, _ => none
  | n + 1, σ, l1, l2 => (if l1 = 0 then some ((), σ) else (if l2 < (nI 1000) then k_ob (fX1_isRest σ) fun r1 σ2 => (if r1 = 0 then fX1_find_c63 (fX1_find_c41 n) σ2 l2 else k_ob (fX1_keepRest σ2) fun r3 σ4 => fX1_find_c63 (fX1_find_c41 n) σ4 l2) else some ((), σ)))
theorem fX1_find_c41_s (n : Nat) (σ : k_S) (l1 l2 : Int32) : fX1_find_c41 (n + 1) σ l1 l2 = (if l1 = 0 then some ((), σ) else (if l2 < (nI 1000) then k_ob (fX1_isRest σ) fun r1 σ2 => (if r1 = 0 then fX1_find_c63 (fX1_find_c41 n) σ2 l2 else k_ob (fX1_keepRest σ2) fun r3 σ4 => fX1_find_c63 (fX1_find_c41 n) σ4 l2) else some ((), σ))) := rfl
set_option maxRecDepth 100000 in
set_option maxHeartbeats 4000000 in
theorem kX1_find_c41 {X : k_C} {q : Nat → Nat} : ∀ (n : Nat) (σ : k_S) (l1 l2 : Int32), KO X YX1_find (cT (k_I X) q) 0 0 (k_Q k_ev X (cT (k_I X) q)) 41 [some (.ref (q 5)), some (.int l1), some (.int l2)] [] σ (fX1_find_c41 n σ l1 l2) := by
  intro n
  induction n with
  | zero => intros; exact KO.nil
  | succ n ih =>
    intro σ l1 l2
    rw [fX1_find_c41_s]
    refine k_iload_n (pc := 41) dX1_find_41 rfl ?_
    refine k_if_eq (pc := 42) 74 dX1_find_42 (by decide) ?_ ?_
    · exact k_return (pc := 74) rfl dX1_find_74
    · refine k_iload_n (pc := 45) dX1_find_45 rfl ?_
      refine k_sipush (pc := 46) (v := (nI 1000)) dX1_find_46 (by decide) ?_
      refine k_icmp_ge (pc := 49) 74 dX1_find_49 (by decide) ?_ ?_
      · exact k_return (pc := 74) rfl dX1_find_74
      · refine k_aload_n (pc := 52) dX1_find_52 rfl ?_
        refine k_vi0 (pc := 53) (cT_same _ _) ckX1_isRest kwm_X1_39 cT_rv5 ⟨rfl, rfl⟩ ⟨Nat.le_of_ble_eq_true rfl, Nat.le_of_ble_eq_true rfl⟩ ⟨Nat.zero_le _, Nat.zero_le _⟩ (Nat.le_of_ble_eq_true rfl) dX1_find_53 (fun _ _ hf => kX1_isRest hf) (fun r1 σ2 => ?_)
        refine k_if_eq (pc := 56) 63 dX1_find_56 (by decide) ?_ ?_
        · refine k_fg1 ?_
          exact kX1_find_c63 (fX1_find_c41 n) ih σ2 l2
        · refine k_aload_n (pc := 59) dX1_find_59 rfl ?_
          refine k_vv0 (pc := 60) (cT_same _ _) ckX1_keepRest kwm_X1_43 cT_rv5 ⟨rfl, rfl⟩ ⟨Nat.le_of_ble_eq_true rfl, Nat.le_of_ble_eq_true rfl⟩ ⟨Nat.zero_le _, Nat.zero_le _⟩ (Nat.le_of_ble_eq_true rfl) dX1_find_60 (fun _ _ hf => kX1_keepRest hf) (fun r3 σ4 => ?_)
          refine k_fg1 ?_
          exact kX1_find_c63 (fX1_find_c41 n) ih σ4 l2
noncomputable def fX1_find_c7 : Nat → k_S → Int32 → Option (Unit × k_S)
  | 0, _, _ => none
  | n + 1, σ, l1 => (if l1 < σ.1 3 then k_ob (fX1_ownAfter σ l1 ((k_ng 9))) fun r3 σ4 => k_gd (l1) 5 (k_bn (k_sa σ4 15 (l1) (r3)) fun σ5 => k_bn (l1 + (nI 1)) fun v6 => fX1_find_c7 n σ5 v6) else k_bn ((nI 1)) fun v1 => k_bn ((nI 0)) fun v2 => fX1_find_c41 k_F σ v1 v2)
theorem fX1_find_c7_s (n : Nat) (σ : k_S) (l1 : Int32) : fX1_find_c7 (n + 1) σ l1 = (if l1 < σ.1 3 then k_ob (fX1_ownAfter σ l1 ((k_ng 9))) fun r3 σ4 => k_gd (l1) 5 (k_bn (k_sa σ4 15 (l1) (r3)) fun σ5 => k_bn (l1 + (nI 1)) fun v6 => fX1_find_c7 n σ5 v6) else k_bn ((nI 1)) fun v1 => k_bn ((nI 0)) fun v2 => fX1_find_c41 k_F σ v1 v2) := rfl
set_option maxRecDepth 100000 in
set_option maxHeartbeats 4000000 in
theorem kX1_find_c7 {X : k_C} {q : Nat → Nat} : ∀ (n : Nat) (σ : k_S) (l1 : Int32), KO X YX1_find (cT (k_I X) q) 0 0 (k_Q k_ev X (cT (k_I X) q)) 7 [some (.ref (q 5)), some (.int l1), none] [] σ (fX1_find_c7 n σ l1) := by
  intro n
  induction n with
  | zero => intros; exact KO.nil
  | succ n ih =>
    intro σ l1
    rw [fX1_find_c7_s]
    refine k_iload_n (pc := 7) dX1_find_7 rfl ?_
    refine k_aload_n (pc := 8) dX1_find_8 rfl ?_
    refine k_gTX1_house (pc := 9) kwf_X1_18 rfl dX1_find_9 ?_
    refine k_gTX0_guests (pc := 12) kwf_X1_30 rfl dX1_find_12 ?_
    refine k_icmp_ge (pc := 15) 37 dX1_find_15 (by decide) ?_ ?_
    · refine k_iconst (pc := 37) (v := (nI 1)) dX1_find_37 (by decide) ?_
      refine k_ist1 (pc := 38) dX1_find_38 (Nat.le_of_ble_eq_true rfl) (fun v1 => ?_)
      refine k_iconst (pc := 39) (v := (nI 0)) dX1_find_39 (by decide) ?_
      refine k_ist2 (pc := 40) dX1_find_40 (Nat.le_of_ble_eq_true rfl) (fun v2 => ?_)
      exact kX1_find_c41 k_F σ v1 v2
    · refine k_aload_n (pc := 18) dX1_find_18 rfl ?_
      refine k_gTX1_picks (pc := 19) kwf_X1_9 rfl dX1_find_19 ?_
      refine k_iload_n (pc := 22) dX1_find_22 rfl ?_
      refine k_aload_n (pc := 23) dX1_find_23 rfl ?_
      refine k_iload_n (pc := 24) dX1_find_24 rfl ?_
      refine k_bipush (pc := 25) (v := (k_ng 9)) dX1_find_25 (by decide) ?_
      refine k_vi2 (pc := 27) (cT_same _ _) ckX1_ownAfter kwm_X1_35 cT_rv5 ⟨rfl, rfl⟩ ⟨Nat.le_of_ble_eq_true rfl, Nat.le_of_ble_eq_true rfl⟩ ⟨Nat.zero_le _, Nat.zero_le _⟩ (Nat.le_of_ble_eq_true rfl) dX1_find_27 (fun _ _ hf => kX1_ownAfter hf) (fun r3 σ4 => ?_)
      refine k_sT22 (pc := 30) dX1_find_30 (fun σ5 => ?_)
      refine k_iinc1 (pc := 31) (w := (nI 1)) dX1_find_31 rfl (by decide) (Nat.le_of_ble_eq_true rfl) (fun v6 => ?_)
      refine k_goto (pc := 34) 7 dX1_find_34 (by decide) ?_
      exact ih σ5 v6
noncomputable def fX1_find (σ : k_S) : Option (Unit × k_S) := k_bn (k_sf σ 8 ((nI 0))) fun σ1 => k_bn ((nI 0)) fun v2 => fX1_find_c7 k_F σ1 v2
set_option maxRecDepth 100000 in
set_option maxHeartbeats 4000000 in
theorem kX1_find {D : va_G} {cI : ClassId} {q : Nat → Nat} {σ : k_S} {r : Unit} {τ : k_S} (h : fX1_find σ = some (r, τ)) : k_Ct k_ev yX1_find cX1_find 3 none rmX1_find (cT cI q) D cI [.ref (q 5)] σ r τ := by
  refine k_met (Y := YX1_find) (cT_same _ _) (by decide) rfl (Nat.le_of_ble_eq_true rfl) (List.forall_mem_cons.mpr ⟨rfl, fun _ h => absurd h List.not_mem_nil⟩) (fun X hD hI => ?_) h
  subst hD hI
  show KO X YX1_find (cT (k_I X) q) 0 0 (k_Q k_ev X (cT (k_I X) q)) 0 [some (.ref (q 5)), none, none] [] σ _
  unfold fX1_find
  refine k_aload_n (pc := 0) dX1_find_0 rfl ?_
  refine k_iconst (pc := 1) (v := (nI 0)) dX1_find_1 (by decide) ?_
  refine k_pTX1_count (pc := 2) kwf_X1_26 rfl dX1_find_2 (fun σ1 => ?_)
  refine k_iconst (pc := 5) (v := (nI 0)) dX1_find_5 (by decide) ?_
  refine k_ist1 (pc := 6) dX1_find_6 (Nat.le_of_ble_eq_true rfl) (fun v2 => ?_)
  exact kX1_find_c7 k_F σ1 v2
-- TallTales.rests(I)I
theorem ckX6_rests : k_Vok yX6_rests cX6_rests 2 (some .int) 1 := ⟨kwk_X6_rests, kwi_X6_rests, kwv_X6_rests, kwn_X6, by decide, by decide +kernel⟩
abbrev rmX6_rests : Room := { frames := 6, cells := 0, slots := 0, locals := 135 }
abbrev YX6_rests : k_Y := (rmX6_rests, cX6_rests, 2, RX6, (some .int))
noncomputable def fX6_rests_c18 (σ : k_S) (l1 : Int32) : Option (Int32 × k_S) := k_ob (fX0_isOpen σ) fun r1 σ2 => (if r1 = 0 then some ((nI 0), σ2) else k_ob (fX1_find σ2) fun r3 σ4 => (if l1 = (k_ng 1) then some (σ4.1 8, σ4) else k_gd (l1) 5 (some (σ4.2 16 (Int32.toNatClampNeg (l1)), σ4))))
set_option maxRecDepth 100000 in
set_option maxHeartbeats 4000000 in
theorem kX6_rests_c18 {X : k_C} {q : Nat → Nat} (σ : k_S) (l1 : Int32) : KO X YX6_rests (cT (k_I X) q) 0 0 (k_Q k_ei X (cT (k_I X) q)) 18 [some (.ref (q 0)), some (.int l1)] [] σ (fX6_rests_c18 σ l1) := by
  unfold fX6_rests_c18
  refine k_aload_n (pc := 18) dX6_rests_18 rfl ?_
  refine k_gTX6_house (pc := 19) kwf_X6_28 rfl dX6_rests_19 ?_
  refine k_vi0 (pc := 22) (cT_same _ _) ckX0_isOpen kwm_X6_125 cT_rv3 ⟨rfl, rfl⟩ ⟨Nat.le_of_ble_eq_true rfl, Nat.le_of_ble_eq_true rfl⟩ ⟨Nat.zero_le _, Nat.zero_le _⟩ (Nat.le_of_ble_eq_true rfl) dX6_rests_22 (fun _ _ hf => kX0_isOpen hf) (fun r1 σ2 => ?_)
  refine k_if_ne (pc := 25) 30 dX6_rests_25 (by decide) ?_ ?_
  · refine k_aload_n (pc := 30) dX6_rests_30 rfl ?_
    refine k_gTX6_rests (pc := 31) kwf_X6_44 rfl dX6_rests_31 ?_
    refine k_vv0 (pc := 34) (cT_same _ _) ckX1_find kwm_X6_185 cT_rv5 ⟨rfl, rfl⟩ ⟨Nat.le_of_ble_eq_true rfl, Nat.le_of_ble_eq_true rfl⟩ ⟨Nat.zero_le _, Nat.zero_le _⟩ (Nat.le_of_ble_eq_true rfl) dX6_rests_34 (fun _ _ hf => kX1_find hf) (fun r3 σ4 => ?_)
    refine k_iload_n (pc := 37) dX6_rests_37 rfl ?_
    refine k_iconst (pc := 38) (v := (k_ng 1)) dX6_rests_38 (by decide) ?_
    refine k_icmp_ne (pc := 39) 52 dX6_rests_39 (by decide) ?_ ?_
    · refine k_aload_n (pc := 52) dX6_rests_52 rfl ?_
      refine k_gTX6_rests (pc := 53) kwf_X6_44 rfl dX6_rests_53 ?_
      refine k_gTX1_first (pc := 56) kwf_X6_191 rfl dX6_rests_56 ?_
      refine k_iload_n (pc := 59) dX6_rests_59 rfl ?_
      refine k_lT23 (pc := 60) dX6_rests_60 ?_
      exact k_ireturn (pc := 61) rfl dX6_rests_61
    · refine k_aload_n (pc := 42) dX6_rests_42 rfl ?_
      refine k_gTX6_rests (pc := 43) kwf_X6_44 rfl dX6_rests_43 ?_
      refine k_gTX1_count (pc := 46) kwf_X6_188 rfl dX6_rests_46 ?_
      refine k_goto (pc := 49) 61 dX6_rests_49 (by decide) ?_
      exact k_ireturn (pc := 61) rfl dX6_rests_61
  · refine k_iconst (pc := 28) (v := (nI 0)) dX6_rests_28 (by decide) ?_
    exact k_ireturn (pc := 29) rfl dX6_rests_29
noncomputable def fX6_rests (σ : k_S) (x1 : Int32) : Option (Int32 × k_S) := (if x1 = (k_ng 1) then fX6_rests_c18 σ x1 else k_ob (fX0_hasGuest σ x1) fun r1 σ2 => (if r1 = 0 then some ((k_ng 1), σ2) else fX6_rests_c18 σ2 x1))
set_option maxRecDepth 100000 in
set_option maxHeartbeats 4000000 in
theorem kX6_rests {D : va_G} {cI : ClassId} {q : Nat → Nat} {σ : k_S} {x1 : Int32} {r : Int32} {τ : k_S} (h : fX6_rests σ x1 = some (r, τ)) : k_Ct k_ei yX6_rests cX6_rests 2 (some .int) rmX6_rests (cT cI q) D cI [.ref (q 0), .int x1] σ r τ := by
  refine k_met (Y := YX6_rests) (cT_same _ _) (by decide) rfl (Nat.le_of_ble_eq_true rfl) (List.forall_mem_cons.mpr ⟨rfl, List.forall_mem_cons.mpr ⟨rfl, fun _ h => absurd h List.not_mem_nil⟩⟩) (fun X hD hI => ?_) h
  subst hD hI
  show KO X YX6_rests (cT (k_I X) q) 0 0 (k_Q k_ei X (cT (k_I X) q)) 0 [some (.ref (q 0)), some (.int x1)] [] σ _
  unfold fX6_rests
  refine k_iload_n (pc := 0) dX6_rests_0 rfl ?_
  refine k_iconst (pc := 1) (v := (k_ng 1)) dX6_rests_1 (by decide) ?_
  refine k_icmp_eq (pc := 2) 18 dX6_rests_2 (by decide) ?_ ?_
  · exact kX6_rests_c18 σ x1
  · refine k_aload_n (pc := 5) dX6_rests_5 rfl ?_
    refine k_gTX6_house (pc := 6) kwf_X6_28 rfl dX6_rests_6 ?_
    refine k_iload_n (pc := 9) dX6_rests_9 rfl ?_
    refine k_vi1 (pc := 10) (cT_same _ _) ckX0_hasGuest kwm_X6_132 cT_rv3 ⟨rfl, rfl⟩ ⟨Nat.le_of_ble_eq_true rfl, Nat.le_of_ble_eq_true rfl⟩ ⟨Nat.zero_le _, Nat.zero_le _⟩ (Nat.le_of_ble_eq_true rfl) dX6_rests_10 (fun _ _ hf => kX0_hasGuest hf) (fun r1 σ2 => ?_)
    refine k_if_ne (pc := 13) 18 dX6_rests_13 (by decide) ?_ ?_
    · exact kX6_rests_c18 σ2 x1
    · refine k_iconst (pc := 16) (v := (k_ng 1)) dX6_rests_16 (by decide) ?_
      exact k_ireturn (pc := 17) rfl dX6_rests_17
-- TallTales$Sheets.take(III[I)V
abbrev rmX2_take_a24 : Room := { frames := 1, cells := 0, slots := 0, locals := 48 }
abbrev YX2_take_a24 : k_Y := (rmX2_take_a24, cX2_take, 5, RX2, none)
noncomputable def fX2_take_a24 (σ : k_S) (x1 x2 x3 : Int32) : Option (Unit × k_S) := k_gc (((x1 * (nI 60)) + x2)) ((nI 0)) (x3) 240 6 (k_bn (k_sc σ 1 17 (((x1 * (nI 60)) + x2)) ((nI 0)) (x3)) fun σ1 => some ((), σ1))
set_option maxRecDepth 100000 in
set_option maxHeartbeats 4000000 in
theorem kX2_take_a24 {D : va_G} {cI : ClassId} {q : Nat → Nat} {σ : k_S} {x1 x2 x3 : Int32} {r : Unit} {τ : k_S} (h : fX2_take_a24 σ x1 x2 x3 = some (r, τ)) : k_Ct k_ev yX2_take cX2_take 5 none rmX2_take_a24 (cT cI q) D cI [.ref (q 1), .int x1, .int x2, .int x3, .ref (q 24)] σ r τ := by
  refine k_met (Y := YX2_take_a24) (cT_same _ _) (by decide) rfl (Nat.le_of_ble_eq_true rfl) (List.forall_mem_cons.mpr ⟨rfl, List.forall_mem_cons.mpr ⟨rfl, List.forall_mem_cons.mpr ⟨rfl, List.forall_mem_cons.mpr ⟨rfl, List.forall_mem_cons.mpr ⟨rfl, fun _ h => absurd h List.not_mem_nil⟩⟩⟩⟩⟩) (fun X hD hI => ?_) h
  subst hD hI
  show KO X YX2_take_a24 (cT (k_I X) q) 0 0 (k_Q k_ev X (cT (k_I X) q)) 0 [some (.ref (q 1)), some (.int x1), some (.int x2), some (.int x3), some (.ref (q 24))] [] σ _
  unfold fX2_take_a24
  refine k_aload_n (pc := 0) dX2_take_0 rfl ?_
  refine k_gTX2_cells (pc := 1) kwf_X2_9 rfl dX2_take_1 ?_
  refine k_iload_n (pc := 4) dX2_take_4 rfl ?_
  refine k_bipush (pc := 5) (v := (nI 60)) dX2_take_5 (by decide) ?_
  refine k_imul (pc := 7) dX2_take_7 ?_
  refine k_iload_n (pc := 8) dX2_take_8 rfl ?_
  refine k_iadd (pc := 9) dX2_take_9 ?_
  refine k_aload (pc := 10) dX2_take_10 rfl ?_
  refine k_iconst (pc := 12) (v := (nI 0)) dX2_take_12 (by decide) ?_
  refine k_iload_n (pc := 13) dX2_take_13 rfl ?_
  refine k_cT_8_24 (pc := 14) kwm_X2_38 ⟨Nat.le_of_ble_eq_true rfl, Nat.le_of_ble_eq_true rfl⟩ dX2_take_14 (fun σ1 => ?_)
  exact k_return (pc := 17) rfl dX2_take_17
-- TallTales$Winter.isWithinReach(I)Z
theorem ckX5_isWithinReach : k_Vok yX5_isWithinReach cX5_isWithinReach 3 (some .boolean) 1 := ⟨kwk_X5_isWithinReach, kwi_X5_isWithinReach, kwv_X5_isWithinReach, kwn_X5, by decide, by decide +kernel⟩
abbrev rmX5_isWithinReach : Room := { frames := 1, cells := 0, slots := 0, locals := 22 }
abbrev YX5_isWithinReach : k_Y := (rmX5_isWithinReach, cX5_isWithinReach, 3, RX5, (some .boolean))
noncomputable def fX5_isWithinReach_c58 (kh2 : k_S → Int32 → Int32 → Option (Int32 × k_S)) (σ : k_S) (l1 l2 : Int32) : Option (Int32 × k_S) := k_bn (l2 + (nI 1)) fun v1 => kh2 σ l1 v1
set_option maxRecDepth 100000 in
set_option maxHeartbeats 4000000 in
theorem kX5_isWithinReach_c58 {X : k_C} {q : Nat → Nat} (kh2 : k_S → Int32 → Int32 → Option (Int32 × k_S)) (hk2 : ∀ (σ : k_S) (l1 l2 : Int32), KO X YX5_isWithinReach (cT (k_I X) q) 0 0 (k_Q k_ei X (cT (k_I X) q)) 2 [some (.ref (q 6)), some (.int l1), some (.int l2)] [] σ (kh2 σ l1 l2)) (σ : k_S) (l1 l2 : Int32) : KO X YX5_isWithinReach (cT (k_I X) q) 0 0 (k_Q k_ei X (cT (k_I X) q)) 58 [some (.ref (q 6)), some (.int l1), some (.int l2)] [] σ (fX5_isWithinReach_c58 kh2 σ l1 l2) := by
  unfold fX5_isWithinReach_c58
  refine k_iinc2 (pc := 58) (w := (nI 1)) dX5_isWithinReach_58 rfl (by decide) (Nat.le_of_ble_eq_true rfl) (fun v1 => ?_)
  refine k_goto (pc := 61) 2 dX5_isWithinReach_61 (by decide) ?_
  exact hk2 σ l1 v1
noncomputable def fX5_isWithinReach_c2 : Nat → k_S → Int32 → Int32 → Option (Int32 × k_S)
  | 0, _, _, _ => none
  | n + 1, σ, l1, l2 => (if l2 < σ.1 4 then k_gd (l2) 10 ((if σ.2 6 (Int32.toNatClampNeg (l2)) = σ.1 9 then k_gd (l2) 10 (k_ob (fX0_tallWhenTold σ l2 ((σ.2 19 (Int32.toNatClampNeg (l2)) + (l1 / (nI 2))))) fun r1 σ2 => k_gd (l1) 6 ((if σ2.2 17 (Int32.toNatClampNeg (l1)) < r1 then k_z ((nI 1)) (some ((nI 1), σ2)) else fX5_isWithinReach_c58 (fX5_isWithinReach_c2 n) σ2 l1 l2))) else fX5_isWithinReach_c58 (fX5_isWithinReach_c2 n) σ l1 l2)) else k_z ((nI 0)) (some ((nI 0), σ)))
theorem fX5_isWithinReach_c2_s (n : Nat) (σ : k_S) (l1 l2 : Int32) : fX5_isWithinReach_c2 (n + 1) σ l1 l2 = (if l2 < σ.1 4 then k_gd (l2) 10 ((if σ.2 6 (Int32.toNatClampNeg (l2)) = σ.1 9 then k_gd (l2) 10 (k_ob (fX0_tallWhenTold σ l2 ((σ.2 19 (Int32.toNatClampNeg (l2)) + (l1 / (nI 2))))) fun r1 σ2 => k_gd (l1) 6 ((if σ2.2 17 (Int32.toNatClampNeg (l1)) < r1 then k_z ((nI 1)) (some ((nI 1), σ2)) else fX5_isWithinReach_c58 (fX5_isWithinReach_c2 n) σ2 l1 l2))) else fX5_isWithinReach_c58 (fX5_isWithinReach_c2 n) σ l1 l2)) else k_z ((nI 0)) (some ((nI 0), σ))) := rfl
set_option maxRecDepth 100000 in
set_option maxHeartbeats 4000000 in
theorem kX5_isWithinReach_c2 {X : k_C} {q : Nat → Nat} : ∀ (n : Nat) (σ : k_S) (l1 l2 : Int32), KO X YX5_isWithinReach (cT (k_I X) q) 0 0 (k_Q k_ei X (cT (k_I X) q)) 2 [some (.ref (q 6)), some (.int l1), some (.int l2)] [] σ (fX5_isWithinReach_c2 n σ l1 l2) := by
  intro n
  induction n with
  | zero => intros; exact KO.nil
  | succ n ih =>
    intro σ l1 l2
    rw [fX5_isWithinReach_c2_s]
    refine k_iload_n (pc := 2) dX5_isWithinReach_2 rfl ?_
    refine k_aload_n (pc := 3) dX5_isWithinReach_3 rfl ?_
    refine k_gTX5_house (pc := 4) kwf_X5_30 rfl dX5_isWithinReach_4 ?_
    refine k_gTX0_tales (pc := 7) kwf_X5_62 rfl dX5_isWithinReach_7 ?_
    refine k_icmp_ge (pc := 10) 64 dX5_isWithinReach_10 (by decide) ?_ ?_
    · refine k_iconst (pc := 64) (v := (nI 0)) dX5_isWithinReach_64 (by decide) ?_
      exact k_zreturn (pc := 65) rfl dX5_isWithinReach_65
    · refine k_aload_n (pc := 13) dX5_isWithinReach_13 rfl ?_
      refine k_gTX5_house (pc := 14) kwf_X5_30 rfl dX5_isWithinReach_14 ?_
      refine k_gTX0_owners (pc := 17) kwf_X5_65 rfl dX5_isWithinReach_17 ?_
      refine k_iload_n (pc := 20) dX5_isWithinReach_20 rfl ?_
      refine k_lT13 (pc := 21) dX5_isWithinReach_21 ?_
      refine k_aload_n (pc := 22) dX5_isWithinReach_22 rfl ?_
      refine k_gTX5_guest (pc := 23) kwf_X5_34 rfl dX5_isWithinReach_23 ?_
      refine k_icmp_ne (pc := 26) 58 dX5_isWithinReach_26 (by decide) ?_ ?_
      · exact kX5_isWithinReach_c58 (fX5_isWithinReach_c2 n) ih σ l1 l2
      · refine k_aload_n (pc := 29) dX5_isWithinReach_29 rfl ?_
        refine k_gTX5_house (pc := 30) kwf_X5_30 rfl dX5_isWithinReach_30 ?_
        refine k_iload_n (pc := 33) dX5_isWithinReach_33 rfl ?_
        refine k_aload_n (pc := 34) dX5_isWithinReach_34 rfl ?_
        refine k_gTX5_told (pc := 35) kwf_X5_18 rfl dX5_isWithinReach_35 ?_
        refine k_iload_n (pc := 38) dX5_isWithinReach_38 rfl ?_
        refine k_lT26 (pc := 39) dX5_isWithinReach_39 ?_
        refine k_iload_n (pc := 40) dX5_isWithinReach_40 rfl ?_
        refine k_iconst (pc := 41) (v := (nI 2)) dX5_isWithinReach_41 (by decide) ?_
        refine k_idiv (pc := 42) dX5_isWithinReach_42 (by decide) ?_
        refine k_iadd (pc := 43) dX5_isWithinReach_43 ?_
        refine k_vi2 (pc := 44) (cT_same _ _) ckX0_tallWhenTold kwm_X5_68 cT_rv3 ⟨rfl, rfl⟩ ⟨Nat.le_of_ble_eq_true rfl, Nat.le_of_ble_eq_true rfl⟩ ⟨Nat.zero_le _, Nat.zero_le _⟩ (Nat.le_of_ble_eq_true rfl) dX5_isWithinReach_44 (fun _ _ hf => kX0_tallWhenTold hf) (fun r1 σ2 => ?_)
        refine k_aload_n (pc := 47) dX5_isWithinReach_47 rfl ?_
        refine k_gTX5_numbers (pc := 48) kwf_X5_9 rfl dX5_isWithinReach_48 ?_
        refine k_iload_n (pc := 51) dX5_isWithinReach_51 rfl ?_
        refine k_lT24 (pc := 52) dX5_isWithinReach_52 ?_
        refine k_icmp_le (pc := 53) 58 dX5_isWithinReach_53 (by decide) ?_ ?_
        · exact kX5_isWithinReach_c58 (fX5_isWithinReach_c2 n) ih σ2 l1 l2
        · refine k_iconst (pc := 56) (v := (nI 1)) dX5_isWithinReach_56 (by decide) ?_
          exact k_zreturn (pc := 57) rfl dX5_isWithinReach_57
noncomputable def fX5_isWithinReach (σ : k_S) (x1 : Int32) : Option (Int32 × k_S) := k_bn ((nI 0)) fun v1 => fX5_isWithinReach_c2 k_F σ x1 v1
set_option maxRecDepth 100000 in
set_option maxHeartbeats 4000000 in
theorem kX5_isWithinReach {D : va_G} {cI : ClassId} {q : Nat → Nat} {σ : k_S} {x1 : Int32} {r : Int32} {τ : k_S} (h : fX5_isWithinReach σ x1 = some (r, τ)) : k_Ct k_ei yX5_isWithinReach cX5_isWithinReach 3 (some .boolean) rmX5_isWithinReach (cT cI q) D cI [.ref (q 6), .int x1] σ r τ := by
  refine k_met (Y := YX5_isWithinReach) (cT_same _ _) (by decide) rfl (Nat.le_of_ble_eq_true rfl) (List.forall_mem_cons.mpr ⟨rfl, List.forall_mem_cons.mpr ⟨rfl, fun _ h => absurd h List.not_mem_nil⟩⟩) (fun X hD hI => ?_) h
  subst hD hI
  show KO X YX5_isWithinReach (cT (k_I X) q) 0 0 (k_Q k_ei X (cT (k_I X) q)) 0 [some (.ref (q 6)), some (.int x1), none] [] σ _
  unfold fX5_isWithinReach
  refine k_iconst (pc := 0) (v := (nI 0)) dX5_isWithinReach_0 (by decide) ?_
  refine k_ist2 (pc := 1) dX5_isWithinReach_1 (Nat.le_of_ble_eq_true rfl) (fun v1 => ?_)
  exact kX5_isWithinReach_c2 k_F σ x1 v1
-- TallTales$Winter.keep(I)V
theorem ckX5_keep : k_Vok yX5_keep cX5_keep 2 none 1 := ⟨kwk_X5_keep, kwi_X5_keep, kwv_X5_keep, kwn_X5, by decide, by decide +kernel⟩
abbrev rmX5_keep : Room := { frames := 1, cells := 0, slots := 0, locals := 48 }
abbrev YX5_keep : k_Y := (rmX5_keep, cX5_keep, 2, RX5, none)
noncomputable def fX5_keep (σ : k_S) (x1 : Int32) : Option (Unit × k_S) := (if σ.1 11 < x1 then k_bn (k_sf σ 11 (x1)) fun σ1 => k_gc ((nI 0)) ((nI 0)) ((nI 6)) 6 6 (k_bn (k_sc σ1 21 22 ((nI 0)) ((nI 0)) ((nI 6))) fun σ2 => some ((), σ2)) else some ((), σ))
set_option maxRecDepth 100000 in
set_option maxHeartbeats 4000000 in
theorem kX5_keep {D : va_G} {cI : ClassId} {q : Nat → Nat} {σ : k_S} {x1 : Int32} {r : Unit} {τ : k_S} (h : fX5_keep σ x1 = some (r, τ)) : k_Ct k_ev yX5_keep cX5_keep 2 none rmX5_keep (cT cI q) D cI [.ref (q 6), .int x1] σ r τ := by
  refine k_met (Y := YX5_keep) (cT_same _ _) (by decide) rfl (Nat.le_of_ble_eq_true rfl) (List.forall_mem_cons.mpr ⟨rfl, List.forall_mem_cons.mpr ⟨rfl, fun _ h => absurd h List.not_mem_nil⟩⟩) (fun X hD hI => ?_) h
  subst hD hI
  show KO X YX5_keep (cT (k_I X) q) 0 0 (k_Q k_ev X (cT (k_I X) q)) 0 [some (.ref (q 6)), some (.int x1)] [] σ _
  unfold fX5_keep
  refine k_iload_n (pc := 0) dX5_keep_0 rfl ?_
  refine k_aload_n (pc := 1) dX5_keep_1 rfl ?_
  refine k_gTX5_most (pc := 2) kwf_X5_41 rfl dX5_keep_2 ?_
  refine k_icmp_gt (pc := 5) 9 dX5_keep_5 (by decide) ?_ ?_
  · refine k_aload_n (pc := 9) dX5_keep_9 rfl ?_
    refine k_iload_n (pc := 10) dX5_keep_10 rfl ?_
    refine k_pTX5_most (pc := 11) kwf_X5_41 rfl dX5_keep_11 (fun σ1 => ?_)
    refine k_aload_n (pc := 14) dX5_keep_14 rfl ?_
    refine k_gTX5_row (pc := 15) kwf_X5_24 rfl dX5_keep_15 ?_
    refine k_iconst (pc := 18) (v := (nI 0)) dX5_keep_18 (by decide) ?_
    refine k_aload_n (pc := 19) dX5_keep_19 rfl ?_
    refine k_gTX5_first (pc := 20) kwf_X5_27 rfl dX5_keep_20 ?_
    refine k_iconst (pc := 23) (v := (nI 0)) dX5_keep_23 (by decide) ?_
    refine k_bipush (pc := 24) (v := (nI 6)) dX5_keep_24 (by decide) ?_
    refine k_cT_28_29 (pc := 26) kwm_X5_47 ⟨Nat.le_of_ble_eq_true rfl, Nat.le_of_ble_eq_true rfl⟩ dX5_keep_26 (fun σ2 => ?_)
    exact k_return (pc := 29) rfl dX5_keep_29
  · exact k_return (pc := 8) rfl dX5_keep_8
-- TallTales$Winter.wins(II)Z
theorem ckX5_wins : k_Vok yX5_wins cX5_wins 3 (some .boolean) 2 := ⟨kwk_X5_wins, kwi_X5_wins, kwv_X5_wins, kwn_X5, by decide, by decide +kernel⟩
abbrev rmX5_wins : Room := { frames := 1, cells := 0, slots := 0, locals := 24 }
abbrev YX5_wins : k_Y := (rmX5_wins, cX5_wins, 3, RX5, (some .boolean))
noncomputable def fX5_wins (σ : k_S) (x1 x2 : Int32) : Option (Int32 × k_S) := k_gd (x1) 10 ((if σ.2 6 (Int32.toNatClampNeg (x1)) = σ.1 9 then k_gd (x1) 10 (k_gd (x1) 10 (k_ob (fX0_mayBeTold σ x1 (σ.2 19 (Int32.toNatClampNeg (x1))) (σ.2 20 (Int32.toNatClampNeg (x1))) ((σ.1 6 + x2))) fun r1 σ2 => (if r1 = 0 then k_z ((nI 0)) (some ((nI 0), σ2)) else k_gd (x1) 10 (k_ob (fX0_tallWhenTold σ2 x1 (σ2.2 19 (Int32.toNatClampNeg (x1)))) fun r3 σ4 => k_gd (x2) 6 ((if σ4.2 17 (Int32.toNatClampNeg (x2)) < r3 then k_z ((nI 1)) (some ((nI 1), σ4)) else k_z ((nI 0)) (some ((nI 0), σ4)))))))) else k_z ((nI 0)) (some ((nI 0), σ))))
set_option maxRecDepth 100000 in
set_option maxHeartbeats 4000000 in
theorem kX5_wins {D : va_G} {cI : ClassId} {q : Nat → Nat} {σ : k_S} {x1 x2 : Int32} {r : Int32} {τ : k_S} (h : fX5_wins σ x1 x2 = some (r, τ)) : k_Ct k_ei yX5_wins cX5_wins 3 (some .boolean) rmX5_wins (cT cI q) D cI [.ref (q 6), .int x1, .int x2] σ r τ := by
  refine k_met (Y := YX5_wins) (cT_same _ _) (by decide) rfl (Nat.le_of_ble_eq_true rfl) (List.forall_mem_cons.mpr ⟨rfl, List.forall_mem_cons.mpr ⟨rfl, List.forall_mem_cons.mpr ⟨rfl, fun _ h => absurd h List.not_mem_nil⟩⟩⟩) (fun X hD hI => ?_) h
  subst hD hI
  show KO X YX5_wins (cT (k_I X) q) 0 0 (k_Q k_ei X (cT (k_I X) q)) 0 [some (.ref (q 6)), some (.int x1), some (.int x2)] [] σ _
  unfold fX5_wins
  refine k_aload_n (pc := 0) dX5_wins_0 rfl ?_
  refine k_gTX5_house (pc := 1) kwf_X5_30 rfl dX5_wins_1 ?_
  refine k_gTX0_owners (pc := 4) kwf_X5_65 rfl dX5_wins_4 ?_
  refine k_iload_n (pc := 7) dX5_wins_7 rfl ?_
  refine k_lT13 (pc := 8) dX5_wins_8 ?_
  refine k_aload_n (pc := 9) dX5_wins_9 rfl ?_
  refine k_gTX5_guest (pc := 10) kwf_X5_34 rfl dX5_wins_10 ?_
  refine k_icmp_ne (pc := 13) 75 dX5_wins_13 (by decide) ?_ ?_
  · refine k_iconst (pc := 75) (v := (nI 0)) dX5_wins_75 (by decide) ?_
    exact k_zreturn (pc := 76) rfl dX5_wins_76
  · refine k_aload_n (pc := 16) dX5_wins_16 rfl ?_
    refine k_gTX5_house (pc := 17) kwf_X5_30 rfl dX5_wins_17 ?_
    refine k_iload_n (pc := 20) dX5_wins_20 rfl ?_
    refine k_aload_n (pc := 21) dX5_wins_21 rfl ?_
    refine k_gTX5_told (pc := 22) kwf_X5_18 rfl dX5_wins_22 ?_
    refine k_iload_n (pc := 25) dX5_wins_25 rfl ?_
    refine k_lT26 (pc := 26) dX5_wins_26 ?_
    refine k_aload_n (pc := 27) dX5_wins_27 rfl ?_
    refine k_gTX5_last (pc := 28) kwf_X5_21 rfl dX5_wins_28 ?_
    refine k_iload_n (pc := 31) dX5_wins_31 rfl ?_
    refine k_lT27 (pc := 32) dX5_wins_32 ?_
    refine k_aload_n (pc := 33) dX5_wins_33 rfl ?_
    refine k_gTX5_house (pc := 34) kwf_X5_30 rfl dX5_wins_34 ?_
    refine k_gTX0_nights (pc := 37) kwf_X5_72 rfl dX5_wins_37 ?_
    refine k_iload_n (pc := 40) dX5_wins_40 rfl ?_
    refine k_iadd (pc := 41) dX5_wins_41 ?_
    refine k_vi4 (pc := 42) (cT_same _ _) ckX0_mayBeTold kwm_X5_75 cT_rv3 ⟨rfl, rfl⟩ ⟨Nat.le_of_ble_eq_true rfl, Nat.le_of_ble_eq_true rfl⟩ ⟨Nat.zero_le _, Nat.zero_le _⟩ (Nat.le_of_ble_eq_true rfl) dX5_wins_42 (fun _ _ hf => kX0_mayBeTold hf) (fun r1 σ2 => ?_)
    refine k_if_eq (pc := 45) 75 dX5_wins_45 (by decide) ?_ ?_
    · refine k_iconst (pc := 75) (v := (nI 0)) dX5_wins_75 (by decide) ?_
      exact k_zreturn (pc := 76) rfl dX5_wins_76
    · refine k_aload_n (pc := 48) dX5_wins_48 rfl ?_
      refine k_gTX5_house (pc := 49) kwf_X5_30 rfl dX5_wins_49 ?_
      refine k_iload_n (pc := 52) dX5_wins_52 rfl ?_
      refine k_aload_n (pc := 53) dX5_wins_53 rfl ?_
      refine k_gTX5_told (pc := 54) kwf_X5_18 rfl dX5_wins_54 ?_
      refine k_iload_n (pc := 57) dX5_wins_57 rfl ?_
      refine k_lT26 (pc := 58) dX5_wins_58 ?_
      refine k_vi2 (pc := 59) (cT_same _ _) ckX0_tallWhenTold kwm_X5_68 cT_rv3 ⟨rfl, rfl⟩ ⟨Nat.le_of_ble_eq_true rfl, Nat.le_of_ble_eq_true rfl⟩ ⟨Nat.zero_le _, Nat.zero_le _⟩ (Nat.le_of_ble_eq_true rfl) dX5_wins_59 (fun _ _ hf => kX0_tallWhenTold hf) (fun r3 σ4 => ?_)
      refine k_aload_n (pc := 62) dX5_wins_62 rfl ?_
      refine k_gTX5_numbers (pc := 63) kwf_X5_9 rfl dX5_wins_63 ?_
      refine k_iload_n (pc := 66) dX5_wins_66 rfl ?_
      refine k_lT24 (pc := 67) dX5_wins_67 ?_
      refine k_icmp_le (pc := 68) 75 dX5_wins_68 (by decide) ?_ ?_
      · refine k_iconst (pc := 75) (v := (nI 0)) dX5_wins_75 (by decide) ?_
        exact k_zreturn (pc := 76) rfl dX5_wins_76
      · refine k_iconst (pc := 71) (v := (nI 1)) dX5_wins_71 (by decide) ?_
        refine k_goto (pc := 72) 76 dX5_wins_72 (by decide) ?_
        exact k_zreturn (pc := 76) rfl dX5_wins_76
-- TallTales$Winter.search(LTallTales$Winter;II)V
theorem ckX5_search : k_Sok yX5_search cX5_search 5 none 3 := ⟨kwk_X5_search, kws_X5_search, kwn_X5, by decide, by decide +kernel⟩
abbrev rmX5_search (fu : Nat) : Room := { frames := 2 + (fu + 1), cells := 0, slots := 0, locals := 69 + 24 * (fu + 1) }
abbrev YX5_search (fu : Nat) : k_Y := (rmX5_search fu, cX5_search, 5, RX5, none)
noncomputable def fX5_search_c123 (fr : k_S → Int32 → Int32 → Option (Unit × k_S)) (kh32 : k_S → Int32 → Int32 → Int32 → Option (Unit × k_S)) (σ : k_S) (l1 l2 l3 : Int32) : Option (Unit × k_S) := k_bn (l3 + (nI 1)) fun v1 => kh32 σ l1 l2 v1
set_option maxRecDepth 100000 in
set_option maxHeartbeats 4000000 in
theorem kX5_search_c123 {X : k_C} {q : Nat → Nat} {fu : Nat} (fr : k_S → Int32 → Int32 → Option (Unit × k_S)) (hfr : ∀ {σ : k_S} {x1 x2 : Int32} {r : Unit} {τ : k_S}, fr σ x1 x2 = some (r, τ) → k_Ct k_ev yX5_search cX5_search 5 none (rmX5_search fu) (cT (k_I X) q) (k_D X) (k_I X) [.ref (q 6), .int x1, .int x2] σ r τ) (kh32 : k_S → Int32 → Int32 → Int32 → Option (Unit × k_S)) (hk32 : ∀ (σ : k_S) (l1 l2 l3 : Int32), KO X (YX5_search (fu + 1)) (cT (k_I X) q) 0 0 (k_Q k_ev X (cT (k_I X) q)) 32 [some (.ref (q 6)), some (.int l1), some (.int l2), some (.int l3), none] [] σ (kh32 σ l1 l2 l3)) (σ : k_S) (l1 l2 l3 : Int32) : KO X (YX5_search (fu + 1)) (cT (k_I X) q) 0 0 (k_Q k_ev X (cT (k_I X) q)) 123 [some (.ref (q 6)), some (.int l1), some (.int l2), some (.int l3), none] [] σ (fX5_search_c123 fr kh32 σ l1 l2 l3) := by
  unfold fX5_search_c123
  refine k_iinc3 (pc := 123) (w := (nI 1)) dX5_search_123 rfl (by decide) (Nat.le_of_ble_eq_true rfl) (fun v1 => ?_)
  refine k_goto (pc := 126) 32 dX5_search_126 (by decide) ?_
  exact hk32 σ l1 l2 v1
noncomputable def fX5_search_c32 (fr : k_S → Int32 → Int32 → Option (Unit × k_S)) : Nat → k_S → Int32 → Int32 → Int32 → Option (Unit × k_S)
  | 0, _, _, _, _ => none
  | n + 1, σ, l1, l2, l3 => (if l3 < σ.1 4 then k_ob (fX5_wins σ l3 l1) fun r4 σ5 => (if r4 = 0 then fX5_search_c123 fr (fX5_search_c32 fr n) σ5 l1 l2 l3 else k_gd (l3) 10 (k_bn (σ5.2 20 (Int32.toNatClampNeg (l3))) fun v6 => k_gd (l3) 10 (k_gd (l3) 10 (k_bn (k_sa σ5 19 (l3) ((σ5.2 19 (Int32.toNatClampNeg (l3)) + (nI 1)))) fun σ7 => k_gd (l3) 10 (k_bn (k_sa σ7 20 (l3) ((σ7.1 6 + l1))) fun σ8 => k_gd (l1) 6 (k_bn (k_sa σ8 21 (l1) (l3)) fun σ9 => k_ob (fr σ9 ((l1 + (nI 1))) ((l2 + (nI 1)))) fun r10 σ11 => k_gd (l3) 10 (k_gd (l3) 10 (k_bn (k_sa σ11 19 (l3) ((σ11.2 19 (Int32.toNatClampNeg (l3)) - (nI 1)))) fun σ12 => k_gd (l3) 10 (k_bn (k_sa σ12 20 (l3) (v6)) fun σ13 => fX5_search_c123 fr (fX5_search_c32 fr n) σ13 l1 l2 l3))))))))) else k_gd (l1) 6 (k_bn (k_sa σ 21 (l1) ((k_ng 9))) fun σ1 => k_ob (fr σ1 ((l1 + (nI 1))) l2) fun r2 σ3 => some ((), σ3)))
theorem fX5_search_c32_s (fr : k_S → Int32 → Int32 → Option (Unit × k_S)) (n : Nat) (σ : k_S) (l1 l2 l3 : Int32) : fX5_search_c32 fr (n + 1) σ l1 l2 l3 = (if l3 < σ.1 4 then k_ob (fX5_wins σ l3 l1) fun r4 σ5 => (if r4 = 0 then fX5_search_c123 fr (fX5_search_c32 fr n) σ5 l1 l2 l3 else k_gd (l3) 10 (k_bn (σ5.2 20 (Int32.toNatClampNeg (l3))) fun v6 => k_gd (l3) 10 (k_gd (l3) 10 (k_bn (k_sa σ5 19 (l3) ((σ5.2 19 (Int32.toNatClampNeg (l3)) + (nI 1)))) fun σ7 => k_gd (l3) 10 (k_bn (k_sa σ7 20 (l3) ((σ7.1 6 + l1))) fun σ8 => k_gd (l1) 6 (k_bn (k_sa σ8 21 (l1) (l3)) fun σ9 => k_ob (fr σ9 ((l1 + (nI 1))) ((l2 + (nI 1)))) fun r10 σ11 => k_gd (l3) 10 (k_gd (l3) 10 (k_bn (k_sa σ11 19 (l3) ((σ11.2 19 (Int32.toNatClampNeg (l3)) - (nI 1)))) fun σ12 => k_gd (l3) 10 (k_bn (k_sa σ12 20 (l3) (v6)) fun σ13 => fX5_search_c123 fr (fX5_search_c32 fr n) σ13 l1 l2 l3))))))))) else k_gd (l1) 6 (k_bn (k_sa σ 21 (l1) ((k_ng 9))) fun σ1 => k_ob (fr σ1 ((l1 + (nI 1))) l2) fun r2 σ3 => some ((), σ3))) := rfl
set_option maxRecDepth 100000 in
set_option maxHeartbeats 4000000 in
theorem kX5_search_c32 {X : k_C} {q : Nat → Nat} {fu : Nat} (fr : k_S → Int32 → Int32 → Option (Unit × k_S)) (hfr : ∀ {σ : k_S} {x1 x2 : Int32} {r : Unit} {τ : k_S}, fr σ x1 x2 = some (r, τ) → k_Ct k_ev yX5_search cX5_search 5 none (rmX5_search fu) (cT (k_I X) q) (k_D X) (k_I X) [.ref (q 6), .int x1, .int x2] σ r τ) : ∀ (n : Nat) (σ : k_S) (l1 l2 l3 : Int32), KO X (YX5_search (fu + 1)) (cT (k_I X) q) 0 0 (k_Q k_ev X (cT (k_I X) q)) 32 [some (.ref (q 6)), some (.int l1), some (.int l2), some (.int l3), none] [] σ (fX5_search_c32 fr n σ l1 l2 l3) := by
  intro n
  induction n with
  | zero => intros; exact KO.nil
  | succ n ih =>
    intro σ l1 l2 l3
    rw [fX5_search_c32_s]
    refine k_iload_n (pc := 32) dX5_search_32 rfl ?_
    refine k_aload_n (pc := 33) dX5_search_33 rfl ?_
    refine k_gTX5_house (pc := 34) kwf_X5_30 rfl dX5_search_34 ?_
    refine k_gTX0_tales (pc := 37) kwf_X5_62 rfl dX5_search_37 ?_
    refine k_icmp_ge (pc := 40) 129 dX5_search_40 (by decide) ?_ ?_
    · refine k_aload_n (pc := 129) dX5_search_129 rfl ?_
      refine k_gTX5_row (pc := 130) kwf_X5_24 rfl dX5_search_130 ?_
      refine k_iload_n (pc := 133) dX5_search_133 rfl ?_
      refine k_bipush (pc := 134) (v := (k_ng 9)) dX5_search_134 (by decide) ?_
      refine k_sT28 (pc := 136) dX5_search_136 (fun σ1 => ?_)
      refine k_aload_n (pc := 137) dX5_search_137 rfl ?_
      refine k_iload_n (pc := 138) dX5_search_138 rfl ?_
      refine k_iconst (pc := 139) (v := (nI 1)) dX5_search_139 (by decide) ?_
      refine k_iadd (pc := 140) dX5_search_140 ?_
      refine k_iload_n (pc := 141) dX5_search_141 rfl ?_
      refine k_sv3 (pc := 142) (cT_same _ _) ckX5_search kwm_X5_58 ⟨rfl, rfl⟩ ⟨by simp [YX5_search, rmX5_search]; omega, by simp [YX5_search, rmX5_search]; omega⟩ ⟨Nat.zero_le _, Nat.zero_le _⟩ (Nat.le_of_ble_eq_true rfl) dX5_search_142 (fun _ _ hf => hfr hf) (fun r2 σ3 => ?_)
      exact k_return (pc := 145) rfl dX5_search_145
    · refine k_aload_n (pc := 43) dX5_search_43 rfl ?_
      refine k_iload_n (pc := 44) dX5_search_44 rfl ?_
      refine k_iload_n (pc := 45) dX5_search_45 rfl ?_
      refine k_vi2 (pc := 46) (cT_same _ _) ckX5_wins kwm_X5_83 cT_rv6 ⟨rfl, rfl⟩ ⟨by simp only [YX5_search, rmX5_search, rmX5_wins]; omega, by simp only [YX5_search, rmX5_search, rmX5_wins]; omega⟩ ⟨Nat.zero_le _, Nat.zero_le _⟩ (Nat.le_of_ble_eq_true rfl) dX5_search_46 (fun _ _ hf => kX5_wins hf) (fun r4 σ5 => ?_)
      refine k_if_ne (pc := 49) 55 dX5_search_49 (by decide) ?_ ?_
      · refine k_aload_n (pc := 55) dX5_search_55 rfl ?_
        refine k_gTX5_last (pc := 56) kwf_X5_21 rfl dX5_search_56 ?_
        refine k_iload_n (pc := 59) dX5_search_59 rfl ?_
        refine k_lT27 (pc := 60) dX5_search_60 ?_
        refine k_ist4 (pc := 61) dX5_search_61 (Nat.le_of_ble_eq_true rfl) (fun v6 => ?_)
        refine k_aload_n (pc := 63) dX5_search_63 rfl ?_
        refine k_gTX5_told (pc := 64) kwf_X5_18 rfl dX5_search_64 ?_
        refine k_iload_n (pc := 67) dX5_search_67 rfl ?_
        refine k_dup2 (pc := 68) dX5_search_68 rfl rfl ?_
        refine k_lT26 (pc := 69) dX5_search_69 ?_
        refine k_iconst (pc := 70) (v := (nI 1)) dX5_search_70 (by decide) ?_
        refine k_iadd (pc := 71) dX5_search_71 ?_
        refine k_sT26 (pc := 72) dX5_search_72 (fun σ7 => ?_)
        refine k_aload_n (pc := 73) dX5_search_73 rfl ?_
        refine k_gTX5_last (pc := 74) kwf_X5_21 rfl dX5_search_74 ?_
        refine k_iload_n (pc := 77) dX5_search_77 rfl ?_
        refine k_aload_n (pc := 78) dX5_search_78 rfl ?_
        refine k_gTX5_house (pc := 79) kwf_X5_30 rfl dX5_search_79 ?_
        refine k_gTX0_nights (pc := 82) kwf_X5_72 rfl dX5_search_82 ?_
        refine k_iload_n (pc := 85) dX5_search_85 rfl ?_
        refine k_iadd (pc := 86) dX5_search_86 ?_
        refine k_sT27 (pc := 87) dX5_search_87 (fun σ8 => ?_)
        refine k_aload_n (pc := 88) dX5_search_88 rfl ?_
        refine k_gTX5_row (pc := 89) kwf_X5_24 rfl dX5_search_89 ?_
        refine k_iload_n (pc := 92) dX5_search_92 rfl ?_
        refine k_iload_n (pc := 93) dX5_search_93 rfl ?_
        refine k_sT28 (pc := 94) dX5_search_94 (fun σ9 => ?_)
        refine k_aload_n (pc := 95) dX5_search_95 rfl ?_
        refine k_iload_n (pc := 96) dX5_search_96 rfl ?_
        refine k_iconst (pc := 97) (v := (nI 1)) dX5_search_97 (by decide) ?_
        refine k_iadd (pc := 98) dX5_search_98 ?_
        refine k_iload_n (pc := 99) dX5_search_99 rfl ?_
        refine k_iconst (pc := 100) (v := (nI 1)) dX5_search_100 (by decide) ?_
        refine k_iadd (pc := 101) dX5_search_101 ?_
        refine k_sv3 (pc := 102) (cT_same _ _) ckX5_search kwm_X5_58 ⟨rfl, rfl⟩ ⟨by simp [YX5_search, rmX5_search]; omega, by simp [YX5_search, rmX5_search]; omega⟩ ⟨Nat.zero_le _, Nat.zero_le _⟩ (Nat.le_of_ble_eq_true rfl) dX5_search_102 (fun _ _ hf => hfr hf) (fun r10 σ11 => ?_)
        refine k_aload_n (pc := 105) dX5_search_105 rfl ?_
        refine k_gTX5_told (pc := 106) kwf_X5_18 rfl dX5_search_106 ?_
        refine k_iload_n (pc := 109) dX5_search_109 rfl ?_
        refine k_dup2 (pc := 110) dX5_search_110 rfl rfl ?_
        refine k_lT26 (pc := 111) dX5_search_111 ?_
        refine k_iconst (pc := 112) (v := (nI 1)) dX5_search_112 (by decide) ?_
        refine k_isub (pc := 113) dX5_search_113 ?_
        refine k_sT26 (pc := 114) dX5_search_114 (fun σ12 => ?_)
        refine k_aload_n (pc := 115) dX5_search_115 rfl ?_
        refine k_gTX5_last (pc := 116) kwf_X5_21 rfl dX5_search_116 ?_
        refine k_iload_n (pc := 119) dX5_search_119 rfl ?_
        refine k_iload (pc := 120) dX5_search_120 rfl ?_
        refine k_sT27 (pc := 122) dX5_search_122 (fun σ13 => ?_)
        refine k_fg4 ?_
        exact kX5_search_c123 fr hfr (fX5_search_c32 fr n) ih σ13 l1 l2 l3
      · refine k_goto (pc := 52) 123 dX5_search_52 (by decide) ?_
        exact kX5_search_c123 fr hfr (fX5_search_c32 fr n) ih σ5 l1 l2 l3
noncomputable def fX5_search : Nat → k_S → Int32 → Int32 → Option (Unit × k_S)
  | 0, _, _, _ => none
  | n + 1, σ, x1, x2 => (fun fr : k_S → Int32 → Int32 → Option (Unit × k_S) => (if x1 < σ.1 10 then k_gd (x1) 7 ((if σ.1 11 < (x2 + σ.2 18 (Int32.toNatClampNeg (x1))) then k_bn ((nI 0)) fun v1 => fX5_search_c32 fr k_F σ x1 x2 v1 else some ((), σ))) else k_ob (fX5_keep σ x2) fun r2 σ3 => some ((), σ3))) (fX5_search n)
theorem fX5_search_s (n : Nat) (σ : k_S) (x1 x2 : Int32) : fX5_search (n + 1) σ x1 x2 = (fun fr : k_S → Int32 → Int32 → Option (Unit × k_S) => (if x1 < σ.1 10 then k_gd (x1) 7 ((if σ.1 11 < (x2 + σ.2 18 (Int32.toNatClampNeg (x1))) then k_bn ((nI 0)) fun v1 => fX5_search_c32 fr k_F σ x1 x2 v1 else some ((), σ))) else k_ob (fX5_keep σ x2) fun r2 σ3 => some ((), σ3))) (fX5_search n) := rfl
set_option maxRecDepth 100000 in
set_option maxHeartbeats 4000000 in
theorem kX5_search {D : va_G} {cI : ClassId} {q : Nat → Nat} (n : Nat) : ∀ {σ : k_S} {x1 x2 : Int32} {r : Unit} {τ : k_S}, fX5_search n σ x1 x2 = some (r, τ) → k_Ct k_ev yX5_search cX5_search 5 none (rmX5_search n) (cT cI q) D cI [.ref (q 6), .int x1, .int x2] σ r τ := by
  induction n with
  | zero => intro σ x1 x2 r τ h; cases h
  | succ n ih0 =>
    intro σ x1 x2 r τ h
    refine k_met (Y := YX5_search (n + 1)) (cT_same _ _) (by decide) rfl (Nat.le_of_ble_eq_true rfl) (List.forall_mem_cons.mpr ⟨rfl, List.forall_mem_cons.mpr ⟨rfl, List.forall_mem_cons.mpr ⟨rfl, fun _ h => absurd h List.not_mem_nil⟩⟩⟩) (fun X hD hI => ?_) h
    subst hD hI
    show KO X (YX5_search (n + 1)) (cT (k_I X) q) 0 0 (k_Q k_ev X (cT (k_I X) q)) 0 [some (.ref (q 6)), some (.int x1), some (.int x2), none, none] [] σ _
    rw [fX5_search_s]
    have hfr : ∀ {σ : k_S} {x1 x2 : Int32} {r : Unit} {τ : k_S}, fX5_search n σ x1 x2 = some (r, τ) → k_Ct k_ev yX5_search cX5_search 5 none (rmX5_search n) (cT (k_I X) q) (k_D X) (k_I X) [.ref (q 6), .int x1, .int x2] σ r τ := fun h => ih0 h
    generalize fX5_search n = fr at hfr ⊢
    dsimp only
    refine k_iload_n (pc := 0) dX5_search_0 rfl ?_
    refine k_aload_n (pc := 1) dX5_search_1 rfl ?_
    refine k_gTX5_length (pc := 2) kwf_X5_38 rfl dX5_search_2 ?_
    refine k_icmp_lt (pc := 5) 14 dX5_search_5 (by decide) ?_ ?_
    · refine k_iload_n (pc := 14) dX5_search_14 rfl ?_
      refine k_aload_n (pc := 15) dX5_search_15 rfl ?_
      refine k_gTX5_ahead (pc := 16) kwf_X5_15 rfl dX5_search_16 ?_
      refine k_iload_n (pc := 19) dX5_search_19 rfl ?_
      refine k_lT25 (pc := 20) dX5_search_20 ?_
      refine k_iadd (pc := 21) dX5_search_21 ?_
      refine k_aload_n (pc := 22) dX5_search_22 rfl ?_
      refine k_gTX5_most (pc := 23) kwf_X5_41 rfl dX5_search_23 ?_
      refine k_icmp_gt (pc := 26) 30 dX5_search_26 (by decide) ?_ ?_
      · refine k_iconst (pc := 30) (v := (nI 0)) dX5_search_30 (by decide) ?_
        refine k_ist3 (pc := 31) dX5_search_31 (Nat.le_of_ble_eq_true rfl) (fun v1 => ?_)
        exact kX5_search_c32 fr hfr k_F σ x1 x2 v1
      · exact k_return (pc := 29) rfl dX5_search_29
    · refine k_aload_n (pc := 8) dX5_search_8 rfl ?_
      refine k_iload_n (pc := 9) dX5_search_9 rfl ?_
      refine k_vv1 (pc := 10) (cT_same _ _) ckX5_keep kwm_X5_79 cT_rv6 ⟨rfl, rfl⟩ ⟨by simp only [YX5_search, rmX5_search, rmX5_keep]; omega, by simp only [YX5_search, rmX5_search, rmX5_keep]; omega⟩ ⟨Nat.zero_le _, Nat.zero_le _⟩ (Nat.le_of_ble_eq_true rfl) dX5_search_10 (fun _ _ hf => kX5_keep hf) (fun r2 σ3 => ?_)
      exact k_return (pc := 13) rfl dX5_search_13
-- TallTales$Winter.find(II)V
theorem ckX5_find : k_Vok yX5_find cX5_find 4 none 2 := ⟨kwk_X5_find, kwi_X5_find, kwv_X5_find, kwn_X5, by decide, by decide +kernel⟩
abbrev rmX5_find : Room := { frames := 14, cells := 0, slots := 0, locals := 357 }
abbrev YX5_find : k_Y := (rmX5_find, cX5_find, 4, RX5, none)
noncomputable def fX5_find_c92 (kh62 : k_S → Int32 → Option (Unit × k_S)) (σ : k_S) (l3 s1 s2 s3 : Int32) : Option (Unit × k_S) := k_gd (s1) 7 (k_bn (k_sa σ 18 (s1) ((s2 + s3))) fun σ1 => k_bn (l3 + (k_ng 1)) fun v2 => kh62 σ1 v2)
set_option maxRecDepth 100000 in
set_option maxHeartbeats 4000000 in
theorem kX5_find_c92 {X : k_C} {q : Nat → Nat} (kh62 : k_S → Int32 → Option (Unit × k_S)) (hk62 : ∀ (σ : k_S) (l3 : Int32), KO X YX5_find (cT (k_I X) q) 0 0 (k_Q k_ev X (cT (k_I X) q)) 62 [some (.ref (q 6)), none, none, some (.int l3)] [] σ (kh62 σ l3)) (σ : k_S) (l3 s1 s2 s3 : Int32) : KO X YX5_find (cT (k_I X) q) 0 0 (k_Q k_ev X (cT (k_I X) q)) 92 [some (.ref (q 6)), none, none, some (.int l3)] [.int s3, .int s2, .int s1, .ref (q 25)] σ (fX5_find_c92 kh62 σ l3 s1 s2 s3) := by
  unfold fX5_find_c92
  refine k_iadd (pc := 92) dX5_find_92 ?_
  refine k_sT25 (pc := 93) dX5_find_93 (fun σ1 => ?_)
  refine k_iinc3 (pc := 94) (w := (k_ng 1)) dX5_find_94 rfl (by decide) (Nat.le_of_ble_eq_true rfl) (fun v2 => ?_)
  refine k_goto (pc := 97) 62 dX5_find_97 (by decide) ?_
  exact hk62 σ1 v2
noncomputable def fX5_find_c62 : Nat → k_S → Int32 → Option (Unit × k_S)
  | 0, _, _ => none
  | n + 1, σ, l3 => (if l3 < 0 then k_ob (fX5_search 10 σ ((nI 0)) ((nI 0))) fun r1 σ2 => some ((), σ2) else k_gd ((l3 + (nI 1))) 7 (k_ob (fX5_isWithinReach σ l3) fun r3 σ4 => (if r3 = 0 then fX5_find_c92 (fX5_find_c62 n) σ4 l3 l3 (σ.2 18 (Int32.toNatClampNeg ((l3 + (nI 1))))) ((nI 0)) else fX5_find_c92 (fX5_find_c62 n) σ4 l3 l3 (σ.2 18 (Int32.toNatClampNeg ((l3 + (nI 1))))) ((nI 1)))))
theorem fX5_find_c62_s (n : Nat) (σ : k_S) (l3 : Int32) : fX5_find_c62 (n + 1) σ l3 = (if l3 < 0 then k_ob (fX5_search 10 σ ((nI 0)) ((nI 0))) fun r1 σ2 => some ((), σ2) else k_gd ((l3 + (nI 1))) 7 (k_ob (fX5_isWithinReach σ l3) fun r3 σ4 => (if r3 = 0 then fX5_find_c92 (fX5_find_c62 n) σ4 l3 l3 (σ.2 18 (Int32.toNatClampNeg ((l3 + (nI 1))))) ((nI 0)) else fX5_find_c92 (fX5_find_c62 n) σ4 l3 l3 (σ.2 18 (Int32.toNatClampNeg ((l3 + (nI 1))))) ((nI 1))))) := rfl
set_option maxRecDepth 100000 in
set_option maxHeartbeats 4000000 in
theorem kX5_find_c62 {X : k_C} {q : Nat → Nat} : ∀ (n : Nat) (σ : k_S) (l3 : Int32), KO X YX5_find (cT (k_I X) q) 0 0 (k_Q k_ev X (cT (k_I X) q)) 62 [some (.ref (q 6)), none, none, some (.int l3)] [] σ (fX5_find_c62 n σ l3) := by
  intro n
  induction n with
  | zero => intros; exact KO.nil
  | succ n ih =>
    intro σ l3
    rw [fX5_find_c62_s]
    refine k_iload_n (pc := 62) dX5_find_62 rfl ?_
    refine k_if_lt (pc := 63) 100 dX5_find_63 (by decide) ?_ ?_
    · refine k_aload_n (pc := 100) dX5_find_100 rfl ?_
      refine k_iconst (pc := 101) (v := (nI 0)) dX5_find_101 (by decide) ?_
      refine k_iconst (pc := 102) (v := (nI 0)) dX5_find_102 (by decide) ?_
      refine k_sv3 (pc := 103) (cT_same _ _) ckX5_search kwm_X5_58 ⟨rfl, rfl⟩ ⟨Nat.le_of_ble_eq_true rfl, Nat.le_of_ble_eq_true rfl⟩ ⟨Nat.zero_le _, Nat.zero_le _⟩ (Nat.le_of_ble_eq_true rfl) dX5_find_103 (fun _ _ hf => kX5_search 10 hf) (fun r1 σ2 => ?_)
      exact k_return (pc := 106) rfl dX5_find_106
    · refine k_aload_n (pc := 66) dX5_find_66 rfl ?_
      refine k_gTX5_ahead (pc := 67) kwf_X5_15 rfl dX5_find_67 ?_
      refine k_iload_n (pc := 70) dX5_find_70 rfl ?_
      refine k_aload_n (pc := 71) dX5_find_71 rfl ?_
      refine k_gTX5_ahead (pc := 72) kwf_X5_15 rfl dX5_find_72 ?_
      refine k_iload_n (pc := 75) dX5_find_75 rfl ?_
      refine k_iconst (pc := 76) (v := (nI 1)) dX5_find_76 (by decide) ?_
      refine k_iadd (pc := 77) dX5_find_77 ?_
      refine k_lT25 (pc := 78) dX5_find_78 ?_
      refine k_aload_n (pc := 79) dX5_find_79 rfl ?_
      refine k_iload_n (pc := 80) dX5_find_80 rfl ?_
      refine k_vi1 (pc := 81) (cT_same _ _) ckX5_isWithinReach kwm_X5_54 cT_rv6 ⟨rfl, rfl⟩ ⟨Nat.le_of_ble_eq_true rfl, Nat.le_of_ble_eq_true rfl⟩ ⟨Nat.zero_le _, Nat.zero_le _⟩ (Nat.le_of_ble_eq_true rfl) dX5_find_81 (fun _ _ hf => kX5_isWithinReach hf) (fun r3 σ4 => ?_)
      refine k_if_eq (pc := 84) 91 dX5_find_84 (by decide) ?_ ?_
      · refine k_iconst (pc := 91) (v := (nI 0)) dX5_find_91 (by decide) ?_
        exact kX5_find_c92 (fX5_find_c62 n) ih σ4 l3 l3 (σ.2 18 (Int32.toNatClampNeg ((l3 + (nI 1))))) ((nI 0))
      · refine k_iconst (pc := 87) (v := (nI 1)) dX5_find_87 (by decide) ?_
        refine k_goto (pc := 88) 92 dX5_find_88 (by decide) ?_
        exact kX5_find_c92 (fX5_find_c62 n) ih σ4 l3 l3 (σ.2 18 (Int32.toNatClampNeg ((l3 + (nI 1))))) ((nI 1))
noncomputable def fX5_find (σ : k_S) (x1 x2 : Int32) : Option (Unit × k_S) := k_bn (k_sf σ 9 (x1)) fun σ1 => k_bn (k_sf σ1 10 (x2)) fun σ2 => k_bn (k_sf σ2 11 ((k_ng 1))) fun σ3 => k_gc ((nI 0)) ((nI 0)) ((nI 10)) 10 10 (k_bn (k_sc σ3 8 19 ((nI 0)) ((nI 0)) ((nI 10))) fun σ4 => k_gc ((nI 0)) ((nI 0)) ((nI 10)) 10 10 (k_bn (k_sc σ4 9 20 ((nI 0)) ((nI 0)) ((nI 10))) fun σ5 => k_gd (x2) 7 (k_bn (k_sa σ5 18 (x2) ((nI 0))) fun σ6 => k_bn ((x2 - (nI 1))) fun v7 => fX5_find_c62 k_F σ6 v7)))
set_option maxRecDepth 100000 in
set_option maxHeartbeats 4000000 in
theorem kX5_find {D : va_G} {cI : ClassId} {q : Nat → Nat} {σ : k_S} {x1 x2 : Int32} {r : Unit} {τ : k_S} (h : fX5_find σ x1 x2 = some (r, τ)) : k_Ct k_ev yX5_find cX5_find 4 none rmX5_find (cT cI q) D cI [.ref (q 6), .int x1, .int x2] σ r τ := by
  refine k_met (Y := YX5_find) (cT_same _ _) (by decide) rfl (Nat.le_of_ble_eq_true rfl) (List.forall_mem_cons.mpr ⟨rfl, List.forall_mem_cons.mpr ⟨rfl, List.forall_mem_cons.mpr ⟨rfl, fun _ h => absurd h List.not_mem_nil⟩⟩⟩) (fun X hD hI => ?_) h
  subst hD hI
  show KO X YX5_find (cT (k_I X) q) 0 0 (k_Q k_ev X (cT (k_I X) q)) 0 [some (.ref (q 6)), some (.int x1), some (.int x2), none] [] σ _
  unfold fX5_find
  refine k_aload_n (pc := 0) dX5_find_0 rfl ?_
  refine k_iload_n (pc := 1) dX5_find_1 rfl ?_
  refine k_pTX5_guest (pc := 2) kwf_X5_34 rfl dX5_find_2 (fun σ1 => ?_)
  refine k_aload_n (pc := 5) dX5_find_5 rfl ?_
  refine k_iload_n (pc := 6) dX5_find_6 rfl ?_
  refine k_pTX5_length (pc := 7) kwf_X5_38 rfl dX5_find_7 (fun σ2 => ?_)
  refine k_aload_n (pc := 10) dX5_find_10 rfl ?_
  refine k_iconst (pc := 11) (v := (k_ng 1)) dX5_find_11 (by decide) ?_
  refine k_pTX5_most (pc := 12) kwf_X5_41 rfl dX5_find_12 (fun σ3 => ?_)
  refine k_aload_n (pc := 15) dX5_find_15 rfl ?_
  refine k_gTX5_house (pc := 16) kwf_X5_30 rfl dX5_find_16 ?_
  refine k_gTX0_told (pc := 19) kwf_X5_44 rfl dX5_find_19 ?_
  refine k_iconst (pc := 22) (v := (nI 0)) dX5_find_22 (by decide) ?_
  refine k_aload_n (pc := 23) dX5_find_23 rfl ?_
  refine k_gTX5_told (pc := 24) kwf_X5_18 rfl dX5_find_24 ?_
  refine k_iconst (pc := 27) (v := (nI 0)) dX5_find_27 (by decide) ?_
  refine k_bipush (pc := 28) (v := (nI 10)) dX5_find_28 (by decide) ?_
  refine k_cT_15_26 (pc := 30) kwm_X5_47 ⟨Nat.le_of_ble_eq_true rfl, Nat.le_of_ble_eq_true rfl⟩ dX5_find_30 (fun σ4 => ?_)
  refine k_aload_n (pc := 33) dX5_find_33 rfl ?_
  refine k_gTX5_house (pc := 34) kwf_X5_30 rfl dX5_find_34 ?_
  refine k_gTX0_last (pc := 37) kwf_X5_53 rfl dX5_find_37 ?_
  refine k_iconst (pc := 40) (v := (nI 0)) dX5_find_40 (by decide) ?_
  refine k_aload_n (pc := 41) dX5_find_41 rfl ?_
  refine k_gTX5_last (pc := 42) kwf_X5_21 rfl dX5_find_42 ?_
  refine k_iconst (pc := 45) (v := (nI 0)) dX5_find_45 (by decide) ?_
  refine k_bipush (pc := 46) (v := (nI 10)) dX5_find_46 (by decide) ?_
  refine k_cT_16_27 (pc := 48) kwm_X5_47 ⟨Nat.le_of_ble_eq_true rfl, Nat.le_of_ble_eq_true rfl⟩ dX5_find_48 (fun σ5 => ?_)
  refine k_aload_n (pc := 51) dX5_find_51 rfl ?_
  refine k_gTX5_ahead (pc := 52) kwf_X5_15 rfl dX5_find_52 ?_
  refine k_iload_n (pc := 55) dX5_find_55 rfl ?_
  refine k_iconst (pc := 56) (v := (nI 0)) dX5_find_56 (by decide) ?_
  refine k_sT25 (pc := 57) dX5_find_57 (fun σ6 => ?_)
  refine k_iload_n (pc := 58) dX5_find_58 rfl ?_
  refine k_iconst (pc := 59) (v := (nI 1)) dX5_find_59 (by decide) ?_
  refine k_isub (pc := 60) dX5_find_60 ?_
  refine k_ist3 (pc := 61) dX5_find_61 (Nat.le_of_ble_eq_true rfl) (fun v7 => ?_)
  refine k_fg1 ?_
  refine k_fg2 ?_
  exact kX5_find_c62 k_F σ6 v7
-- TallTales.winter(IIIIII)I
theorem ckX6_winter : k_Vok yX6_winter cX6_winter 8 (some .int) 6 := ⟨kwk_X6_winter, kwi_X6_winter, kwv_X6_winter, kwn_X6, by decide, by decide +kernel⟩
abbrev rmX6_winter : Room := { frames := 15, cells := 0, slots := 0, locals := 380 }
abbrev YX6_winter : k_Y := (rmX6_winter, cX6_winter, 8, RX6, (some .int))
noncomputable def fX6_winter (σ : k_S) (x1 x2 x3 x4 x5 x6 : Int32) : Option (Int32 × k_S) := k_bn (k_sf σ 1 ((nI 0))) fun σ1 => k_ob (fX0_hasGuest σ1 x1) fun r2 σ3 => (if r2 = 0 then some ((k_ng 1), σ3) else k_ob (fX6_isSheet σ3 x2) fun r4 σ5 => (if r4 = 0 then some ((k_ng 1), σ5) else k_ob (fX6_isSort σ5 x3) fun r6 σ7 => (if r6 = 0 then some ((k_ng 2), σ7) else k_ob (fX2_faultOf σ7 x2 x3 x4 x5) fun r8 σ9 => k_bn (r8) fun v10 => (if v10 = 0 then (if x5 < (nI 1) then some ((k_ng 2), σ9) else (if (nI 6) < x5 then some ((k_ng 2), σ9) else (if x6 < (k_ng 1) then some ((k_ng 1), σ9) else (if x6 < x5 then k_ob (fX2_take_a24 σ9 x2 x4 x5) fun r11 σ12 => k_ob (fX5_find σ12 x1 x5) fun r13 σ14 => (if x6 = (k_ng 1) then some (σ14.1 11, σ14) else k_gd (x6) 6 (some (σ14.2 22 (Int32.toNatClampNeg (x6)), σ14))) else some ((k_ng 1), σ9))))) else k_ob (fX6_faulty σ9 v10) fun r15 σ16 => some (r15, σ16)))))
set_option maxRecDepth 100000 in
set_option maxHeartbeats 4000000 in
theorem kX6_winter {D : va_G} {cI : ClassId} {q : Nat → Nat} {σ : k_S} {x1 x2 x3 x4 x5 x6 : Int32} {r : Int32} {τ : k_S} (h : fX6_winter σ x1 x2 x3 x4 x5 x6 = some (r, τ)) : k_Ct k_ei yX6_winter cX6_winter 8 (some .int) rmX6_winter (cT cI q) D cI [.ref (q 0), .int x1, .int x2, .int x3, .int x4, .int x5, .int x6] σ r τ := by
  refine k_met (Y := YX6_winter) (cT_same _ _) (by decide) rfl (Nat.le_of_ble_eq_true rfl) (List.forall_mem_cons.mpr ⟨rfl, List.forall_mem_cons.mpr ⟨rfl, List.forall_mem_cons.mpr ⟨rfl, List.forall_mem_cons.mpr ⟨rfl, List.forall_mem_cons.mpr ⟨rfl, List.forall_mem_cons.mpr ⟨rfl, List.forall_mem_cons.mpr ⟨rfl, fun _ h => absurd h List.not_mem_nil⟩⟩⟩⟩⟩⟩⟩) (fun X hD hI => ?_) h
  subst hD hI
  show KO X YX6_winter (cT (k_I X) q) 0 0 (k_Q k_ei X (cT (k_I X) q)) 0 [some (.ref (q 0)), some (.int x1), some (.int x2), some (.int x3), some (.int x4), some (.int x5), some (.int x6), none] [] σ _
  unfold fX6_winter
  refine k_aload_n (pc := 0) dX6_winter_0 rfl ?_
  refine k_iconst (pc := 1) (v := (nI 0)) dX6_winter_1 (by decide) ?_
  refine k_pTX6_fault (pc := 2) kwf_X6_61 rfl dX6_winter_2 (fun σ1 => ?_)
  refine k_aload_n (pc := 5) dX6_winter_5 rfl ?_
  refine k_gTX6_house (pc := 6) kwf_X6_28 rfl dX6_winter_6 ?_
  refine k_iload_n (pc := 9) dX6_winter_9 rfl ?_
  refine k_vi1 (pc := 10) (cT_same _ _) ckX0_hasGuest kwm_X6_132 cT_rv3 ⟨rfl, rfl⟩ ⟨Nat.le_of_ble_eq_true rfl, Nat.le_of_ble_eq_true rfl⟩ ⟨Nat.zero_le _, Nat.zero_le _⟩ (Nat.le_of_ble_eq_true rfl) dX6_winter_10 (fun _ _ hf => kX0_hasGuest hf) (fun r2 σ3 => ?_)
  refine k_if_eq (pc := 13) 23 dX6_winter_13 (by decide) ?_ ?_
  · refine k_iconst (pc := 23) (v := (k_ng 1)) dX6_winter_23 (by decide) ?_
    exact k_ireturn (pc := 24) rfl dX6_winter_24
  · refine k_iload_n (pc := 16) dX6_winter_16 rfl ?_
    refine k_si1 (pc := 17) (cT_same _ _) ckX6_isSheet kwm_X6_65 ⟨rfl, rfl⟩ ⟨Nat.le_of_ble_eq_true rfl, Nat.le_of_ble_eq_true rfl⟩ ⟨Nat.zero_le _, Nat.zero_le _⟩ (Nat.le_of_ble_eq_true rfl) dX6_winter_17 (fun _ _ hf => kX6_isSheet hf) (fun r4 σ5 => ?_)
    refine k_if_ne (pc := 20) 25 dX6_winter_20 (by decide) ?_ ?_
    · refine k_iload_n (pc := 25) dX6_winter_25 rfl ?_
      refine k_si1 (pc := 26) (cT_same _ _) ckX6_isSort kwm_X6_69 ⟨rfl, rfl⟩ ⟨Nat.le_of_ble_eq_true rfl, Nat.le_of_ble_eq_true rfl⟩ ⟨Nat.zero_le _, Nat.zero_le _⟩ (Nat.le_of_ble_eq_true rfl) dX6_winter_26 (fun _ _ hf => kX6_isSort hf) (fun r6 σ7 => ?_)
      refine k_if_ne (pc := 29) 35 dX6_winter_29 (by decide) ?_ ?_
      · refine k_aload_n (pc := 35) dX6_winter_35 rfl ?_
        refine k_gTX6_sheets (pc := 36) kwf_X6_12 rfl dX6_winter_36 ?_
        refine k_iload_n (pc := 39) dX6_winter_39 rfl ?_
        refine k_iload_n (pc := 40) dX6_winter_40 rfl ?_
        refine k_iload (pc := 41) dX6_winter_41 rfl ?_
        refine k_iload (pc := 43) dX6_winter_43 rfl ?_
        refine k_vi4 (pc := 45) (cT_same _ _) ckX2_faultOf kwm_X6_72 cT_rv1 ⟨rfl, rfl⟩ ⟨Nat.le_of_ble_eq_true rfl, Nat.le_of_ble_eq_true rfl⟩ ⟨Nat.zero_le _, Nat.zero_le _⟩ (Nat.le_of_ble_eq_true rfl) dX6_winter_45 (fun _ _ hf => kX2_faultOf hf) (fun r8 σ9 => ?_)
        refine k_ist7 (pc := 48) dX6_winter_48 (Nat.le_of_ble_eq_true rfl) (fun v10 => ?_)
        refine k_iload (pc := 50) dX6_winter_50 rfl ?_
        refine k_if_eq (pc := 52) 62 dX6_winter_52 (by decide) ?_ ?_
        · refine k_iload (pc := 62) dX6_winter_62 rfl ?_
          refine k_iconst (pc := 64) (v := (nI 1)) dX6_winter_64 (by decide) ?_
          refine k_icmp_lt (pc := 65) 75 dX6_winter_65 (by decide) ?_ ?_
          · refine k_bipush (pc := 75) (v := (k_ng 2)) dX6_winter_75 (by decide) ?_
            exact k_ireturn (pc := 77) rfl dX6_winter_77
          · refine k_iload (pc := 68) dX6_winter_68 rfl ?_
            refine k_bipush (pc := 70) (v := (nI 6)) dX6_winter_70 (by decide) ?_
            refine k_icmp_le (pc := 72) 78 dX6_winter_72 (by decide) ?_ ?_
            · refine k_iload (pc := 78) dX6_winter_78 rfl ?_
              refine k_iconst (pc := 80) (v := (k_ng 1)) dX6_winter_80 (by decide) ?_
              refine k_icmp_lt (pc := 81) 91 dX6_winter_81 (by decide) ?_ ?_
              · refine k_iconst (pc := 91) (v := (k_ng 1)) dX6_winter_91 (by decide) ?_
                exact k_ireturn (pc := 92) rfl dX6_winter_92
              · refine k_iload (pc := 84) dX6_winter_84 rfl ?_
                refine k_iload (pc := 86) dX6_winter_86 rfl ?_
                refine k_icmp_lt (pc := 88) 93 dX6_winter_88 (by decide) ?_ ?_
                · refine k_aload_n (pc := 93) dX6_winter_93 rfl ?_
                  refine k_gTX6_sheets (pc := 94) kwf_X6_12 rfl dX6_winter_94 ?_
                  refine k_iload_n (pc := 97) dX6_winter_97 rfl ?_
                  refine k_iload (pc := 98) dX6_winter_98 rfl ?_
                  refine k_iload (pc := 100) dX6_winter_100 rfl ?_
                  refine k_aload_n (pc := 102) dX6_winter_102 rfl ?_
                  refine k_gTX6_winter (pc := 103) kwf_X6_53 rfl dX6_winter_103 ?_
                  refine k_gTX5_numbers (pc := 106) kwf_X6_194 rfl dX6_winter_106 ?_
                  refine k_vv4 (pc := 109) (cT_same _ _) ckX2_take kwm_X6_86 cT_rv1 ⟨rfl, rfl⟩ ⟨Nat.le_of_ble_eq_true rfl, Nat.le_of_ble_eq_true rfl⟩ ⟨Nat.zero_le _, Nat.zero_le _⟩ (Nat.le_of_ble_eq_true rfl) dX6_winter_109 (fun _ _ hf => kX2_take_a24 hf) (fun r11 σ12 => ?_)
                  refine k_aload_n (pc := 112) dX6_winter_112 rfl ?_
                  refine k_gTX6_winter (pc := 113) kwf_X6_53 rfl dX6_winter_113 ?_
                  refine k_iload_n (pc := 116) dX6_winter_116 rfl ?_
                  refine k_iload (pc := 117) dX6_winter_117 rfl ?_
                  refine k_vv2 (pc := 119) (cT_same _ _) ckX5_find kwm_X6_197 cT_rv6 ⟨rfl, rfl⟩ ⟨Nat.le_of_ble_eq_true rfl, Nat.le_of_ble_eq_true rfl⟩ ⟨Nat.zero_le _, Nat.zero_le _⟩ (Nat.le_of_ble_eq_true rfl) dX6_winter_119 (fun _ _ hf => kX5_find hf) (fun r13 σ14 => ?_)
                  refine k_iload (pc := 122) dX6_winter_122 rfl ?_
                  refine k_iconst (pc := 124) (v := (k_ng 1)) dX6_winter_124 (by decide) ?_
                  refine k_icmp_ne (pc := 125) 138 dX6_winter_125 (by decide) ?_ ?_
                  · refine k_aload_n (pc := 138) dX6_winter_138 rfl ?_
                    refine k_gTX6_winter (pc := 139) kwf_X6_53 rfl dX6_winter_139 ?_
                    refine k_gTX5_first (pc := 142) kwf_X6_203 rfl dX6_winter_142 ?_
                    refine k_iload (pc := 145) dX6_winter_145 rfl ?_
                    refine k_lT29 (pc := 147) dX6_winter_147 ?_
                    exact k_ireturn (pc := 148) rfl dX6_winter_148
                  · refine k_aload_n (pc := 128) dX6_winter_128 rfl ?_
                    refine k_gTX6_winter (pc := 129) kwf_X6_53 rfl dX6_winter_129 ?_
                    refine k_gTX5_most (pc := 132) kwf_X6_200 rfl dX6_winter_132 ?_
                    refine k_goto (pc := 135) 148 dX6_winter_135 (by decide) ?_
                    exact k_ireturn (pc := 148) rfl dX6_winter_148
                · refine k_iconst (pc := 91) (v := (k_ng 1)) dX6_winter_91 (by decide) ?_
                  exact k_ireturn (pc := 92) rfl dX6_winter_92
            · refine k_bipush (pc := 75) (v := (k_ng 2)) dX6_winter_75 (by decide) ?_
              exact k_ireturn (pc := 77) rfl dX6_winter_77
        · refine k_aload_n (pc := 55) dX6_winter_55 rfl ?_
          refine k_iload (pc := 56) dX6_winter_56 rfl ?_
          refine k_vi1 (pc := 58) (cT_same _ _) ckX6_faulty kwm_X6_76 cT_rv0 ⟨rfl, rfl⟩ ⟨Nat.le_of_ble_eq_true rfl, Nat.le_of_ble_eq_true rfl⟩ ⟨Nat.zero_le _, Nat.zero_le _⟩ (Nat.le_of_ble_eq_true rfl) dX6_winter_58 (fun _ _ hf => kX6_faulty hf) (fun r15 σ16 => ?_)
          exact k_ireturn (pc := 61) rfl dX6_winter_61
      · refine k_bipush (pc := 32) (v := (k_ng 2)) dX6_winter_32 (by decide) ?_
        exact k_ireturn (pc := 34) rfl dX6_winter_34
    · refine k_iconst (pc := 23) (v := (k_ng 1)) dX6_winter_23 (by decide) ?_
      exact k_ireturn (pc := 24) rfl dX6_winter_24
-- TallTales$House.ownerAfter(III)I
theorem ckX0_ownerAfter : k_Vok yX0_ownerAfter cX0_ownerAfter 4 (some .int) 3 := ⟨kwk_X0_ownerAfter, kwi_X0_ownerAfter, kwv_X0_ownerAfter, kwn_X0, by decide, by decide +kernel⟩
abbrev rmX0_ownerAfter : Room := { frames := 0, cells := 0, slots := 0, locals := 0 }
abbrev YX0_ownerAfter : k_Y := (rmX0_ownerAfter, cX0_ownerAfter, 4, RX0, (some .int))
noncomputable def fX0_ownerAfter (σ : k_S) (x1 x2 x3 : Int32) : Option (Int32 × k_S) := (if x1 = x2 then k_gd (x3) 10 (some (σ.2 6 (Int32.toNatClampNeg (x3)), σ)) else (if x1 = x3 then k_gd (x2) 10 (some (σ.2 6 (Int32.toNatClampNeg (x2)), σ)) else k_gd (x1) 10 (some (σ.2 6 (Int32.toNatClampNeg (x1)), σ))))
set_option maxRecDepth 100000 in
set_option maxHeartbeats 4000000 in
theorem kX0_ownerAfter {D : va_G} {cI : ClassId} {q : Nat → Nat} {σ : k_S} {x1 x2 x3 : Int32} {r : Int32} {τ : k_S} (h : fX0_ownerAfter σ x1 x2 x3 = some (r, τ)) : k_Ct k_ei yX0_ownerAfter cX0_ownerAfter 4 (some .int) rmX0_ownerAfter (cT cI q) D cI [.ref (q 3), .int x1, .int x2, .int x3] σ r τ := by
  refine k_met (Y := YX0_ownerAfter) (cT_same _ _) (by decide) rfl (Nat.le_of_ble_eq_true rfl) (List.forall_mem_cons.mpr ⟨rfl, List.forall_mem_cons.mpr ⟨rfl, List.forall_mem_cons.mpr ⟨rfl, List.forall_mem_cons.mpr ⟨rfl, fun _ h => absurd h List.not_mem_nil⟩⟩⟩⟩) (fun X hD hI => ?_) h
  subst hD hI
  show KO X YX0_ownerAfter (cT (k_I X) q) 0 0 (k_Q k_ei X (cT (k_I X) q)) 0 [some (.ref (q 3)), some (.int x1), some (.int x2), some (.int x3)] [] σ _
  unfold fX0_ownerAfter
  refine k_iload_n (pc := 0) dX0_ownerAfter_0 rfl ?_
  refine k_iload_n (pc := 1) dX0_ownerAfter_1 rfl ?_
  refine k_icmp_ne (pc := 2) 12 dX0_ownerAfter_2 (by decide) ?_ ?_
  · refine k_iload_n (pc := 12) dX0_ownerAfter_12 rfl ?_
    refine k_iload_n (pc := 13) dX0_ownerAfter_13 rfl ?_
    refine k_icmp_ne (pc := 14) 26 dX0_ownerAfter_14 (by decide) ?_ ?_
    · refine k_aload_n (pc := 26) dX0_ownerAfter_26 rfl ?_
      refine k_gTX0_owners (pc := 27) kwf_X0_15 rfl dX0_ownerAfter_27 ?_
      refine k_iload_n (pc := 30) dX0_ownerAfter_30 rfl ?_
      refine k_lT13 (pc := 31) dX0_ownerAfter_31 ?_
      exact k_ireturn (pc := 32) rfl dX0_ownerAfter_32
    · refine k_aload_n (pc := 17) dX0_ownerAfter_17 rfl ?_
      refine k_gTX0_owners (pc := 18) kwf_X0_15 rfl dX0_ownerAfter_18 ?_
      refine k_iload_n (pc := 21) dX0_ownerAfter_21 rfl ?_
      refine k_lT13 (pc := 22) dX0_ownerAfter_22 ?_
      refine k_goto (pc := 23) 32 dX0_ownerAfter_23 (by decide) ?_
      exact k_ireturn (pc := 32) rfl dX0_ownerAfter_32
  · refine k_aload_n (pc := 5) dX0_ownerAfter_5 rfl ?_
    refine k_gTX0_owners (pc := 6) kwf_X0_15 rfl dX0_ownerAfter_6 ?_
    refine k_iload_n (pc := 9) dX0_ownerAfter_9 rfl ?_
    refine k_lT13 (pc := 10) dX0_ownerAfter_10 ?_
    exact k_ireturn (pc := 11) rfl dX0_ownerAfter_11
-- TallTales$House.strongAfter(III)I
theorem ckX0_strongAfter : k_Vok yX0_strongAfter cX0_strongAfter 7 (some .int) 3 := ⟨kwk_X0_strongAfter, kwi_X0_strongAfter, kwv_X0_strongAfter, kwn_X0, by decide, by decide +kernel⟩
abbrev rmX0_strongAfter : Room := { frames := 2, cells := 0, slots := 0, locals := 45 }
abbrev YX0_strongAfter : k_Y := (rmX0_strongAfter, cX0_strongAfter, 7, RX0, (some .int))
noncomputable def fX0_strongAfter_c49 (kh6 : k_S → Int32 → Int32 → Int32 → Int32 → Int32 → Option (Int32 × k_S)) (σ : k_S) (l1 l2 l3 l4 l5 : Int32) : Option (Int32 × k_S) := k_bn (l5 + (nI 1)) fun v1 => kh6 σ l1 l2 l3 l4 v1
set_option maxRecDepth 100000 in
set_option maxHeartbeats 4000000 in
theorem kX0_strongAfter_c49 {X : k_C} {q : Nat → Nat} (kh6 : k_S → Int32 → Int32 → Int32 → Int32 → Int32 → Option (Int32 × k_S)) (hk6 : ∀ (σ : k_S) (l1 l2 l3 l4 l5 : Int32), KO X YX0_strongAfter (cT (k_I X) q) 0 0 (k_Q k_ei X (cT (k_I X) q)) 6 [some (.ref (q 3)), some (.int l1), some (.int l2), some (.int l3), some (.int l4), some (.int l5), none] [] σ (kh6 σ l1 l2 l3 l4 l5)) (σ : k_S) (l1 l2 l3 l4 l5 : Int32) : KO X YX0_strongAfter (cT (k_I X) q) 0 0 (k_Q k_ei X (cT (k_I X) q)) 49 [some (.ref (q 3)), some (.int l1), some (.int l2), some (.int l3), some (.int l4), some (.int l5), none] [] σ (fX0_strongAfter_c49 kh6 σ l1 l2 l3 l4 l5) := by
  unfold fX0_strongAfter_c49
  refine k_iinc5 (pc := 49) (w := (nI 1)) dX0_strongAfter_49 rfl (by decide) (Nat.le_of_ble_eq_true rfl) (fun v1 => ?_)
  refine k_goto (pc := 52) 6 dX0_strongAfter_52 (by decide) ?_
  exact hk6 σ l1 l2 l3 l4 v1
noncomputable def fX0_strongAfter_c105 (kh61 : k_S → Int32 → Int32 → Int32 → Int32 → Int32 → Int32 → Option (Int32 × k_S)) (σ : k_S) (l1 l2 l3 l4 l5 l6 : Int32) : Option (Int32 × k_S) := k_bn (l6 + (nI 1)) fun v1 => kh61 σ l1 l2 l3 l4 l5 v1
set_option maxRecDepth 100000 in
set_option maxHeartbeats 4000000 in
theorem kX0_strongAfter_c105 {X : k_C} {q : Nat → Nat} (kh61 : k_S → Int32 → Int32 → Int32 → Int32 → Int32 → Int32 → Option (Int32 × k_S)) (hk61 : ∀ (σ : k_S) (l1 l2 l3 l4 l5 l6 : Int32), KO X YX0_strongAfter (cT (k_I X) q) 0 0 (k_Q k_ei X (cT (k_I X) q)) 61 [some (.ref (q 3)), some (.int l1), some (.int l2), some (.int l3), some (.int l4), some (.int l5), some (.int l6)] [] σ (kh61 σ l1 l2 l3 l4 l5 l6)) (σ : k_S) (l1 l2 l3 l4 l5 l6 : Int32) : KO X YX0_strongAfter (cT (k_I X) q) 0 0 (k_Q k_ei X (cT (k_I X) q)) 105 [some (.ref (q 3)), some (.int l1), some (.int l2), some (.int l3), some (.int l4), some (.int l5), some (.int l6)] [] σ (fX0_strongAfter_c105 kh61 σ l1 l2 l3 l4 l5 l6) := by
  unfold fX0_strongAfter_c105
  refine k_iinc6 (pc := 105) (w := (nI 1)) dX0_strongAfter_105 rfl (by decide) (Nat.le_of_ble_eq_true rfl) (fun v1 => ?_)
  refine k_goto (pc := 108) 61 dX0_strongAfter_108 (by decide) ?_
  exact hk61 σ l1 l2 l3 l4 l5 v1
noncomputable def fX0_strongAfter_c61 : Nat → k_S → Int32 → Int32 → Int32 → Int32 → Int32 → Int32 → Option (Int32 × k_S)
  | 0, _, _, _, _, _, _, _ => none
  | n + 1, σ, l1, l2, l3, l4, l5, l6 => (if l6 < σ.1 4 then k_ob (fX0_isTellable σ l6) fun r1 σ2 => (if r1 = 0 then fX0_strongAfter_c105 (fX0_strongAfter_c61 n) σ2 l1 l2 l3 l4 l5 l6 else k_ob (fX0_ownerAfter σ2 l6 l2 l3) fun r3 σ4 => (if r3 = l1 then k_ob (fX0_tallOf σ4 l6) fun r5 σ6 => (if l4 < r5 then k_bn (l5 + (nI 1)) fun v7 => fX0_strongAfter_c105 (fX0_strongAfter_c61 n) σ6 l1 l2 l3 l4 v7 l6 else fX0_strongAfter_c105 (fX0_strongAfter_c61 n) σ6 l1 l2 l3 l4 l5 l6) else fX0_strongAfter_c105 (fX0_strongAfter_c61 n) σ4 l1 l2 l3 l4 l5 l6)) else some (l5, σ))
theorem fX0_strongAfter_c61_s (n : Nat) (σ : k_S) (l1 l2 l3 l4 l5 l6 : Int32) : fX0_strongAfter_c61 (n + 1) σ l1 l2 l3 l4 l5 l6 = (if l6 < σ.1 4 then k_ob (fX0_isTellable σ l6) fun r1 σ2 => (if r1 = 0 then fX0_strongAfter_c105 (fX0_strongAfter_c61 n) σ2 l1 l2 l3 l4 l5 l6 else k_ob (fX0_ownerAfter σ2 l6 l2 l3) fun r3 σ4 => (if r3 = l1 then k_ob (fX0_tallOf σ4 l6) fun r5 σ6 => (if l4 < r5 then k_bn (l5 + (nI 1)) fun v7 => fX0_strongAfter_c105 (fX0_strongAfter_c61 n) σ6 l1 l2 l3 l4 v7 l6 else fX0_strongAfter_c105 (fX0_strongAfter_c61 n) σ6 l1 l2 l3 l4 l5 l6) else fX0_strongAfter_c105 (fX0_strongAfter_c61 n) σ4 l1 l2 l3 l4 l5 l6)) else some (l5, σ)) := rfl
set_option maxRecDepth 100000 in
set_option maxHeartbeats 4000000 in
theorem kX0_strongAfter_c61 {X : k_C} {q : Nat → Nat} : ∀ (n : Nat) (σ : k_S) (l1 l2 l3 l4 l5 l6 : Int32), KO X YX0_strongAfter (cT (k_I X) q) 0 0 (k_Q k_ei X (cT (k_I X) q)) 61 [some (.ref (q 3)), some (.int l1), some (.int l2), some (.int l3), some (.int l4), some (.int l5), some (.int l6)] [] σ (fX0_strongAfter_c61 n σ l1 l2 l3 l4 l5 l6) := by
  intro n
  induction n with
  | zero => intros; exact KO.nil
  | succ n ih =>
    intro σ l1 l2 l3 l4 l5 l6
    rw [fX0_strongAfter_c61_s]
    refine k_iload (pc := 61) dX0_strongAfter_61 rfl ?_
    refine k_aload_n (pc := 63) dX0_strongAfter_63 rfl ?_
    refine k_gTX0_tales (pc := 64) kwf_X0_51 rfl dX0_strongAfter_64 ?_
    refine k_icmp_ge (pc := 67) 111 dX0_strongAfter_67 (by decide) ?_ ?_
    · refine k_iload (pc := 111) dX0_strongAfter_111 rfl ?_
      exact k_ireturn (pc := 113) rfl dX0_strongAfter_113
    · refine k_aload_n (pc := 70) dX0_strongAfter_70 rfl ?_
      refine k_iload (pc := 71) dX0_strongAfter_71 rfl ?_
      refine k_vi1 (pc := 73) (cT_same _ _) ckX0_isTellable kwm_X0_81 cT_rv3 ⟨rfl, rfl⟩ ⟨Nat.le_of_ble_eq_true rfl, Nat.le_of_ble_eq_true rfl⟩ ⟨Nat.zero_le _, Nat.zero_le _⟩ (Nat.le_of_ble_eq_true rfl) dX0_strongAfter_73 (fun _ _ hf => kX0_isTellable hf) (fun r1 σ2 => ?_)
      refine k_if_eq (pc := 76) 105 dX0_strongAfter_76 (by decide) ?_ ?_
      · exact kX0_strongAfter_c105 (fX0_strongAfter_c61 n) ih σ2 l1 l2 l3 l4 l5 l6
      · refine k_aload_n (pc := 79) dX0_strongAfter_79 rfl ?_
        refine k_iload (pc := 80) dX0_strongAfter_80 rfl ?_
        refine k_iload_n (pc := 82) dX0_strongAfter_82 rfl ?_
        refine k_iload_n (pc := 83) dX0_strongAfter_83 rfl ?_
        refine k_vi3 (pc := 84) (cT_same _ _) ckX0_ownerAfter kwm_X0_110 cT_rv3 ⟨rfl, rfl⟩ ⟨Nat.le_of_ble_eq_true rfl, Nat.le_of_ble_eq_true rfl⟩ ⟨Nat.zero_le _, Nat.zero_le _⟩ (Nat.le_of_ble_eq_true rfl) dX0_strongAfter_84 (fun _ _ hf => kX0_ownerAfter hf) (fun r3 σ4 => ?_)
        refine k_iload_n (pc := 87) dX0_strongAfter_87 rfl ?_
        refine k_icmp_ne (pc := 88) 105 dX0_strongAfter_88 (by decide) ?_ ?_
        · exact kX0_strongAfter_c105 (fX0_strongAfter_c61 n) ih σ4 l1 l2 l3 l4 l5 l6
        · refine k_aload_n (pc := 91) dX0_strongAfter_91 rfl ?_
          refine k_iload (pc := 92) dX0_strongAfter_92 rfl ?_
          refine k_vi1 (pc := 94) (cT_same _ _) ckX0_tallOf kwm_X0_94 cT_rv3 ⟨rfl, rfl⟩ ⟨Nat.le_of_ble_eq_true rfl, Nat.le_of_ble_eq_true rfl⟩ ⟨Nat.zero_le _, Nat.zero_le _⟩ (Nat.le_of_ble_eq_true rfl) dX0_strongAfter_94 (fun _ _ hf => kX0_tallOf hf) (fun r5 σ6 => ?_)
          refine k_iload (pc := 97) dX0_strongAfter_97 rfl ?_
          refine k_icmp_le (pc := 99) 105 dX0_strongAfter_99 (by decide) ?_ ?_
          · exact kX0_strongAfter_c105 (fX0_strongAfter_c61 n) ih σ6 l1 l2 l3 l4 l5 l6
          · refine k_iinc5 (pc := 102) (w := (nI 1)) dX0_strongAfter_102 rfl (by decide) (Nat.le_of_ble_eq_true rfl) (fun v7 => ?_)
            exact kX0_strongAfter_c105 (fX0_strongAfter_c61 n) ih σ6 l1 l2 l3 l4 v7 l6
noncomputable def fX0_strongAfter_c6 : Nat → k_S → Int32 → Int32 → Int32 → Int32 → Int32 → Option (Int32 × k_S)
  | 0, _, _, _, _, _, _ => none
  | n + 1, σ, l1, l2, l3, l4, l5 => (if l5 < σ.1 4 then k_ob (fX0_isTellable σ l5) fun r3 σ4 => (if r3 = 0 then fX0_strongAfter_c49 (fX0_strongAfter_c6 n) σ4 l1 l2 l3 l4 l5 else k_ob (fX0_ownerAfter σ4 l5 l2 l3) fun r5 σ6 => (if r5 = l1 then fX0_strongAfter_c49 (fX0_strongAfter_c6 n) σ6 l1 l2 l3 l4 l5 else k_ob (fX0_tallOf σ6 l5) fun r7 σ8 => k_bn ((k_mx (l4) (r7))) fun v9 => fX0_strongAfter_c49 (fX0_strongAfter_c6 n) σ8 l1 l2 l3 v9 l5)) else k_bn ((nI 0)) fun v1 => k_bn ((nI 0)) fun v2 => fX0_strongAfter_c61 k_F σ l1 l2 l3 l4 v1 v2)
theorem fX0_strongAfter_c6_s (n : Nat) (σ : k_S) (l1 l2 l3 l4 l5 : Int32) : fX0_strongAfter_c6 (n + 1) σ l1 l2 l3 l4 l5 = (if l5 < σ.1 4 then k_ob (fX0_isTellable σ l5) fun r3 σ4 => (if r3 = 0 then fX0_strongAfter_c49 (fX0_strongAfter_c6 n) σ4 l1 l2 l3 l4 l5 else k_ob (fX0_ownerAfter σ4 l5 l2 l3) fun r5 σ6 => (if r5 = l1 then fX0_strongAfter_c49 (fX0_strongAfter_c6 n) σ6 l1 l2 l3 l4 l5 else k_ob (fX0_tallOf σ6 l5) fun r7 σ8 => k_bn ((k_mx (l4) (r7))) fun v9 => fX0_strongAfter_c49 (fX0_strongAfter_c6 n) σ8 l1 l2 l3 v9 l5)) else k_bn ((nI 0)) fun v1 => k_bn ((nI 0)) fun v2 => fX0_strongAfter_c61 k_F σ l1 l2 l3 l4 v1 v2) := rfl
set_option maxRecDepth 100000 in
set_option maxHeartbeats 4000000 in
theorem kX0_strongAfter_c6 {X : k_C} {q : Nat → Nat} : ∀ (n : Nat) (σ : k_S) (l1 l2 l3 l4 l5 : Int32), KO X YX0_strongAfter (cT (k_I X) q) 0 0 (k_Q k_ei X (cT (k_I X) q)) 6 [some (.ref (q 3)), some (.int l1), some (.int l2), some (.int l3), some (.int l4), some (.int l5), none] [] σ (fX0_strongAfter_c6 n σ l1 l2 l3 l4 l5) := by
  intro n
  induction n with
  | zero => intros; exact KO.nil
  | succ n ih =>
    intro σ l1 l2 l3 l4 l5
    rw [fX0_strongAfter_c6_s]
    refine k_iload (pc := 6) dX0_strongAfter_6 rfl ?_
    refine k_aload_n (pc := 8) dX0_strongAfter_8 rfl ?_
    refine k_gTX0_tales (pc := 9) kwf_X0_51 rfl dX0_strongAfter_9 ?_
    refine k_icmp_ge (pc := 12) 55 dX0_strongAfter_12 (by decide) ?_ ?_
    · refine k_iconst (pc := 55) (v := (nI 0)) dX0_strongAfter_55 (by decide) ?_
      refine k_ist5 (pc := 56) dX0_strongAfter_56 (Nat.le_of_ble_eq_true rfl) (fun v1 => ?_)
      refine k_iconst (pc := 58) (v := (nI 0)) dX0_strongAfter_58 (by decide) ?_
      refine k_ist6 (pc := 59) dX0_strongAfter_59 (Nat.le_of_ble_eq_true rfl) (fun v2 => ?_)
      exact kX0_strongAfter_c61 k_F σ l1 l2 l3 l4 v1 v2
    · refine k_aload_n (pc := 15) dX0_strongAfter_15 rfl ?_
      refine k_iload (pc := 16) dX0_strongAfter_16 rfl ?_
      refine k_vi1 (pc := 18) (cT_same _ _) ckX0_isTellable kwm_X0_81 cT_rv3 ⟨rfl, rfl⟩ ⟨Nat.le_of_ble_eq_true rfl, Nat.le_of_ble_eq_true rfl⟩ ⟨Nat.zero_le _, Nat.zero_le _⟩ (Nat.le_of_ble_eq_true rfl) dX0_strongAfter_18 (fun _ _ hf => kX0_isTellable hf) (fun r3 σ4 => ?_)
      refine k_if_eq (pc := 21) 49 dX0_strongAfter_21 (by decide) ?_ ?_
      · exact kX0_strongAfter_c49 (fX0_strongAfter_c6 n) ih σ4 l1 l2 l3 l4 l5
      · refine k_aload_n (pc := 24) dX0_strongAfter_24 rfl ?_
        refine k_iload (pc := 25) dX0_strongAfter_25 rfl ?_
        refine k_iload_n (pc := 27) dX0_strongAfter_27 rfl ?_
        refine k_iload_n (pc := 28) dX0_strongAfter_28 rfl ?_
        refine k_vi3 (pc := 29) (cT_same _ _) ckX0_ownerAfter kwm_X0_110 cT_rv3 ⟨rfl, rfl⟩ ⟨Nat.le_of_ble_eq_true rfl, Nat.le_of_ble_eq_true rfl⟩ ⟨Nat.zero_le _, Nat.zero_le _⟩ (Nat.le_of_ble_eq_true rfl) dX0_strongAfter_29 (fun _ _ hf => kX0_ownerAfter hf) (fun r5 σ6 => ?_)
        refine k_iload_n (pc := 32) dX0_strongAfter_32 rfl ?_
        refine k_icmp_eq (pc := 33) 49 dX0_strongAfter_33 (by decide) ?_ ?_
        · exact kX0_strongAfter_c49 (fX0_strongAfter_c6 n) ih σ6 l1 l2 l3 l4 l5
        · refine k_iload (pc := 36) dX0_strongAfter_36 rfl ?_
          refine k_aload_n (pc := 38) dX0_strongAfter_38 rfl ?_
          refine k_iload (pc := 39) dX0_strongAfter_39 rfl ?_
          refine k_vi1 (pc := 41) (cT_same _ _) ckX0_tallOf kwm_X0_94 cT_rv3 ⟨rfl, rfl⟩ ⟨Nat.le_of_ble_eq_true rfl, Nat.le_of_ble_eq_true rfl⟩ ⟨Nat.zero_le _, Nat.zero_le _⟩ (Nat.le_of_ble_eq_true rfl) dX0_strongAfter_41 (fun _ _ hf => kX0_tallOf hf) (fun r7 σ8 => ?_)
          refine k_max (pc := 44) kwm_X0_114 ⟨Nat.le_of_ble_eq_true rfl, Nat.le_of_ble_eq_true rfl⟩ ⟨Nat.zero_le _, Nat.zero_le _⟩ dX0_strongAfter_44 ?_
          refine k_ist4 (pc := 47) dX0_strongAfter_47 (Nat.le_of_ble_eq_true rfl) (fun v9 => ?_)
          exact kX0_strongAfter_c49 (fX0_strongAfter_c6 n) ih σ8 l1 l2 l3 v9 l5
noncomputable def fX0_strongAfter (σ : k_S) (x1 x2 x3 : Int32) : Option (Int32 × k_S) := k_bn ((nI 0)) fun v1 => k_bn ((nI 0)) fun v2 => fX0_strongAfter_c6 k_F σ x1 x2 x3 v1 v2
set_option maxRecDepth 100000 in
set_option maxHeartbeats 4000000 in
theorem kX0_strongAfter {D : va_G} {cI : ClassId} {q : Nat → Nat} {σ : k_S} {x1 x2 x3 : Int32} {r : Int32} {τ : k_S} (h : fX0_strongAfter σ x1 x2 x3 = some (r, τ)) : k_Ct k_ei yX0_strongAfter cX0_strongAfter 7 (some .int) rmX0_strongAfter (cT cI q) D cI [.ref (q 3), .int x1, .int x2, .int x3] σ r τ := by
  refine k_met (Y := YX0_strongAfter) (cT_same _ _) (by decide) rfl (Nat.le_of_ble_eq_true rfl) (List.forall_mem_cons.mpr ⟨rfl, List.forall_mem_cons.mpr ⟨rfl, List.forall_mem_cons.mpr ⟨rfl, List.forall_mem_cons.mpr ⟨rfl, fun _ h => absurd h List.not_mem_nil⟩⟩⟩⟩) (fun X hD hI => ?_) h
  subst hD hI
  show KO X YX0_strongAfter (cT (k_I X) q) 0 0 (k_Q k_ei X (cT (k_I X) q)) 0 [some (.ref (q 3)), some (.int x1), some (.int x2), some (.int x3), none, none, none] [] σ _
  unfold fX0_strongAfter
  refine k_iconst (pc := 0) (v := (nI 0)) dX0_strongAfter_0 (by decide) ?_
  refine k_ist4 (pc := 1) dX0_strongAfter_1 (Nat.le_of_ble_eq_true rfl) (fun v1 => ?_)
  refine k_iconst (pc := 3) (v := (nI 0)) dX0_strongAfter_3 (by decide) ?_
  refine k_ist5 (pc := 4) dX0_strongAfter_4 (Nat.le_of_ble_eq_true rfl) (fun v2 => ?_)
  exact kX0_strongAfter_c6 k_F σ x1 x2 x3 v1 v2
