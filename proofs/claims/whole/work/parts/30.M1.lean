/-! ===== M: methods as pure functions, and that the bytecode answers so (by program: wip/gen/dec.py) ===== -/
-- TallTalesModel.within(III)Z
theorem ckX7_within : k_Sok yX7_within cX7_within 3 (some .boolean) 3 := ⟨kwk_X7_within, kws_X7_within, kwn_X7, by decide, by decide +kernel⟩
abbrev rmX7_within : Room := { frames := 0, cells := 0, slots := 0, locals := 0 }
abbrev YX7_within : k_Y := (rmX7_within, cX7_within, 3, RX7, (some .boolean))
noncomputable def fX7_within (σ : k_S) (x0 x1 x2 : Int32) : Option (Int32 × k_S) := (if x0 < x1 then k_z ((nI 0)) (some ((nI 0), σ)) else (if x2 < x0 then k_z ((nI 0)) (some ((nI 0), σ)) else k_z ((nI 1)) (some ((nI 1), σ))))
set_option maxRecDepth 100000 in
set_option maxHeartbeats 4000000 in
theorem kX7_within {D : va_G} {cI : ClassId} {q : Nat → Nat} {σ : k_S} {x0 x1 x2 : Int32} {r : Int32} {τ : k_S} (h : fX7_within σ x0 x1 x2 = some (r, τ)) : k_Ct k_ei yX7_within cX7_within 3 (some .boolean) rmX7_within (cM cI q) D cI [.int x0, .int x1, .int x2] σ r τ := by
  refine k_met (Y := YX7_within) (cM_same _ _) (by decide) rfl (Nat.le_of_ble_eq_true rfl) (List.forall_mem_cons.mpr ⟨rfl, List.forall_mem_cons.mpr ⟨rfl, List.forall_mem_cons.mpr ⟨rfl, fun _ h => absurd h List.not_mem_nil⟩⟩⟩) (fun X hD hI => ?_) h
  subst hD hI
  show KO X YX7_within (cM (k_I X) q) 0 0 (k_Q k_ei X (cM (k_I X) q)) 0 [some (.int x0), some (.int x1), some (.int x2)] [] σ _
  unfold fX7_within
  refine k_iload_n (pc := 0) dX7_within_0 rfl ?_
  refine k_iload_n (pc := 1) dX7_within_1 rfl ?_
  refine k_icmp_lt (pc := 2) 14 dX7_within_2 (by decide) ?_ ?_
  · refine k_iconst (pc := 14) (v := (nI 0)) dX7_within_14 (by decide) ?_
    exact k_zreturn (pc := 15) rfl dX7_within_15
  · refine k_iload_n (pc := 5) dX7_within_5 rfl ?_
    refine k_iload_n (pc := 6) dX7_within_6 rfl ?_
    refine k_icmp_gt (pc := 7) 14 dX7_within_7 (by decide) ?_ ?_
    · refine k_iconst (pc := 14) (v := (nI 0)) dX7_within_14 (by decide) ?_
      exact k_zreturn (pc := 15) rfl dX7_within_15
    · refine k_iconst (pc := 10) (v := (nI 1)) dX7_within_10 (by decide) ?_
      refine k_goto (pc := 11) 15 dX7_within_11 (by decide) ?_
      exact k_zreturn (pc := 15) rfl dX7_within_15
-- TallTalesModel.isSheet(I)Z
theorem ckX7_isSheet : k_Sok yX7_isSheet cX7_isSheet 1 (some .boolean) 1 := ⟨kwk_X7_isSheet, kws_X7_isSheet, kwn_X7, by decide, by decide +kernel⟩
abbrev rmX7_isSheet : Room := { frames := 1, cells := 0, slots := 0, locals := 22 }
abbrev YX7_isSheet : k_Y := (rmX7_isSheet, cX7_isSheet, 1, RX7, (some .boolean))
noncomputable def fX7_isSheet (σ : k_S) (x0 : Int32) : Option (Int32 × k_S) := k_ob (fX7_within σ x0 ((nI 0)) ((nI 3))) fun r1 σ2 => k_z (r1) (some (r1, σ2))
set_option maxRecDepth 100000 in
set_option maxHeartbeats 4000000 in
theorem kX7_isSheet {D : va_G} {cI : ClassId} {q : Nat → Nat} {σ : k_S} {x0 : Int32} {r : Int32} {τ : k_S} (h : fX7_isSheet σ x0 = some (r, τ)) : k_Ct k_ei yX7_isSheet cX7_isSheet 1 (some .boolean) rmX7_isSheet (cM cI q) D cI [.int x0] σ r τ := by
  refine k_met (Y := YX7_isSheet) (cM_same _ _) (by decide) rfl (Nat.le_of_ble_eq_true rfl) (List.forall_mem_cons.mpr ⟨rfl, fun _ h => absurd h List.not_mem_nil⟩) (fun X hD hI => ?_) h
  subst hD hI
  show KO X YX7_isSheet (cM (k_I X) q) 0 0 (k_Q k_ei X (cM (k_I X) q)) 0 [some (.int x0)] [] σ _
  unfold fX7_isSheet
  refine k_iload_n (pc := 0) dX7_isSheet_0 rfl ?_
  refine k_iconst (pc := 1) (v := (nI 0)) dX7_isSheet_1 (by decide) ?_
  refine k_iconst (pc := 2) (v := (nI 3)) dX7_isSheet_2 (by decide) ?_
  refine k_si3 (pc := 3) (cM_same _ _) ckX7_within kwm_X7_73 ⟨rfl, rfl⟩ ⟨Nat.le_of_ble_eq_true rfl, Nat.le_of_ble_eq_true rfl⟩ ⟨Nat.zero_le _, Nat.zero_le _⟩ (Nat.le_of_ble_eq_true rfl) dX7_isSheet_3 (fun _ _ hf => kX7_within hf) (fun r1 σ2 => ?_)
  exact k_zreturn (pc := 6) rfl dX7_isSheet_6
-- TallTalesModel.isSort(I)Z
theorem ckX7_isSort : k_Sok yX7_isSort cX7_isSort 1 (some .boolean) 1 := ⟨kwk_X7_isSort, kws_X7_isSort, kwn_X7, by decide, by decide +kernel⟩
abbrev rmX7_isSort : Room := { frames := 1, cells := 0, slots := 0, locals := 22 }
abbrev YX7_isSort : k_Y := (rmX7_isSort, cX7_isSort, 1, RX7, (some .boolean))
noncomputable def fX7_isSort (σ : k_S) (x0 : Int32) : Option (Int32 × k_S) := k_ob (fX7_within σ x0 ((nI 0)) ((nI 2))) fun r1 σ2 => k_z (r1) (some (r1, σ2))
set_option maxRecDepth 100000 in
set_option maxHeartbeats 4000000 in
theorem kX7_isSort {D : va_G} {cI : ClassId} {q : Nat → Nat} {σ : k_S} {x0 : Int32} {r : Int32} {τ : k_S} (h : fX7_isSort σ x0 = some (r, τ)) : k_Ct k_ei yX7_isSort cX7_isSort 1 (some .boolean) rmX7_isSort (cM cI q) D cI [.int x0] σ r τ := by
  refine k_met (Y := YX7_isSort) (cM_same _ _) (by decide) rfl (Nat.le_of_ble_eq_true rfl) (List.forall_mem_cons.mpr ⟨rfl, fun _ h => absurd h List.not_mem_nil⟩) (fun X hD hI => ?_) h
  subst hD hI
  show KO X YX7_isSort (cM (k_I X) q) 0 0 (k_Q k_ei X (cM (k_I X) q)) 0 [some (.int x0)] [] σ _
  unfold fX7_isSort
  refine k_iload_n (pc := 0) dX7_isSort_0 rfl ?_
  refine k_iconst (pc := 1) (v := (nI 0)) dX7_isSort_1 (by decide) ?_
  refine k_iconst (pc := 2) (v := (nI 2)) dX7_isSort_2 (by decide) ?_
  refine k_si3 (pc := 3) (cM_same _ _) ckX7_within kwm_X7_73 ⟨rfl, rfl⟩ ⟨Nat.le_of_ble_eq_true rfl, Nat.le_of_ble_eq_true rfl⟩ ⟨Nat.zero_le _, Nat.zero_le _⟩ (Nat.le_of_ble_eq_true rfl) dX7_isSort_3 (fun _ _ hf => kX7_within hf) (fun r1 σ2 => ?_)
  exact k_zreturn (pc := 6) rfl dX7_isSort_6
-- TallTalesModel.against(IIII)I
theorem ckX7_against : k_Vok yX7_against cX7_against 5 (some .int) 4 := ⟨kwk_X7_against, kwi_X7_against, kwv_X7_against, kwn_X7, by decide, by decide +kernel⟩
abbrev rmX7_against : Room := { frames := 0, cells := 0, slots := 0, locals := 0 }
abbrev YX7_against : k_Y := (rmX7_against, cX7_against, 5, RX7, (some .int))
noncomputable def fX7_against_c70 (σ : k_S) : Option (Int32 × k_S) := some ((nI 3), σ)
set_option maxRecDepth 100000 in
set_option maxHeartbeats 4000000 in
theorem kX7_against_c70 {X : k_C} {q : Nat → Nat} (σ : k_S) : KO X YX7_against (cM (k_I X) q) 0 0 (k_Q k_ei X (cM (k_I X) q)) 70 [some (.ref (q 0)), none, none, none, none] [] σ (fX7_against_c70 σ) := by
  unfold fX7_against_c70
  refine k_iconst (pc := 70) (v := (nI 3)) dX7_against_70 (by decide) ?_
  refine k_goto (pc := 71) 75 dX7_against_71 (by decide) ?_
  exact k_ireturn (pc := 75) rfl dX7_against_75
noncomputable def fX7_against_c23 (σ : k_S) (l1 l3 l4 : Int32) : Option (Int32 × k_S) := k_gd (l1) 4 ((if σ.2 0 (Int32.toNatClampNeg (l1)) = (k_ng 9) then some ((nI 1), σ) else (if l4 < 0 then some ((nI 4), σ) else (if l3 < 0 then fX7_against_c70 σ else k_gd (l1) 4 ((if σ.2 1 (Int32.toNatClampNeg (l1)) < l3 then fX7_against_c70 σ else k_gd (l1) 4 ((if (σ.2 1 (Int32.toNatClampNeg (l1)) - l3) < l4 then fX7_against_c70 σ else some ((nI 0), σ)))))))))
set_option maxRecDepth 100000 in
set_option maxHeartbeats 4000000 in
theorem kX7_against_c23 {X : k_C} {q : Nat → Nat} (σ : k_S) (l1 l3 l4 : Int32) : KO X YX7_against (cM (k_I X) q) 0 0 (k_Q k_ei X (cM (k_I X) q)) 23 [some (.ref (q 0)), some (.int l1), none, some (.int l3), some (.int l4)] [] σ (fX7_against_c23 σ l1 l3 l4) := by
  unfold fX7_against_c23
  refine k_aload_n (pc := 23) dX7_against_23 rfl ?_
  refine k_gMX7_sorts (pc := 24) kwf_X7_9 rfl dX7_against_24 ?_
  refine k_iload_n (pc := 27) dX7_against_27 rfl ?_
  refine k_lM1 (pc := 28) dX7_against_28 ?_
  refine k_bipush (pc := 29) (v := (k_ng 9)) dX7_against_29 (by decide) ?_
  refine k_icmp_ne (pc := 31) 36 dX7_against_31 (by decide) ?_ ?_
  · refine k_iload (pc := 36) dX7_against_36 rfl ?_
    refine k_if_ge (pc := 38) 43 dX7_against_38 (by decide) ?_ ?_
    · refine k_iload_n (pc := 43) dX7_against_43 rfl ?_
      refine k_if_lt (pc := 44) 70 dX7_against_44 (by decide) ?_ ?_
      · refine k_fg1 ?_
        refine k_fg3 ?_
        refine k_fg4 ?_
        exact kX7_against_c70 σ
      · refine k_iload_n (pc := 47) dX7_against_47 rfl ?_
        refine k_aload_n (pc := 48) dX7_against_48 rfl ?_
        refine k_gMX7_sheetLong (pc := 49) kwf_X7_13 rfl dX7_against_49 ?_
        refine k_iload_n (pc := 52) dX7_against_52 rfl ?_
        refine k_lM2 (pc := 53) dX7_against_53 ?_
        refine k_icmp_gt (pc := 54) 70 dX7_against_54 (by decide) ?_ ?_
        · refine k_fg1 ?_
          refine k_fg3 ?_
          refine k_fg4 ?_
          exact kX7_against_c70 σ
        · refine k_iload (pc := 57) dX7_against_57 rfl ?_
          refine k_aload_n (pc := 59) dX7_against_59 rfl ?_
          refine k_gMX7_sheetLong (pc := 60) kwf_X7_13 rfl dX7_against_60 ?_
          refine k_iload_n (pc := 63) dX7_against_63 rfl ?_
          refine k_lM2 (pc := 64) dX7_against_64 ?_
          refine k_iload_n (pc := 65) dX7_against_65 rfl ?_
          refine k_isub (pc := 66) dX7_against_66 ?_
          refine k_icmp_le (pc := 67) 74 dX7_against_67 (by decide) ?_ ?_
          · refine k_iconst (pc := 74) (v := (nI 0)) dX7_against_74 (by decide) ?_
            exact k_ireturn (pc := 75) rfl dX7_against_75
          · refine k_fg1 ?_
            refine k_fg3 ?_
            refine k_fg4 ?_
            exact kX7_against_c70 σ
    · refine k_iconst (pc := 41) (v := (nI 4)) dX7_against_41 (by decide) ?_
      exact k_ireturn (pc := 42) rfl dX7_against_42
  · refine k_iconst (pc := 34) (v := (nI 1)) dX7_against_34 (by decide) ?_
    exact k_ireturn (pc := 35) rfl dX7_against_35
noncomputable def fX7_against (σ : k_S) (x1 x2 x3 x4 : Int32) : Option (Int32 × k_S) := k_gd (x1) 4 ((if σ.2 0 (Int32.toNatClampNeg (x1)) = (k_ng 9) then fX7_against_c23 σ x1 x3 x4 else k_gd (x1) 4 ((if σ.2 0 (Int32.toNatClampNeg (x1)) = x2 then fX7_against_c23 σ x1 x3 x4 else some ((nI 2), σ)))))
set_option maxRecDepth 100000 in
set_option maxHeartbeats 4000000 in
theorem kX7_against {D : va_G} {cI : ClassId} {q : Nat → Nat} {σ : k_S} {x1 x2 x3 x4 : Int32} {r : Int32} {τ : k_S} (h : fX7_against σ x1 x2 x3 x4 = some (r, τ)) : k_Ct k_ei yX7_against cX7_against 5 (some .int) rmX7_against (cM cI q) D cI [.ref (q 0), .int x1, .int x2, .int x3, .int x4] σ r τ := by
  refine k_met (Y := YX7_against) (cM_same _ _) (by decide) rfl (Nat.le_of_ble_eq_true rfl) (List.forall_mem_cons.mpr ⟨rfl, List.forall_mem_cons.mpr ⟨rfl, List.forall_mem_cons.mpr ⟨rfl, List.forall_mem_cons.mpr ⟨rfl, List.forall_mem_cons.mpr ⟨rfl, fun _ h => absurd h List.not_mem_nil⟩⟩⟩⟩⟩) (fun X hD hI => ?_) h
  subst hD hI
  show KO X YX7_against (cM (k_I X) q) 0 0 (k_Q k_ei X (cM (k_I X) q)) 0 [some (.ref (q 0)), some (.int x1), some (.int x2), some (.int x3), some (.int x4)] [] σ _
  unfold fX7_against
  refine k_aload_n (pc := 0) dX7_against_0 rfl ?_
  refine k_gMX7_sorts (pc := 1) kwf_X7_9 rfl dX7_against_1 ?_
  refine k_iload_n (pc := 4) dX7_against_4 rfl ?_
  refine k_lM1 (pc := 5) dX7_against_5 ?_
  refine k_bipush (pc := 6) (v := (k_ng 9)) dX7_against_6 (by decide) ?_
  refine k_icmp_eq (pc := 8) 23 dX7_against_8 (by decide) ?_ ?_
  · refine k_fg2 ?_
    exact kX7_against_c23 σ x1 x3 x4
  · refine k_aload_n (pc := 11) dX7_against_11 rfl ?_
    refine k_gMX7_sorts (pc := 12) kwf_X7_9 rfl dX7_against_12 ?_
    refine k_iload_n (pc := 15) dX7_against_15 rfl ?_
    refine k_lM1 (pc := 16) dX7_against_16 ?_
    refine k_iload_n (pc := 17) dX7_against_17 rfl ?_
    refine k_icmp_eq (pc := 18) 23 dX7_against_18 (by decide) ?_ ?_
    · refine k_fg2 ?_
      exact kX7_against_c23 σ x1 x3 x4
    · refine k_iconst (pc := 21) (v := (nI 2)) dX7_against_21 (by decide) ?_
      exact k_ireturn (pc := 22) rfl dX7_against_22
-- TallTalesModel.fails(I)I
theorem ckX7_fails : k_Vok yX7_fails cX7_fails 2 (some .int) 1 := ⟨kwk_X7_fails, kwi_X7_fails, kwv_X7_fails, kwn_X7, by decide, by decide +kernel⟩
abbrev rmX7_fails : Room := { frames := 0, cells := 0, slots := 0, locals := 0 }
abbrev YX7_fails : k_Y := (rmX7_fails, cX7_fails, 2, RX7, (some .int))
noncomputable def fX7_fails (σ : k_S) (x1 : Int32) : Option (Int32 × k_S) := k_bn (k_sf σ 0 (x1)) fun σ1 => some (((k_ng 10) - x1), σ1)
set_option maxRecDepth 100000 in
set_option maxHeartbeats 4000000 in
theorem kX7_fails {D : va_G} {cI : ClassId} {q : Nat → Nat} {σ : k_S} {x1 : Int32} {r : Int32} {τ : k_S} (h : fX7_fails σ x1 = some (r, τ)) : k_Ct k_ei yX7_fails cX7_fails 2 (some .int) rmX7_fails (cM cI q) D cI [.ref (q 0), .int x1] σ r τ := by
  refine k_met (Y := YX7_fails) (cM_same _ _) (by decide) rfl (Nat.le_of_ble_eq_true rfl) (List.forall_mem_cons.mpr ⟨rfl, List.forall_mem_cons.mpr ⟨rfl, fun _ h => absurd h List.not_mem_nil⟩⟩) (fun X hD hI => ?_) h
  subst hD hI
  show KO X YX7_fails (cM (k_I X) q) 0 0 (k_Q k_ei X (cM (k_I X) q)) 0 [some (.ref (q 0)), some (.int x1)] [] σ _
  unfold fX7_fails
  refine k_aload_n (pc := 0) dX7_fails_0 rfl ?_
  refine k_iload_n (pc := 1) dX7_fails_1 rfl ?_
  refine k_pMX7_fault (pc := 2) kwf_X7_67 rfl dX7_fails_2 (fun σ1 => ?_)
  refine k_bipush (pc := 5) (v := (k_ng 10)) dX7_fails_5 (by decide) ?_
  refine k_iload_n (pc := 7) dX7_fails_7 rfl ?_
  refine k_isub (pc := 8) dX7_fails_8 ?_
  exact k_ireturn (pc := 9) rfl dX7_fails_9
-- TallTalesModel.digitAt(II)I
theorem ckX7_digitAt : k_Vok yX7_digitAt cX7_digitAt 3 (some .int) 2 := ⟨kwk_X7_digitAt, kwi_X7_digitAt, kwv_X7_digitAt, kwn_X7, by decide, by decide +kernel⟩
abbrev rmX7_digitAt : Room := { frames := 1, cells := 0, slots := 0, locals := 22 }
abbrev YX7_digitAt : k_Y := (rmX7_digitAt, cX7_digitAt, 3, RX7, (some .int))
noncomputable def fX7_digitAt (σ : k_S) (x1 x2 : Int32) : Option (Int32 × k_S) := (if x1 < x2 then k_gd (x1) 240 (k_ob (fX7_within σ (σ.2 2 (Int32.toNatClampNeg (x1))) ((nI 48)) ((nI 57))) fun r1 σ2 => (if r1 = 0 then some ((k_ng 9), σ2) else k_gd (x1) 240 (some ((σ2.2 2 (Int32.toNatClampNeg (x1)) - (nI 48)), σ2)))) else some ((k_ng 9), σ))
set_option maxRecDepth 100000 in
set_option maxHeartbeats 4000000 in
theorem kX7_digitAt {D : va_G} {cI : ClassId} {q : Nat → Nat} {σ : k_S} {x1 x2 : Int32} {r : Int32} {τ : k_S} (h : fX7_digitAt σ x1 x2 = some (r, τ)) : k_Ct k_ei yX7_digitAt cX7_digitAt 3 (some .int) rmX7_digitAt (cM cI q) D cI [.ref (q 0), .int x1, .int x2] σ r τ := by
  refine k_met (Y := YX7_digitAt) (cM_same _ _) (by decide) rfl (Nat.le_of_ble_eq_true rfl) (List.forall_mem_cons.mpr ⟨rfl, List.forall_mem_cons.mpr ⟨rfl, List.forall_mem_cons.mpr ⟨rfl, fun _ h => absurd h List.not_mem_nil⟩⟩⟩) (fun X hD hI => ?_) h
  subst hD hI
  show KO X YX7_digitAt (cM (k_I X) q) 0 0 (k_Q k_ei X (cM (k_I X) q)) 0 [some (.ref (q 0)), some (.int x1), some (.int x2)] [] σ _
  unfold fX7_digitAt
  refine k_iload_n (pc := 0) dX7_digitAt_0 rfl ?_
  refine k_iload_n (pc := 1) dX7_digitAt_1 rfl ?_
  refine k_icmp_ge (pc := 2) 33 dX7_digitAt_2 (by decide) ?_ ?_
  · refine k_bipush (pc := 33) (v := (k_ng 9)) dX7_digitAt_33 (by decide) ?_
    exact k_ireturn (pc := 35) rfl dX7_digitAt_35
  · refine k_aload_n (pc := 5) dX7_digitAt_5 rfl ?_
    refine k_gMX7_cells (pc := 6) kwf_X7_16 rfl dX7_digitAt_6 ?_
    refine k_iload_n (pc := 9) dX7_digitAt_9 rfl ?_
    refine k_lM3 (pc := 10) dX7_digitAt_10 ?_
    refine k_bipush (pc := 11) (v := (nI 48)) dX7_digitAt_11 (by decide) ?_
    refine k_bipush (pc := 13) (v := (nI 57)) dX7_digitAt_13 (by decide) ?_
    refine k_si3 (pc := 15) (cM_same _ _) ckX7_within kwm_X7_73 ⟨rfl, rfl⟩ ⟨Nat.le_of_ble_eq_true rfl, Nat.le_of_ble_eq_true rfl⟩ ⟨Nat.zero_le _, Nat.zero_le _⟩ (Nat.le_of_ble_eq_true rfl) dX7_digitAt_15 (fun _ _ hf => kX7_within hf) (fun r1 σ2 => ?_)
    refine k_if_eq (pc := 18) 33 dX7_digitAt_18 (by decide) ?_ ?_
    · refine k_bipush (pc := 33) (v := (k_ng 9)) dX7_digitAt_33 (by decide) ?_
      exact k_ireturn (pc := 35) rfl dX7_digitAt_35
    · refine k_aload_n (pc := 21) dX7_digitAt_21 rfl ?_
      refine k_gMX7_cells (pc := 22) kwf_X7_16 rfl dX7_digitAt_22 ?_
      refine k_iload_n (pc := 25) dX7_digitAt_25 rfl ?_
      refine k_lM3 (pc := 26) dX7_digitAt_26 ?_
      refine k_bipush (pc := 27) (v := (nI 48)) dX7_digitAt_27 (by decide) ?_
      refine k_isub (pc := 29) dX7_digitAt_29 ?_
      refine k_goto (pc := 30) 35 dX7_digitAt_30 (by decide) ?_
      exact k_ireturn (pc := 35) rfl dX7_digitAt_35
-- TallTalesModel.readTale(I)Z
theorem ckX7_readTale : k_Vok yX7_readTale cX7_readTale 6 (some .boolean) 1 := ⟨kwk_X7_readTale, kwi_X7_readTale, kwv_X7_readTale, kwn_X7, by decide, by decide +kernel⟩
abbrev rmX7_readTale : Room := { frames := 2, cells := 0, slots := 0, locals := 44 }
abbrev YX7_readTale : k_Y := (rmX7_readTale, cX7_readTale, 6, RX7, (some .boolean))
noncomputable def fX7_readTale_c187 (σ : k_S) (s1 s2 : Int32) : Option (Int32 × k_S) := k_bn (k_sf σ 5 ((s1 + s2))) fun σ1 => k_z ((nI 0)) (some ((nI 0), σ1))
set_option maxRecDepth 100000 in
set_option maxHeartbeats 4000000 in
theorem kX7_readTale_c187 {X : k_C} {q : Nat → Nat} (σ : k_S) (s1 s2 : Int32) : KO X YX7_readTale (cM (k_I X) q) 0 0 (k_Q k_ei X (cM (k_I X) q)) 187 [some (.ref (q 0)), none, none, none, none, none] [.int s2, .int s1, .ref (q 0)] σ (fX7_readTale_c187 σ s1 s2) := by
  unfold fX7_readTale_c187
  refine k_iadd (pc := 187) dX7_readTale_187 ?_
  refine k_pMX7_at (pc := 188) kwf_X7_98 rfl dX7_readTale_188 (fun σ1 => ?_)
  refine k_iconst (pc := 191) (v := (nI 0)) dX7_readTale_191 (by decide) ?_
  exact k_zreturn (pc := 192) rfl dX7_readTale_192
noncomputable def fX7_readTale_c170 (σ : k_S) (l4 : Int32) : Option (Int32 × k_S) := (if l4 = (k_ng 9) then fX7_readTale_c187 σ (σ.1 5) ((nI 0)) else fX7_readTale_c187 σ (σ.1 5) ((nI 1)))
set_option maxRecDepth 100000 in
set_option maxHeartbeats 4000000 in
theorem kX7_readTale_c170 {X : k_C} {q : Nat → Nat} (σ : k_S) (l4 : Int32) : KO X YX7_readTale (cM (k_I X) q) 0 0 (k_Q k_ei X (cM (k_I X) q)) 170 [some (.ref (q 0)), none, none, none, some (.int l4), none] [] σ (fX7_readTale_c170 σ l4) := by
  unfold fX7_readTale_c170
  refine k_aload_n (pc := 170) dX7_readTale_170 rfl ?_
  refine k_dup (pc := 171) dX7_readTale_171 rfl ?_
  refine k_gMX7_at (pc := 172) kwf_X7_98 rfl dX7_readTale_172 ?_
  refine k_iload (pc := 175) dX7_readTale_175 rfl ?_
  refine k_bipush (pc := 177) (v := (k_ng 9)) dX7_readTale_177 (by decide) ?_
  refine k_icmp_ne (pc := 179) 186 dX7_readTale_179 (by decide) ?_ ?_
  · refine k_iconst (pc := 186) (v := (nI 1)) dX7_readTale_186 (by decide) ?_
    refine k_fg4 ?_
    exact kX7_readTale_c187 σ (σ.1 5) ((nI 1))
  · refine k_iconst (pc := 182) (v := (nI 0)) dX7_readTale_182 (by decide) ?_
    refine k_goto (pc := 183) 187 dX7_readTale_183 (by decide) ?_
    refine k_fg4 ?_
    exact kX7_readTale_c187 σ (σ.1 5) ((nI 0))
noncomputable def fX7_readTale_c62 (σ : k_S) (l1 l3 s1 s2 : Int32) : Option (Int32 × k_S) := k_gd (s1) 10 (k_bn (k_sa σ 6 (s1) (s2)) fun σ1 => k_gd (l3) 10 ((if σ1.2 6 (Int32.toNatClampNeg (l3)) = (k_ng 9) then k_z ((nI 0)) (some ((nI 0), σ1)) else k_bn (k_sf σ1 5 ((σ1.1 5 + (nI 1)))) fun σ2 => k_ob (fX7_digitAt σ2 (σ2.1 5) l1) fun r3 σ4 => k_gd (l3) 10 (k_bn (k_sa σ4 7 (l3) (r3)) fun σ5 => k_gd (l3) 10 (k_ob (fX7_within σ5 (σ5.2 7 (Int32.toNatClampNeg (l3))) ((nI 0)) ((σ5.1 6 - (nI 1)))) fun r6 σ7 => (if r6 = 0 then k_z ((nI 0)) (some ((nI 0), σ7)) else k_bn (k_sf σ7 5 ((σ7.1 5 + (nI 1)))) fun σ8 => k_ob (fX7_digitAt σ8 (σ8.1 5) l1) fun r9 σ10 => k_bn (r9) fun v11 => k_ob (fX7_digitAt σ10 ((σ10.1 5 + (nI 1))) l1) fun r12 σ13 => k_bn (r12) fun v14 => (if v11 = (k_ng 9) then fX7_readTale_c170 σ13 v11 else (if v14 = (k_ng 9) then fX7_readTale_c170 σ13 v11 else k_gd (l3) 10 (k_bn (k_sa σ13 8 (l3) ((((nI 10) * v11) + v14))) fun σ15 => k_gd (l3) 10 ((if σ15.2 8 (Int32.toNatClampNeg (l3)) = 0 then k_z ((nI 0)) (some ((nI 0), σ15)) else k_bn (k_sf σ15 5 ((σ15.1 5 + (nI 2)))) fun σ16 => k_bn (k_sf σ16 7 ((σ16.1 7 + (nI 1)))) fun σ17 => k_z ((nI 1)) (some ((nI 1), σ17)))))))))))))
set_option maxRecDepth 100000 in
set_option maxHeartbeats 4000000 in
theorem kX7_readTale_c62 {X : k_C} {q : Nat → Nat} (σ : k_S) (l1 l3 s1 s2 : Int32) : KO X YX7_readTale (cM (k_I X) q) 0 0 (k_Q k_ei X (cM (k_I X) q)) 62 [some (.ref (q 0)), some (.int l1), none, some (.int l3), none, none] [.int s2, .int s1, .ref (q 7)] σ (fX7_readTale_c62 σ l1 l3 s1 s2) := by
  unfold fX7_readTale_c62
  refine k_sM7 (pc := 62) dX7_readTale_62 (fun σ1 => ?_)
  refine k_aload_n (pc := 63) dX7_readTale_63 rfl ?_
  refine k_gMX7_readKind (pc := 64) kwf_X7_28 rfl dX7_readTale_64 ?_
  refine k_iload_n (pc := 67) dX7_readTale_67 rfl ?_
  refine k_lM7 (pc := 68) dX7_readTale_68 ?_
  refine k_bipush (pc := 69) (v := (k_ng 9)) dX7_readTale_69 (by decide) ?_
  refine k_icmp_ne (pc := 71) 76 dX7_readTale_71 (by decide) ?_ ?_
  · refine k_aload_n (pc := 76) dX7_readTale_76 rfl ?_
    refine k_dup (pc := 77) dX7_readTale_77 rfl ?_
    refine k_gMX7_at (pc := 78) kwf_X7_98 rfl dX7_readTale_78 ?_
    refine k_iconst (pc := 81) (v := (nI 1)) dX7_readTale_81 (by decide) ?_
    refine k_iadd (pc := 82) dX7_readTale_82 ?_
    refine k_pMX7_at (pc := 83) kwf_X7_98 rfl dX7_readTale_83 (fun σ2 => ?_)
    refine k_aload_n (pc := 86) dX7_readTale_86 rfl ?_
    refine k_gMX7_readWhose (pc := 87) kwf_X7_31 rfl dX7_readTale_87 ?_
    refine k_iload_n (pc := 90) dX7_readTale_90 rfl ?_
    refine k_aload_n (pc := 91) dX7_readTale_91 rfl ?_
    refine k_aload_n (pc := 92) dX7_readTale_92 rfl ?_
    refine k_gMX7_at (pc := 93) kwf_X7_98 rfl dX7_readTale_93 ?_
    refine k_iload_n (pc := 96) dX7_readTale_96 rfl ?_
    refine k_vi2 (pc := 97) (cM_same _ _) ckX7_digitAt kwm_X7_122 cM_rv0 ⟨rfl, rfl⟩ ⟨Nat.le_of_ble_eq_true rfl, Nat.le_of_ble_eq_true rfl⟩ ⟨Nat.zero_le _, Nat.zero_le _⟩ (Nat.le_of_ble_eq_true rfl) dX7_readTale_97 (fun _ _ hf => kX7_digitAt hf) (fun r3 σ4 => ?_)
    refine k_sM8 (pc := 100) dX7_readTale_100 (fun σ5 => ?_)
    refine k_aload_n (pc := 101) dX7_readTale_101 rfl ?_
    refine k_gMX7_readWhose (pc := 102) kwf_X7_31 rfl dX7_readTale_102 ?_
    refine k_iload_n (pc := 105) dX7_readTale_105 rfl ?_
    refine k_lM8 (pc := 106) dX7_readTale_106 ?_
    refine k_iconst (pc := 107) (v := (nI 0)) dX7_readTale_107 (by decide) ?_
    refine k_aload_n (pc := 108) dX7_readTale_108 rfl ?_
    refine k_gMX7_readGuests (pc := 109) kwf_X7_104 rfl dX7_readTale_109 ?_
    refine k_iconst (pc := 112) (v := (nI 1)) dX7_readTale_112 (by decide) ?_
    refine k_isub (pc := 113) dX7_readTale_113 ?_
    refine k_si3 (pc := 114) (cM_same _ _) ckX7_within kwm_X7_73 ⟨rfl, rfl⟩ ⟨Nat.le_of_ble_eq_true rfl, Nat.le_of_ble_eq_true rfl⟩ ⟨Nat.zero_le _, Nat.zero_le _⟩ (Nat.le_of_ble_eq_true rfl) dX7_readTale_114 (fun _ _ hf => kX7_within hf) (fun r6 σ7 => ?_)
    refine k_if_ne (pc := 117) 122 dX7_readTale_117 (by decide) ?_ ?_
    · refine k_aload_n (pc := 122) dX7_readTale_122 rfl ?_
      refine k_dup (pc := 123) dX7_readTale_123 rfl ?_
      refine k_gMX7_at (pc := 124) kwf_X7_98 rfl dX7_readTale_124 ?_
      refine k_iconst (pc := 127) (v := (nI 1)) dX7_readTale_127 (by decide) ?_
      refine k_iadd (pc := 128) dX7_readTale_128 ?_
      refine k_pMX7_at (pc := 129) kwf_X7_98 rfl dX7_readTale_129 (fun σ8 => ?_)
      refine k_aload_n (pc := 132) dX7_readTale_132 rfl ?_
      refine k_aload_n (pc := 133) dX7_readTale_133 rfl ?_
      refine k_gMX7_at (pc := 134) kwf_X7_98 rfl dX7_readTale_134 ?_
      refine k_iload_n (pc := 137) dX7_readTale_137 rfl ?_
      refine k_vi2 (pc := 138) (cM_same _ _) ckX7_digitAt kwm_X7_122 cM_rv0 ⟨rfl, rfl⟩ ⟨Nat.le_of_ble_eq_true rfl, Nat.le_of_ble_eq_true rfl⟩ ⟨Nat.zero_le _, Nat.zero_le _⟩ (Nat.le_of_ble_eq_true rfl) dX7_readTale_138 (fun _ _ hf => kX7_digitAt hf) (fun r9 σ10 => ?_)
      refine k_ist4 (pc := 141) dX7_readTale_141 (Nat.le_of_ble_eq_true rfl) (fun v11 => ?_)
      refine k_aload_n (pc := 143) dX7_readTale_143 rfl ?_
      refine k_aload_n (pc := 144) dX7_readTale_144 rfl ?_
      refine k_gMX7_at (pc := 145) kwf_X7_98 rfl dX7_readTale_145 ?_
      refine k_iconst (pc := 148) (v := (nI 1)) dX7_readTale_148 (by decide) ?_
      refine k_iadd (pc := 149) dX7_readTale_149 ?_
      refine k_iload_n (pc := 150) dX7_readTale_150 rfl ?_
      refine k_vi2 (pc := 151) (cM_same _ _) ckX7_digitAt kwm_X7_122 cM_rv0 ⟨rfl, rfl⟩ ⟨Nat.le_of_ble_eq_true rfl, Nat.le_of_ble_eq_true rfl⟩ ⟨Nat.zero_le _, Nat.zero_le _⟩ (Nat.le_of_ble_eq_true rfl) dX7_readTale_151 (fun _ _ hf => kX7_digitAt hf) (fun r12 σ13 => ?_)
      refine k_ist5 (pc := 154) dX7_readTale_154 (Nat.le_of_ble_eq_true rfl) (fun v14 => ?_)
      refine k_iload (pc := 156) dX7_readTale_156 rfl ?_
      refine k_bipush (pc := 158) (v := (k_ng 9)) dX7_readTale_158 (by decide) ?_
      refine k_icmp_eq (pc := 160) 170 dX7_readTale_160 (by decide) ?_ ?_
      · refine k_fg1 ?_
        refine k_fg3 ?_
        refine k_fg5 ?_
        exact kX7_readTale_c170 σ13 v11
      · refine k_iload (pc := 163) dX7_readTale_163 rfl ?_
        refine k_bipush (pc := 165) (v := (k_ng 9)) dX7_readTale_165 (by decide) ?_
        refine k_icmp_ne (pc := 167) 193 dX7_readTale_167 (by decide) ?_ ?_
        · refine k_aload_n (pc := 193) dX7_readTale_193 rfl ?_
          refine k_gMX7_readHigh (pc := 194) kwf_X7_34 rfl dX7_readTale_194 ?_
          refine k_iload_n (pc := 197) dX7_readTale_197 rfl ?_
          refine k_bipush (pc := 198) (v := (nI 10)) dX7_readTale_198 (by decide) ?_
          refine k_iload (pc := 200) dX7_readTale_200 rfl ?_
          refine k_imul (pc := 202) dX7_readTale_202 ?_
          refine k_iload (pc := 203) dX7_readTale_203 rfl ?_
          refine k_iadd (pc := 205) dX7_readTale_205 ?_
          refine k_sM9 (pc := 206) dX7_readTale_206 (fun σ15 => ?_)
          refine k_aload_n (pc := 207) dX7_readTale_207 rfl ?_
          refine k_gMX7_readHigh (pc := 208) kwf_X7_34 rfl dX7_readTale_208 ?_
          refine k_iload_n (pc := 211) dX7_readTale_211 rfl ?_
          refine k_lM9 (pc := 212) dX7_readTale_212 ?_
          refine k_if_ne (pc := 213) 218 dX7_readTale_213 (by decide) ?_ ?_
          · refine k_aload_n (pc := 218) dX7_readTale_218 rfl ?_
            refine k_dup (pc := 219) dX7_readTale_219 rfl ?_
            refine k_gMX7_at (pc := 220) kwf_X7_98 rfl dX7_readTale_220 ?_
            refine k_iconst (pc := 223) (v := (nI 2)) dX7_readTale_223 (by decide) ?_
            refine k_iadd (pc := 224) dX7_readTale_224 ?_
            refine k_pMX7_at (pc := 225) kwf_X7_98 rfl dX7_readTale_225 (fun σ16 => ?_)
            refine k_aload_n (pc := 228) dX7_readTale_228 rfl ?_
            refine k_dup (pc := 229) dX7_readTale_229 rfl ?_
            refine k_gMX7_readTales (pc := 230) kwf_X7_107 rfl dX7_readTale_230 ?_
            refine k_iconst (pc := 233) (v := (nI 1)) dX7_readTale_233 (by decide) ?_
            refine k_iadd (pc := 234) dX7_readTale_234 ?_
            refine k_pMX7_readTales (pc := 235) kwf_X7_107 rfl dX7_readTale_235 (fun σ17 => ?_)
            refine k_iconst (pc := 238) (v := (nI 1)) dX7_readTale_238 (by decide) ?_
            exact k_zreturn (pc := 239) rfl dX7_readTale_239
          · refine k_iconst (pc := 216) (v := (nI 0)) dX7_readTale_216 (by decide) ?_
            exact k_zreturn (pc := 217) rfl dX7_readTale_217
        · refine k_fg1 ?_
          refine k_fg3 ?_
          refine k_fg5 ?_
          exact kX7_readTale_c170 σ13 v11
    · refine k_iconst (pc := 120) (v := (nI 0)) dX7_readTale_120 (by decide) ?_
      exact k_zreturn (pc := 121) rfl dX7_readTale_121
  · refine k_iconst (pc := 74) (v := (nI 0)) dX7_readTale_74 (by decide) ?_
    exact k_zreturn (pc := 75) rfl dX7_readTale_75
noncomputable def fX7_readTale (σ : k_S) (x1 : Int32) : Option (Int32 × k_S) := (if σ.1 5 < x1 then k_gd (σ.1 5) 240 (k_bn (σ.2 2 (Int32.toNatClampNeg (σ.1 5))) fun v1 => k_bn (σ.1 7) fun v2 => (if v1 = (nI 116) then fX7_readTale_c62 σ x1 v2 v2 ((nI 0)) else (if v1 = (nI 103) then fX7_readTale_c62 σ x1 v2 v2 ((nI 1)) else (if v1 = (nI 119) then fX7_readTale_c62 σ x1 v2 v2 ((nI 2)) else fX7_readTale_c62 σ x1 v2 v2 ((k_ng 9)))))) else k_z ((nI 0)) (some ((nI 0), σ)))
set_option maxRecDepth 100000 in
set_option maxHeartbeats 4000000 in
theorem kX7_readTale {D : va_G} {cI : ClassId} {q : Nat → Nat} {σ : k_S} {x1 : Int32} {r : Int32} {τ : k_S} (h : fX7_readTale σ x1 = some (r, τ)) : k_Ct k_ei yX7_readTale cX7_readTale 6 (some .boolean) rmX7_readTale (cM cI q) D cI [.ref (q 0), .int x1] σ r τ := by
  refine k_met (Y := YX7_readTale) (cM_same _ _) (by decide) rfl (Nat.le_of_ble_eq_true rfl) (List.forall_mem_cons.mpr ⟨rfl, List.forall_mem_cons.mpr ⟨rfl, fun _ h => absurd h List.not_mem_nil⟩⟩) (fun X hD hI => ?_) h
  subst hD hI
  show KO X YX7_readTale (cM (k_I X) q) 0 0 (k_Q k_ei X (cM (k_I X) q)) 0 [some (.ref (q 0)), some (.int x1), none, none, none, none] [] σ _
  unfold fX7_readTale
  refine k_aload_n (pc := 0) dX7_readTale_0 rfl ?_
  refine k_gMX7_at (pc := 1) kwf_X7_98 rfl dX7_readTale_1 ?_
  refine k_iload_n (pc := 4) dX7_readTale_4 rfl ?_
  refine k_icmp_lt (pc := 5) 10 dX7_readTale_5 (by decide) ?_ ?_
  · refine k_aload_n (pc := 10) dX7_readTale_10 rfl ?_
    refine k_gMX7_cells (pc := 11) kwf_X7_16 rfl dX7_readTale_11 ?_
    refine k_aload_n (pc := 14) dX7_readTale_14 rfl ?_
    refine k_gMX7_at (pc := 15) kwf_X7_98 rfl dX7_readTale_15 ?_
    refine k_lM3 (pc := 18) dX7_readTale_18 ?_
    refine k_ist2 (pc := 19) dX7_readTale_19 (Nat.le_of_ble_eq_true rfl) (fun v1 => ?_)
    refine k_aload_n (pc := 20) dX7_readTale_20 rfl ?_
    refine k_gMX7_readTales (pc := 21) kwf_X7_107 rfl dX7_readTale_21 ?_
    refine k_ist3 (pc := 24) dX7_readTale_24 (Nat.le_of_ble_eq_true rfl) (fun v2 => ?_)
    refine k_aload_n (pc := 25) dX7_readTale_25 rfl ?_
    refine k_gMX7_readKind (pc := 26) kwf_X7_28 rfl dX7_readTale_26 ?_
    refine k_iload_n (pc := 29) dX7_readTale_29 rfl ?_
    refine k_iload_n (pc := 30) dX7_readTale_30 rfl ?_
    refine k_bipush (pc := 31) (v := (nI 116)) dX7_readTale_31 (by decide) ?_
    refine k_icmp_ne (pc := 33) 40 dX7_readTale_33 (by decide) ?_ ?_
    · refine k_iload_n (pc := 40) dX7_readTale_40 rfl ?_
      refine k_bipush (pc := 41) (v := (nI 103)) dX7_readTale_41 (by decide) ?_
      refine k_icmp_ne (pc := 43) 50 dX7_readTale_43 (by decide) ?_ ?_
      · refine k_iload_n (pc := 50) dX7_readTale_50 rfl ?_
        refine k_bipush (pc := 51) (v := (nI 119)) dX7_readTale_51 (by decide) ?_
        refine k_icmp_ne (pc := 53) 60 dX7_readTale_53 (by decide) ?_ ?_
        · refine k_bipush (pc := 60) (v := (k_ng 9)) dX7_readTale_60 (by decide) ?_
          refine k_fg2 ?_
          exact kX7_readTale_c62 σ x1 v2 v2 ((k_ng 9))
        · refine k_iconst (pc := 56) (v := (nI 2)) dX7_readTale_56 (by decide) ?_
          refine k_goto (pc := 57) 62 dX7_readTale_57 (by decide) ?_
          refine k_fg2 ?_
          exact kX7_readTale_c62 σ x1 v2 v2 ((nI 2))
      · refine k_iconst (pc := 46) (v := (nI 1)) dX7_readTale_46 (by decide) ?_
        refine k_goto (pc := 47) 62 dX7_readTale_47 (by decide) ?_
        refine k_fg2 ?_
        exact kX7_readTale_c62 σ x1 v2 v2 ((nI 1))
    · refine k_iconst (pc := 36) (v := (nI 0)) dX7_readTale_36 (by decide) ?_
      refine k_goto (pc := 37) 62 dX7_readTale_37 (by decide) ?_
      refine k_fg2 ?_
      exact kX7_readTale_c62 σ x1 v2 v2 ((nI 0))
  · refine k_iconst (pc := 8) (v := (nI 0)) dX7_readTale_8 (by decide) ?_
    exact k_zreturn (pc := 9) rfl dX7_readTale_9
-- TallTalesModel.readInn(I)Z
theorem ckX7_readInn : k_Vok yX7_readInn cX7_readInn 2 (some .boolean) 1 := ⟨kwk_X7_readInn, kwi_X7_readInn, kwv_X7_readInn, kwn_X7, by decide, by decide +kernel⟩
abbrev rmX7_readInn : Room := { frames := 3, cells := 0, slots := 0, locals := 69 }
abbrev YX7_readInn : k_Y := (rmX7_readInn, cX7_readInn, 2, RX7, (some .boolean))
noncomputable def fX7_readInn_c91 (kh76 : k_S → Int32 → Option (Int32 × k_S)) (σ : k_S) (l1 : Int32) : Option (Int32 × k_S) := (if σ.1 7 = (nI 10) then k_z ((nI 0)) (some ((nI 0), σ)) else (if σ.1 5 < l1 then k_gd (σ.1 5) 240 ((if σ.2 2 (Int32.toNatClampNeg (σ.1 5)) = (nI 59) then k_bn (k_sf σ 5 ((σ.1 5 + (nI 1)))) fun σ1 => k_ob (fX7_readTale σ1 l1) fun r2 σ3 => (if r2 = 0 then k_z ((nI 0)) (some ((nI 0), σ3)) else kh76 σ3 l1) else k_z ((nI 0)) (some ((nI 0), σ)))) else k_z ((nI 0)) (some ((nI 0), σ))))
set_option maxRecDepth 100000 in
set_option maxHeartbeats 4000000 in
theorem kX7_readInn_c91 {X : k_C} {q : Nat → Nat} (kh76 : k_S → Int32 → Option (Int32 × k_S)) (hk76 : ∀ (σ : k_S) (l1 : Int32), KO X YX7_readInn (cM (k_I X) q) 0 0 (k_Q k_ei X (cM (k_I X) q)) 76 [some (.ref (q 0)), some (.int l1)] [] σ (kh76 σ l1)) (σ : k_S) (l1 : Int32) : KO X YX7_readInn (cM (k_I X) q) 0 0 (k_Q k_ei X (cM (k_I X) q)) 91 [some (.ref (q 0)), some (.int l1)] [] σ (fX7_readInn_c91 kh76 σ l1) := by
  unfold fX7_readInn_c91
  refine k_aload_n (pc := 91) dX7_readInn_91 rfl ?_
  refine k_gMX7_readTales (pc := 92) kwf_X7_107 rfl dX7_readInn_92 ?_
  refine k_bipush (pc := 95) (v := (nI 10)) dX7_readInn_95 (by decide) ?_
  refine k_icmp_eq (pc := 97) 122 dX7_readInn_97 (by decide) ?_ ?_
  · refine k_iconst (pc := 122) (v := (nI 0)) dX7_readInn_122 (by decide) ?_
    exact k_zreturn (pc := 123) rfl dX7_readInn_123
  · refine k_aload_n (pc := 100) dX7_readInn_100 rfl ?_
    refine k_gMX7_at (pc := 101) kwf_X7_98 rfl dX7_readInn_101 ?_
    refine k_iload_n (pc := 104) dX7_readInn_104 rfl ?_
    refine k_icmp_ge (pc := 105) 122 dX7_readInn_105 (by decide) ?_ ?_
    · refine k_iconst (pc := 122) (v := (nI 0)) dX7_readInn_122 (by decide) ?_
      exact k_zreturn (pc := 123) rfl dX7_readInn_123
    · refine k_aload_n (pc := 108) dX7_readInn_108 rfl ?_
      refine k_gMX7_cells (pc := 109) kwf_X7_16 rfl dX7_readInn_109 ?_
      refine k_aload_n (pc := 112) dX7_readInn_112 rfl ?_
      refine k_gMX7_at (pc := 113) kwf_X7_98 rfl dX7_readInn_113 ?_
      refine k_lM3 (pc := 116) dX7_readInn_116 ?_
      refine k_bipush (pc := 117) (v := (nI 59)) dX7_readInn_117 (by decide) ?_
      refine k_icmp_eq (pc := 119) 124 dX7_readInn_119 (by decide) ?_ ?_
      · refine k_aload_n (pc := 124) dX7_readInn_124 rfl ?_
        refine k_dup (pc := 125) dX7_readInn_125 rfl ?_
        refine k_gMX7_at (pc := 126) kwf_X7_98 rfl dX7_readInn_126 ?_
        refine k_iconst (pc := 129) (v := (nI 1)) dX7_readInn_129 (by decide) ?_
        refine k_iadd (pc := 130) dX7_readInn_130 ?_
        refine k_pMX7_at (pc := 131) kwf_X7_98 rfl dX7_readInn_131 (fun σ1 => ?_)
        refine k_aload_n (pc := 134) dX7_readInn_134 rfl ?_
        refine k_iload_n (pc := 135) dX7_readInn_135 rfl ?_
        refine k_vi1 (pc := 136) (cM_same _ _) ckX7_readTale kwm_X7_126 cM_rv0 ⟨rfl, rfl⟩ ⟨Nat.le_of_ble_eq_true rfl, Nat.le_of_ble_eq_true rfl⟩ ⟨Nat.zero_le _, Nat.zero_le _⟩ (Nat.le_of_ble_eq_true rfl) dX7_readInn_136 (fun _ _ hf => kX7_readTale hf) (fun r2 σ3 => ?_)
        refine k_if_ne (pc := 139) 76 dX7_readInn_139 (by decide) ?_ ?_
        · exact hk76 σ3 l1
        · refine k_iconst (pc := 142) (v := (nI 0)) dX7_readInn_142 (by decide) ?_
          exact k_zreturn (pc := 143) rfl dX7_readInn_143
      · refine k_iconst (pc := 122) (v := (nI 0)) dX7_readInn_122 (by decide) ?_
        exact k_zreturn (pc := 123) rfl dX7_readInn_123
noncomputable def fX7_readInn_c76 : Nat → k_S → Int32 → Option (Int32 × k_S)
  | 0, _, _ => none
  | n + 1, σ, l1 => (if σ.1 7 = 0 then fX7_readInn_c91 (fX7_readInn_c76 n) σ l1 else (if σ.1 5 < l1 then fX7_readInn_c91 (fX7_readInn_c76 n) σ l1 else k_z ((nI 1)) (some ((nI 1), σ))))
theorem fX7_readInn_c76_s (n : Nat) (σ : k_S) (l1 : Int32) : fX7_readInn_c76 (n + 1) σ l1 = (if σ.1 7 = 0 then fX7_readInn_c91 (fX7_readInn_c76 n) σ l1 else (if σ.1 5 < l1 then fX7_readInn_c91 (fX7_readInn_c76 n) σ l1 else k_z ((nI 1)) (some ((nI 1), σ)))) := rfl
set_option maxRecDepth 100000 in
set_option maxHeartbeats 4000000 in
theorem kX7_readInn_c76 {X : k_C} {q : Nat → Nat} : ∀ (n : Nat) (σ : k_S) (l1 : Int32), KO X YX7_readInn (cM (k_I X) q) 0 0 (k_Q k_ei X (cM (k_I X) q)) 76 [some (.ref (q 0)), some (.int l1)] [] σ (fX7_readInn_c76 n σ l1) := by
  intro n
  induction n with
  | zero => intros; exact KO.nil
  | succ n ih =>
    intro σ l1
    rw [fX7_readInn_c76_s]
    refine k_aload_n (pc := 76) dX7_readInn_76 rfl ?_
    refine k_gMX7_readTales (pc := 77) kwf_X7_107 rfl dX7_readInn_77 ?_
    refine k_if_eq (pc := 80) 91 dX7_readInn_80 (by decide) ?_ ?_
    · exact kX7_readInn_c91 (fX7_readInn_c76 n) ih σ l1
    · refine k_aload_n (pc := 83) dX7_readInn_83 rfl ?_
      refine k_gMX7_at (pc := 84) kwf_X7_98 rfl dX7_readInn_84 ?_
      refine k_iload_n (pc := 87) dX7_readInn_87 rfl ?_
      refine k_icmp_ge (pc := 88) 144 dX7_readInn_88 (by decide) ?_ ?_
      · refine k_iconst (pc := 144) (v := (nI 1)) dX7_readInn_144 (by decide) ?_
        exact k_zreturn (pc := 145) rfl dX7_readInn_145
      · exact kX7_readInn_c91 (fX7_readInn_c76 n) ih σ l1
noncomputable def fX7_readInn (σ : k_S) (x1 : Int32) : Option (Int32 × k_S) := (if σ.1 5 < x1 then k_gd (σ.1 5) 240 ((if σ.2 2 (Int32.toNatClampNeg (σ.1 5)) = (nI 105) then k_bn (k_sf σ 5 ((σ.1 5 + (nI 1)))) fun σ1 => k_ob (fX7_digitAt σ1 (σ1.1 5) x1) fun r2 σ3 => k_bn (k_sf σ3 6 (r2)) fun σ4 => k_ob (fX7_within σ4 (σ4.1 6) ((nI 2)) ((nI 5))) fun r5 σ6 => (if r5 = 0 then k_z ((nI 0)) (some ((nI 0), σ6)) else k_bn (k_sf σ6 5 ((σ6.1 5 + (nI 1)))) fun σ7 => k_bn (k_sf σ7 7 ((nI 0))) fun σ8 => fX7_readInn_c76 k_F σ8 x1) else k_z ((nI 0)) (some ((nI 0), σ)))) else k_z ((nI 0)) (some ((nI 0), σ)))
set_option maxRecDepth 100000 in
set_option maxHeartbeats 4000000 in
theorem kX7_readInn {D : va_G} {cI : ClassId} {q : Nat → Nat} {σ : k_S} {x1 : Int32} {r : Int32} {τ : k_S} (h : fX7_readInn σ x1 = some (r, τ)) : k_Ct k_ei yX7_readInn cX7_readInn 2 (some .boolean) rmX7_readInn (cM cI q) D cI [.ref (q 0), .int x1] σ r τ := by
  refine k_met (Y := YX7_readInn) (cM_same _ _) (by decide) rfl (Nat.le_of_ble_eq_true rfl) (List.forall_mem_cons.mpr ⟨rfl, List.forall_mem_cons.mpr ⟨rfl, fun _ h => absurd h List.not_mem_nil⟩⟩) (fun X hD hI => ?_) h
  subst hD hI
  show KO X YX7_readInn (cM (k_I X) q) 0 0 (k_Q k_ei X (cM (k_I X) q)) 0 [some (.ref (q 0)), some (.int x1)] [] σ _
  unfold fX7_readInn
  refine k_aload_n (pc := 0) dX7_readInn_0 rfl ?_
  refine k_gMX7_at (pc := 1) kwf_X7_98 rfl dX7_readInn_1 ?_
  refine k_iload_n (pc := 4) dX7_readInn_4 rfl ?_
  refine k_icmp_ge (pc := 5) 22 dX7_readInn_5 (by decide) ?_ ?_
  · refine k_iconst (pc := 22) (v := (nI 0)) dX7_readInn_22 (by decide) ?_
    exact k_zreturn (pc := 23) rfl dX7_readInn_23
  · refine k_aload_n (pc := 8) dX7_readInn_8 rfl ?_
    refine k_gMX7_cells (pc := 9) kwf_X7_16 rfl dX7_readInn_9 ?_
    refine k_aload_n (pc := 12) dX7_readInn_12 rfl ?_
    refine k_gMX7_at (pc := 13) kwf_X7_98 rfl dX7_readInn_13 ?_
    refine k_lM3 (pc := 16) dX7_readInn_16 ?_
    refine k_bipush (pc := 17) (v := (nI 105)) dX7_readInn_17 (by decide) ?_
    refine k_icmp_eq (pc := 19) 24 dX7_readInn_19 (by decide) ?_ ?_
    · refine k_aload_n (pc := 24) dX7_readInn_24 rfl ?_
      refine k_dup (pc := 25) dX7_readInn_25 rfl ?_
      refine k_gMX7_at (pc := 26) kwf_X7_98 rfl dX7_readInn_26 ?_
      refine k_iconst (pc := 29) (v := (nI 1)) dX7_readInn_29 (by decide) ?_
      refine k_iadd (pc := 30) dX7_readInn_30 ?_
      refine k_pMX7_at (pc := 31) kwf_X7_98 rfl dX7_readInn_31 (fun σ1 => ?_)
      refine k_aload_n (pc := 34) dX7_readInn_34 rfl ?_
      refine k_aload_n (pc := 35) dX7_readInn_35 rfl ?_
      refine k_aload_n (pc := 36) dX7_readInn_36 rfl ?_
      refine k_gMX7_at (pc := 37) kwf_X7_98 rfl dX7_readInn_37 ?_
      refine k_iload_n (pc := 40) dX7_readInn_40 rfl ?_
      refine k_vi2 (pc := 41) (cM_same _ _) ckX7_digitAt kwm_X7_122 cM_rv0 ⟨rfl, rfl⟩ ⟨Nat.le_of_ble_eq_true rfl, Nat.le_of_ble_eq_true rfl⟩ ⟨Nat.zero_le _, Nat.zero_le _⟩ (Nat.le_of_ble_eq_true rfl) dX7_readInn_41 (fun _ _ hf => kX7_digitAt hf) (fun r2 σ3 => ?_)
      refine k_pMX7_readGuests (pc := 44) kwf_X7_104 rfl dX7_readInn_44 (fun σ4 => ?_)
      refine k_aload_n (pc := 47) dX7_readInn_47 rfl ?_
      refine k_gMX7_readGuests (pc := 48) kwf_X7_104 rfl dX7_readInn_48 ?_
      refine k_iconst (pc := 51) (v := (nI 2)) dX7_readInn_51 (by decide) ?_
      refine k_iconst (pc := 52) (v := (nI 5)) dX7_readInn_52 (by decide) ?_
      refine k_si3 (pc := 53) (cM_same _ _) ckX7_within kwm_X7_73 ⟨rfl, rfl⟩ ⟨Nat.le_of_ble_eq_true rfl, Nat.le_of_ble_eq_true rfl⟩ ⟨Nat.zero_le _, Nat.zero_le _⟩ (Nat.le_of_ble_eq_true rfl) dX7_readInn_53 (fun _ _ hf => kX7_within hf) (fun r5 σ6 => ?_)
      refine k_if_ne (pc := 56) 61 dX7_readInn_56 (by decide) ?_ ?_
      · refine k_aload_n (pc := 61) dX7_readInn_61 rfl ?_
        refine k_dup (pc := 62) dX7_readInn_62 rfl ?_
        refine k_gMX7_at (pc := 63) kwf_X7_98 rfl dX7_readInn_63 ?_
        refine k_iconst (pc := 66) (v := (nI 1)) dX7_readInn_66 (by decide) ?_
        refine k_iadd (pc := 67) dX7_readInn_67 ?_
        refine k_pMX7_at (pc := 68) kwf_X7_98 rfl dX7_readInn_68 (fun σ7 => ?_)
        refine k_aload_n (pc := 71) dX7_readInn_71 rfl ?_
        refine k_iconst (pc := 72) (v := (nI 0)) dX7_readInn_72 (by decide) ?_
        refine k_pMX7_readTales (pc := 73) kwf_X7_107 rfl dX7_readInn_73 (fun σ8 => ?_)
        exact kX7_readInn_c76 k_F σ8 x1
      · refine k_iconst (pc := 59) (v := (nI 0)) dX7_readInn_59 (by decide) ?_
        exact k_zreturn (pc := 60) rfl dX7_readInn_60
    · refine k_iconst (pc := 22) (v := (nI 0)) dX7_readInn_22 (by decide) ?_
      exact k_zreturn (pc := 23) rfl dX7_readInn_23
-- TallTalesModel.countTold()V
theorem ckX7_countTold : k_Vok yX7_countTold cX7_countTold 2 none 0 := ⟨kwk_X7_countTold, kwi_X7_countTold, kwv_X7_countTold, kwn_X7, by decide, by decide +kernel⟩
abbrev rmX7_countTold : Room := { frames := 0, cells := 0, slots := 0, locals := 0 }
abbrev YX7_countTold : k_Y := (rmX7_countTold, cX7_countTold, 2, RX7, none)
noncomputable def fX7_countTold_c81 (kh31 : k_S → Int32 → Option (Unit × k_S)) (σ : k_S) (l1 : Int32) : Option (Unit × k_S) := k_bn (l1 + (nI 1)) fun v1 => kh31 σ v1
set_option maxRecDepth 100000 in
set_option maxHeartbeats 4000000 in
theorem kX7_countTold_c81 {X : k_C} {q : Nat → Nat} (kh31 : k_S → Int32 → Option (Unit × k_S)) (hk31 : ∀ (σ : k_S) (l1 : Int32), KO X YX7_countTold (cM (k_I X) q) 0 0 (k_Q k_ev X (cM (k_I X) q)) 31 [some (.ref (q 0)), some (.int l1)] [] σ (kh31 σ l1)) (σ : k_S) (l1 : Int32) : KO X YX7_countTold (cM (k_I X) q) 0 0 (k_Q k_ev X (cM (k_I X) q)) 81 [some (.ref (q 0)), some (.int l1)] [] σ (fX7_countTold_c81 kh31 σ l1) := by
  unfold fX7_countTold_c81
  refine k_iinc1 (pc := 81) (w := (nI 1)) dX7_countTold_81 rfl (by decide) (Nat.le_of_ble_eq_true rfl) (fun v1 => ?_)
  refine k_goto (pc := 84) 31 dX7_countTold_84 (by decide) ?_
  exact hk31 σ v1
noncomputable def fX7_countTold_c31 : Nat → k_S → Int32 → Option (Unit × k_S)
  | 0, _, _ => none
  | n + 1, σ, l1 => (if l1 < ((nI 5) * σ.1 8) then k_gd (l1) 300 ((if σ.2 9 (Int32.toNatClampNeg (l1)) = (k_ng 9) then fX7_countTold_c81 (fX7_countTold_c31 n) σ l1 else k_gd (l1) 300 (k_gd (σ.2 9 (Int32.toNatClampNeg (l1))) 10 (k_gd (σ.2 9 (Int32.toNatClampNeg (l1))) 10 (k_bn (k_sa σ 12 (σ.2 9 (Int32.toNatClampNeg (l1))) ((σ.2 12 (Int32.toNatClampNeg (σ.2 9 (Int32.toNatClampNeg (l1)))) + (nI 1)))) fun σ1 => k_gd (l1) 300 (k_gd (σ1.2 9 (Int32.toNatClampNeg (l1))) 10 (k_bn (k_sa σ1 13 (σ1.2 9 (Int32.toNatClampNeg (l1))) ((l1 / (nI 5)))) fun σ2 => fX7_countTold_c81 (fX7_countTold_c31 n) σ2 l1))))))) else some ((), σ))
theorem fX7_countTold_c31_s (n : Nat) (σ : k_S) (l1 : Int32) : fX7_countTold_c31 (n + 1) σ l1 = (if l1 < ((nI 5) * σ.1 8) then k_gd (l1) 300 ((if σ.2 9 (Int32.toNatClampNeg (l1)) = (k_ng 9) then fX7_countTold_c81 (fX7_countTold_c31 n) σ l1 else k_gd (l1) 300 (k_gd (σ.2 9 (Int32.toNatClampNeg (l1))) 10 (k_gd (σ.2 9 (Int32.toNatClampNeg (l1))) 10 (k_bn (k_sa σ 12 (σ.2 9 (Int32.toNatClampNeg (l1))) ((σ.2 12 (Int32.toNatClampNeg (σ.2 9 (Int32.toNatClampNeg (l1)))) + (nI 1)))) fun σ1 => k_gd (l1) 300 (k_gd (σ1.2 9 (Int32.toNatClampNeg (l1))) 10 (k_bn (k_sa σ1 13 (σ1.2 9 (Int32.toNatClampNeg (l1))) ((l1 / (nI 5)))) fun σ2 => fX7_countTold_c81 (fX7_countTold_c31 n) σ2 l1))))))) else some ((), σ)) := rfl
set_option maxRecDepth 100000 in
set_option maxHeartbeats 4000000 in
theorem kX7_countTold_c31 {X : k_C} {q : Nat → Nat} : ∀ (n : Nat) (σ : k_S) (l1 : Int32), KO X YX7_countTold (cM (k_I X) q) 0 0 (k_Q k_ev X (cM (k_I X) q)) 31 [some (.ref (q 0)), some (.int l1)] [] σ (fX7_countTold_c31 n σ l1) := by
  intro n
  induction n with
  | zero => intros; exact KO.nil
  | succ n ih =>
    intro σ l1
    rw [fX7_countTold_c31_s]
    refine k_iload_n (pc := 31) dX7_countTold_31 rfl ?_
    refine k_iconst (pc := 32) (v := (nI 5)) dX7_countTold_32 (by decide) ?_
    refine k_aload_n (pc := 33) dX7_countTold_33 rfl ?_
    refine k_gMX7_over (pc := 34) kwf_X7_113 rfl dX7_countTold_34 ?_
    refine k_imul (pc := 37) dX7_countTold_37 ?_
    refine k_icmp_ge (pc := 38) 87 dX7_countTold_38 (by decide) ?_ ?_
    · exact k_return (pc := 87) rfl dX7_countTold_87
    · refine k_aload_n (pc := 41) dX7_countTold_41 rfl ?_
      refine k_gMX7_nightTold (pc := 42) kwf_X7_37 rfl dX7_countTold_42 ?_
      refine k_iload_n (pc := 45) dX7_countTold_45 rfl ?_
      refine k_lM10 (pc := 46) dX7_countTold_46 ?_
      refine k_bipush (pc := 47) (v := (k_ng 9)) dX7_countTold_47 (by decide) ?_
      refine k_icmp_eq (pc := 49) 81 dX7_countTold_49 (by decide) ?_ ?_
      · exact kX7_countTold_c81 (fX7_countTold_c31 n) ih σ l1
      · refine k_aload_n (pc := 52) dX7_countTold_52 rfl ?_
        refine k_gMX7_times (pc := 53) kwf_X7_46 rfl dX7_countTold_53 ?_
        refine k_aload_n (pc := 56) dX7_countTold_56 rfl ?_
        refine k_gMX7_nightTold (pc := 57) kwf_X7_37 rfl dX7_countTold_57 ?_
        refine k_iload_n (pc := 60) dX7_countTold_60 rfl ?_
        refine k_lM10 (pc := 61) dX7_countTold_61 ?_
        refine k_dup2 (pc := 62) dX7_countTold_62 rfl rfl ?_
        refine k_lM13 (pc := 63) dX7_countTold_63 ?_
        refine k_iconst (pc := 64) (v := (nI 1)) dX7_countTold_64 (by decide) ?_
        refine k_iadd (pc := 65) dX7_countTold_65 ?_
        refine k_sM13 (pc := 66) dX7_countTold_66 (fun σ1 => ?_)
        refine k_aload_n (pc := 67) dX7_countTold_67 rfl ?_
        refine k_gMX7_last (pc := 68) kwf_X7_49 rfl dX7_countTold_68 ?_
        refine k_aload_n (pc := 71) dX7_countTold_71 rfl ?_
        refine k_gMX7_nightTold (pc := 72) kwf_X7_37 rfl dX7_countTold_72 ?_
        refine k_iload_n (pc := 75) dX7_countTold_75 rfl ?_
        refine k_lM10 (pc := 76) dX7_countTold_76 ?_
        refine k_iload_n (pc := 77) dX7_countTold_77 rfl ?_
        refine k_iconst (pc := 78) (v := (nI 5)) dX7_countTold_78 (by decide) ?_
        refine k_idiv (pc := 79) dX7_countTold_79 (by decide) ?_
        refine k_sM14 (pc := 80) dX7_countTold_80 (fun σ2 => ?_)
        exact kX7_countTold_c81 (fX7_countTold_c31 n) ih σ2 l1
noncomputable def fX7_countTold_c2 : Nat → k_S → Int32 → Option (Unit × k_S)
  | 0, _, _ => none
  | n + 1, σ, l1 => (if l1 < (nI 10) then k_gd (l1) 10 (k_bn (k_sa σ 12 (l1) ((nI 0))) fun σ2 => k_gd (l1) 10 (k_bn (k_sa σ2 13 (l1) ((k_ng 9))) fun σ3 => k_bn (l1 + (nI 1)) fun v4 => fX7_countTold_c2 n σ3 v4)) else k_bn ((nI 0)) fun v1 => fX7_countTold_c31 k_F σ v1)
theorem fX7_countTold_c2_s (n : Nat) (σ : k_S) (l1 : Int32) : fX7_countTold_c2 (n + 1) σ l1 = (if l1 < (nI 10) then k_gd (l1) 10 (k_bn (k_sa σ 12 (l1) ((nI 0))) fun σ2 => k_gd (l1) 10 (k_bn (k_sa σ2 13 (l1) ((k_ng 9))) fun σ3 => k_bn (l1 + (nI 1)) fun v4 => fX7_countTold_c2 n σ3 v4)) else k_bn ((nI 0)) fun v1 => fX7_countTold_c31 k_F σ v1) := rfl
set_option maxRecDepth 100000 in
set_option maxHeartbeats 4000000 in
theorem kX7_countTold_c2 {X : k_C} {q : Nat → Nat} : ∀ (n : Nat) (σ : k_S) (l1 : Int32), KO X YX7_countTold (cM (k_I X) q) 0 0 (k_Q k_ev X (cM (k_I X) q)) 2 [some (.ref (q 0)), some (.int l1)] [] σ (fX7_countTold_c2 n σ l1) := by
  intro n
  induction n with
  | zero => intros; exact KO.nil
  | succ n ih =>
    intro σ l1
    rw [fX7_countTold_c2_s]
    refine k_iload_n (pc := 2) dX7_countTold_2 rfl ?_
    refine k_bipush (pc := 3) (v := (nI 10)) dX7_countTold_3 (by decide) ?_
    refine k_icmp_ge (pc := 5) 29 dX7_countTold_5 (by decide) ?_ ?_
    · refine k_iconst (pc := 29) (v := (nI 0)) dX7_countTold_29 (by decide) ?_
      refine k_ist1 (pc := 30) dX7_countTold_30 (Nat.le_of_ble_eq_true rfl) (fun v1 => ?_)
      exact kX7_countTold_c31 k_F σ v1
    · refine k_aload_n (pc := 8) dX7_countTold_8 rfl ?_
      refine k_gMX7_times (pc := 9) kwf_X7_46 rfl dX7_countTold_9 ?_
      refine k_iload_n (pc := 12) dX7_countTold_12 rfl ?_
      refine k_iconst (pc := 13) (v := (nI 0)) dX7_countTold_13 (by decide) ?_
      refine k_sM13 (pc := 14) dX7_countTold_14 (fun σ2 => ?_)
      refine k_aload_n (pc := 15) dX7_countTold_15 rfl ?_
      refine k_gMX7_last (pc := 16) kwf_X7_49 rfl dX7_countTold_16 ?_
      refine k_iload_n (pc := 19) dX7_countTold_19 rfl ?_
      refine k_bipush (pc := 20) (v := (k_ng 9)) dX7_countTold_20 (by decide) ?_
      refine k_sM14 (pc := 22) dX7_countTold_22 (fun σ3 => ?_)
      refine k_iinc1 (pc := 23) (w := (nI 1)) dX7_countTold_23 rfl (by decide) (Nat.le_of_ble_eq_true rfl) (fun v4 => ?_)
      refine k_goto (pc := 26) 2 dX7_countTold_26 (by decide) ?_
      exact ih σ3 v4
noncomputable def fX7_countTold (σ : k_S) : Option (Unit × k_S) := k_bn ((nI 0)) fun v1 => fX7_countTold_c2 k_F σ v1
set_option maxRecDepth 100000 in
set_option maxHeartbeats 4000000 in
theorem kX7_countTold {D : va_G} {cI : ClassId} {q : Nat → Nat} {σ : k_S} {r : Unit} {τ : k_S} (h : fX7_countTold σ = some (r, τ)) : k_Ct k_ev yX7_countTold cX7_countTold 2 none rmX7_countTold (cM cI q) D cI [.ref (q 0)] σ r τ := by
  refine k_met (Y := YX7_countTold) (cM_same _ _) (by decide) rfl (Nat.le_of_ble_eq_true rfl) (List.forall_mem_cons.mpr ⟨rfl, fun _ h => absurd h List.not_mem_nil⟩) (fun X hD hI => ?_) h
  subst hD hI
  show KO X YX7_countTold (cM (k_I X) q) 0 0 (k_Q k_ev X (cM (k_I X) q)) 0 [some (.ref (q 0)), none] [] σ _
  unfold fX7_countTold
  refine k_iconst (pc := 0) (v := (nI 0)) dX7_countTold_0 (by decide) ?_
  refine k_ist1 (pc := 1) dX7_countTold_1 (Nat.le_of_ble_eq_true rfl) (fun v1 => ?_)
  exact kX7_countTold_c2 k_F σ v1
-- TallTalesModel.chooseNone()V
theorem ckX7_chooseNone : k_Vok yX7_chooseNone cX7_chooseNone 2 none 0 := ⟨kwk_X7_chooseNone, kwi_X7_chooseNone, kwv_X7_chooseNone, kwn_X7, by decide, by decide +kernel⟩
abbrev rmX7_chooseNone : Room := { frames := 0, cells := 0, slots := 0, locals := 0 }
abbrev YX7_chooseNone : k_Y := (rmX7_chooseNone, cX7_chooseNone, 2, RX7, none)
noncomputable def fX7_chooseNone_c2 : Nat → k_S → Int32 → Option (Unit × k_S)
  | 0, _, _ => none
  | n + 1, σ, l1 => (if l1 < (nI 5) then k_gd (l1) 5 (k_bn (k_sa σ 11 (l1) ((k_ng 9))) fun σ1 => k_bn (l1 + (nI 1)) fun v2 => fX7_chooseNone_c2 n σ1 v2) else some ((), σ))
theorem fX7_chooseNone_c2_s (n : Nat) (σ : k_S) (l1 : Int32) : fX7_chooseNone_c2 (n + 1) σ l1 = (if l1 < (nI 5) then k_gd (l1) 5 (k_bn (k_sa σ 11 (l1) ((k_ng 9))) fun σ1 => k_bn (l1 + (nI 1)) fun v2 => fX7_chooseNone_c2 n σ1 v2) else some ((), σ)) := rfl
set_option maxRecDepth 100000 in
set_option maxHeartbeats 4000000 in
theorem kX7_chooseNone_c2 {X : k_C} {q : Nat → Nat} : ∀ (n : Nat) (σ : k_S) (l1 : Int32), KO X YX7_chooseNone (cM (k_I X) q) 0 0 (k_Q k_ev X (cM (k_I X) q)) 2 [some (.ref (q 0)), some (.int l1)] [] σ (fX7_chooseNone_c2 n σ l1) := by
  intro n
  induction n with
  | zero => intros; exact KO.nil
  | succ n ih =>
    intro σ l1
    rw [fX7_chooseNone_c2_s]
    refine k_iload_n (pc := 2) dX7_chooseNone_2 rfl ?_
    refine k_iconst (pc := 3) (v := (nI 5)) dX7_chooseNone_3 (by decide) ?_
    refine k_icmp_ge (pc := 4) 21 dX7_chooseNone_4 (by decide) ?_ ?_
    · exact k_return (pc := 21) rfl dX7_chooseNone_21
    · refine k_aload_n (pc := 7) dX7_chooseNone_7 rfl ?_
      refine k_gMX7_chosen (pc := 8) kwf_X7_43 rfl dX7_chooseNone_8 ?_
      refine k_iload_n (pc := 11) dX7_chooseNone_11 rfl ?_
      refine k_bipush (pc := 12) (v := (k_ng 9)) dX7_chooseNone_12 (by decide) ?_
      refine k_sM12 (pc := 14) dX7_chooseNone_14 (fun σ1 => ?_)
      refine k_iinc1 (pc := 15) (w := (nI 1)) dX7_chooseNone_15 rfl (by decide) (Nat.le_of_ble_eq_true rfl) (fun v2 => ?_)
      refine k_goto (pc := 18) 2 dX7_chooseNone_18 (by decide) ?_
      exact ih σ1 v2
noncomputable def fX7_chooseNone (σ : k_S) : Option (Unit × k_S) := k_bn ((nI 0)) fun v1 => fX7_chooseNone_c2 k_F σ v1
set_option maxRecDepth 100000 in
set_option maxHeartbeats 4000000 in
theorem kX7_chooseNone {D : va_G} {cI : ClassId} {q : Nat → Nat} {σ : k_S} {r : Unit} {τ : k_S} (h : fX7_chooseNone σ = some (r, τ)) : k_Ct k_ev yX7_chooseNone cX7_chooseNone 2 none rmX7_chooseNone (cM cI q) D cI [.ref (q 0)] σ r τ := by
  refine k_met (Y := YX7_chooseNone) (cM_same _ _) (by decide) rfl (Nat.le_of_ble_eq_true rfl) (List.forall_mem_cons.mpr ⟨rfl, fun _ h => absurd h List.not_mem_nil⟩) (fun X hD hI => ?_) h
  subst hD hI
  show KO X YX7_chooseNone (cM (k_I X) q) 0 0 (k_Q k_ev X (cM (k_I X) q)) 0 [some (.ref (q 0)), none] [] σ _
  unfold fX7_chooseNone
  refine k_iconst (pc := 0) (v := (nI 0)) dX7_chooseNone_0 (by decide) ?_
  refine k_ist1 (pc := 1) dX7_chooseNone_1 (Nat.le_of_ble_eq_true rfl) (fun v1 => ?_)
  exact kX7_chooseNone_c2 k_F σ v1
-- TallTalesModel.inn(IIII)I
theorem ckX7_inn : k_Vok yX7_inn cX7_inn 8 (some .int) 4 := ⟨kwk_X7_inn, kwi_X7_inn, kwv_X7_inn, kwn_X7, by decide, by decide +kernel⟩
abbrev rmX7_inn : Room := { frames := 4, cells := 0, slots := 0, locals := 90 }
abbrev YX7_inn : k_Y := (rmX7_inn, cX7_inn, 8, RX7, (some .int))
noncomputable def fX7_inn_c103 : Nat → k_S → Int32 → Option (Int32 × k_S)
  | 0, _, _ => none
  | n + 1, σ, l7 => (if l7 < σ.1 3 then k_gd (l7) 10 (k_gd (l7) 10 (k_bn (k_sa σ 3 (l7) (σ.2 6 (Int32.toNatClampNeg (l7)))) fun σ7 => k_gd (l7) 10 (k_gd (l7) 10 (k_bn (k_sa σ7 4 (l7) (σ7.2 7 (Int32.toNatClampNeg (l7)))) fun σ8 => k_gd (l7) 10 (k_gd (l7) 10 (k_bn (k_sa σ8 5 (l7) (σ8.2 8 (Int32.toNatClampNeg (l7)))) fun σ9 => k_bn (l7 + (nI 1)) fun v10 => fX7_inn_c103 n σ9 v10)))))) else k_bn (k_sf σ 4 ((nI 99))) fun σ1 => k_bn (k_sf σ1 8 ((nI 0))) fun σ2 => k_ob (fX7_countTold σ2) fun r3 σ4 => k_ob (fX7_chooseNone σ4) fun r5 σ6 => some (σ6.1 3, σ6))
theorem fX7_inn_c103_s (n : Nat) (σ : k_S) (l7 : Int32) : fX7_inn_c103 (n + 1) σ l7 = (if l7 < σ.1 3 then k_gd (l7) 10 (k_gd (l7) 10 (k_bn (k_sa σ 3 (l7) (σ.2 6 (Int32.toNatClampNeg (l7)))) fun σ7 => k_gd (l7) 10 (k_gd (l7) 10 (k_bn (k_sa σ7 4 (l7) (σ7.2 7 (Int32.toNatClampNeg (l7)))) fun σ8 => k_gd (l7) 10 (k_gd (l7) 10 (k_bn (k_sa σ8 5 (l7) (σ8.2 8 (Int32.toNatClampNeg (l7)))) fun σ9 => k_bn (l7 + (nI 1)) fun v10 => fX7_inn_c103 n σ9 v10)))))) else k_bn (k_sf σ 4 ((nI 99))) fun σ1 => k_bn (k_sf σ1 8 ((nI 0))) fun σ2 => k_ob (fX7_countTold σ2) fun r3 σ4 => k_ob (fX7_chooseNone σ4) fun r5 σ6 => some (σ6.1 3, σ6)) := rfl
set_option maxRecDepth 100000 in
set_option maxHeartbeats 4000000 in
theorem kX7_inn_c103 {X : k_C} {q : Nat → Nat} : ∀ (n : Nat) (σ : k_S) (l7 : Int32), KO X YX7_inn (cM (k_I X) q) 0 0 (k_Q k_ei X (cM (k_I X) q)) 103 [some (.ref (q 0)), none, none, none, none, none, none, some (.int l7)] [] σ (fX7_inn_c103 n σ l7) := by
  intro n
  induction n with
  | zero => intros; exact KO.nil
  | succ n ih =>
    intro σ l7
    rw [fX7_inn_c103_s]
    refine k_iload (pc := 103) dX7_inn_103 rfl ?_
    refine k_aload_n (pc := 105) dX7_inn_105 rfl ?_
    refine k_gMX7_tales (pc := 106) kwf_X7_80 rfl dX7_inn_106 ?_
    refine k_icmp_ge (pc := 109) 160 dX7_inn_109 (by decide) ?_ ?_
    · refine k_aload_n (pc := 160) dX7_inn_160 rfl ?_
      refine k_bipush (pc := 161) (v := (nI 99)) dX7_inn_161 (by decide) ?_
      refine k_pMX7_memory (pc := 163) kwf_X7_110 rfl dX7_inn_163 (fun σ1 => ?_)
      refine k_aload_n (pc := 166) dX7_inn_166 rfl ?_
      refine k_iconst (pc := 167) (v := (nI 0)) dX7_inn_167 (by decide) ?_
      refine k_pMX7_over (pc := 168) kwf_X7_113 rfl dX7_inn_168 (fun σ2 => ?_)
      refine k_aload_n (pc := 171) dX7_inn_171 rfl ?_
      refine k_vv0 (pc := 172) (cM_same _ _) ckX7_countTold kwm_X7_116 cM_rv0 ⟨rfl, rfl⟩ ⟨Nat.le_of_ble_eq_true rfl, Nat.le_of_ble_eq_true rfl⟩ ⟨Nat.zero_le _, Nat.zero_le _⟩ (Nat.le_of_ble_eq_true rfl) dX7_inn_172 (fun _ _ hf => kX7_countTold hf) (fun r3 σ4 => ?_)
      refine k_aload_n (pc := 175) dX7_inn_175 rfl ?_
      refine k_vv0 (pc := 176) (cM_same _ _) ckX7_chooseNone kwm_X7_119 cM_rv0 ⟨rfl, rfl⟩ ⟨Nat.le_of_ble_eq_true rfl, Nat.le_of_ble_eq_true rfl⟩ ⟨Nat.zero_le _, Nat.zero_le _⟩ (Nat.le_of_ble_eq_true rfl) dX7_inn_176 (fun _ _ hf => kX7_chooseNone hf) (fun r5 σ6 => ?_)
      refine k_aload_n (pc := 179) dX7_inn_179 rfl ?_
      refine k_gMX7_tales (pc := 180) kwf_X7_80 rfl dX7_inn_180 ?_
      exact k_ireturn (pc := 183) rfl dX7_inn_183
    · refine k_aload_n (pc := 112) dX7_inn_112 rfl ?_
      refine k_gMX7_kind (pc := 113) kwf_X7_19 rfl dX7_inn_113 ?_
      refine k_iload (pc := 116) dX7_inn_116 rfl ?_
      refine k_aload_n (pc := 118) dX7_inn_118 rfl ?_
      refine k_gMX7_readKind (pc := 119) kwf_X7_28 rfl dX7_inn_119 ?_
      refine k_iload (pc := 122) dX7_inn_122 rfl ?_
      refine k_lM7 (pc := 124) dX7_inn_124 ?_
      refine k_sM4 (pc := 125) dX7_inn_125 (fun σ7 => ?_)
      refine k_aload_n (pc := 126) dX7_inn_126 rfl ?_
      refine k_gMX7_whose (pc := 127) kwf_X7_22 rfl dX7_inn_127 ?_
      refine k_iload (pc := 130) dX7_inn_130 rfl ?_
      refine k_aload_n (pc := 132) dX7_inn_132 rfl ?_
      refine k_gMX7_readWhose (pc := 133) kwf_X7_31 rfl dX7_inn_133 ?_
      refine k_iload (pc := 136) dX7_inn_136 rfl ?_
      refine k_lM8 (pc := 138) dX7_inn_138 ?_
      refine k_sM5 (pc := 139) dX7_inn_139 (fun σ8 => ?_)
      refine k_aload_n (pc := 140) dX7_inn_140 rfl ?_
      refine k_gMX7_high (pc := 141) kwf_X7_25 rfl dX7_inn_141 ?_
      refine k_iload (pc := 144) dX7_inn_144 rfl ?_
      refine k_aload_n (pc := 146) dX7_inn_146 rfl ?_
      refine k_gMX7_readHigh (pc := 147) kwf_X7_34 rfl dX7_inn_147 ?_
      refine k_iload (pc := 150) dX7_inn_150 rfl ?_
      refine k_lM9 (pc := 152) dX7_inn_152 ?_
      refine k_sM6 (pc := 153) dX7_inn_153 (fun σ9 => ?_)
      refine k_iinc7 (pc := 154) (w := (nI 1)) dX7_inn_154 rfl (by decide) (Nat.le_of_ble_eq_true rfl) (fun v10 => ?_)
      refine k_goto (pc := 157) 103 dX7_inn_157 (by decide) ?_
      exact ih σ9 v10
noncomputable def fX7_inn (σ : k_S) (x1 x2 x3 x4 : Int32) : Option (Int32 × k_S) := k_bn (k_sf σ 0 ((nI 0))) fun σ1 => k_ob (fX7_isSheet σ1 x1) fun r2 σ3 => (if r2 = 0 then some ((k_ng 1), σ3) else k_ob (fX7_isSort σ3 x2) fun r4 σ5 => (if r4 = 0 then some ((k_ng 2), σ5) else k_ob (fX7_against σ5 x1 x2 x3 x4) fun r6 σ7 => k_bn (r6) fun v8 => (if v8 = 0 then k_bn ((((nI 60) * x1) + x3)) fun v9 => k_bn (k_sf σ7 5 (v9)) fun σ10 => k_ob (fX7_readInn σ10 ((v9 + x4))) fun r11 σ12 => (if r11 = 0 then some (((k_ng 100) - (σ12.1 5 - v9)), σ12) else k_bn (k_sf σ12 2 (σ12.1 6)) fun σ13 => k_bn (k_sf σ13 3 (σ13.1 7)) fun σ14 => k_bn ((nI 0)) fun v15 => fX7_inn_c103 k_F σ14 v15) else k_ob (fX7_fails σ7 v8) fun r16 σ17 => some (r16, σ17))))
set_option maxRecDepth 100000 in
set_option maxHeartbeats 4000000 in
theorem kX7_inn {D : va_G} {cI : ClassId} {q : Nat → Nat} {σ : k_S} {x1 x2 x3 x4 : Int32} {r : Int32} {τ : k_S} (h : fX7_inn σ x1 x2 x3 x4 = some (r, τ)) : k_Ct k_ei yX7_inn cX7_inn 8 (some .int) rmX7_inn (cM cI q) D cI [.ref (q 0), .int x1, .int x2, .int x3, .int x4] σ r τ := by
  refine k_met (Y := YX7_inn) (cM_same _ _) (by decide) rfl (Nat.le_of_ble_eq_true rfl) (List.forall_mem_cons.mpr ⟨rfl, List.forall_mem_cons.mpr ⟨rfl, List.forall_mem_cons.mpr ⟨rfl, List.forall_mem_cons.mpr ⟨rfl, List.forall_mem_cons.mpr ⟨rfl, fun _ h => absurd h List.not_mem_nil⟩⟩⟩⟩⟩) (fun X hD hI => ?_) h
  subst hD hI
  show KO X YX7_inn (cM (k_I X) q) 0 0 (k_Q k_ei X (cM (k_I X) q)) 0 [some (.ref (q 0)), some (.int x1), some (.int x2), some (.int x3), some (.int x4), none, none, none] [] σ _
  unfold fX7_inn
  refine k_aload_n (pc := 0) dX7_inn_0 rfl ?_
  refine k_iconst (pc := 1) (v := (nI 0)) dX7_inn_1 (by decide) ?_
  refine k_pMX7_fault (pc := 2) kwf_X7_67 rfl dX7_inn_2 (fun σ1 => ?_)
  refine k_iload_n (pc := 5) dX7_inn_5 rfl ?_
  refine k_si1 (pc := 6) (cM_same _ _) ckX7_isSheet kwm_X7_83 ⟨rfl, rfl⟩ ⟨Nat.le_of_ble_eq_true rfl, Nat.le_of_ble_eq_true rfl⟩ ⟨Nat.zero_le _, Nat.zero_le _⟩ (Nat.le_of_ble_eq_true rfl) dX7_inn_6 (fun _ _ hf => kX7_isSheet hf) (fun r2 σ3 => ?_)
  refine k_if_ne (pc := 9) 14 dX7_inn_9 (by decide) ?_ ?_
  · refine k_iload_n (pc := 14) dX7_inn_14 rfl ?_
    refine k_si1 (pc := 15) (cM_same _ _) ckX7_isSort kwm_X7_87 ⟨rfl, rfl⟩ ⟨Nat.le_of_ble_eq_true rfl, Nat.le_of_ble_eq_true rfl⟩ ⟨Nat.zero_le _, Nat.zero_le _⟩ (Nat.le_of_ble_eq_true rfl) dX7_inn_15 (fun _ _ hf => kX7_isSort hf) (fun r4 σ5 => ?_)
    refine k_if_ne (pc := 18) 24 dX7_inn_18 (by decide) ?_ ?_
    · refine k_aload_n (pc := 24) dX7_inn_24 rfl ?_
      refine k_iload_n (pc := 25) dX7_inn_25 rfl ?_
      refine k_iload_n (pc := 26) dX7_inn_26 rfl ?_
      refine k_iload_n (pc := 27) dX7_inn_27 rfl ?_
      refine k_iload (pc := 28) dX7_inn_28 rfl ?_
      refine k_vi4 (pc := 30) (cM_same _ _) ckX7_against kwm_X7_90 cM_rv0 ⟨rfl, rfl⟩ ⟨Nat.le_of_ble_eq_true rfl, Nat.le_of_ble_eq_true rfl⟩ ⟨Nat.zero_le _, Nat.zero_le _⟩ (Nat.le_of_ble_eq_true rfl) dX7_inn_30 (fun _ _ hf => kX7_against hf) (fun r6 σ7 => ?_)
      refine k_ist5 (pc := 33) dX7_inn_33 (Nat.le_of_ble_eq_true rfl) (fun v8 => ?_)
      refine k_iload (pc := 35) dX7_inn_35 rfl ?_
      refine k_if_eq (pc := 37) 47 dX7_inn_37 (by decide) ?_ ?_
      · refine k_bipush (pc := 47) (v := (nI 60)) dX7_inn_47 (by decide) ?_
        refine k_iload_n (pc := 49) dX7_inn_49 rfl ?_
        refine k_imul (pc := 50) dX7_inn_50 ?_
        refine k_iload_n (pc := 51) dX7_inn_51 rfl ?_
        refine k_iadd (pc := 52) dX7_inn_52 ?_
        refine k_ist6 (pc := 53) dX7_inn_53 (Nat.le_of_ble_eq_true rfl) (fun v9 => ?_)
        refine k_aload_n (pc := 55) dX7_inn_55 rfl ?_
        refine k_iload (pc := 56) dX7_inn_56 rfl ?_
        refine k_pMX7_at (pc := 58) kwf_X7_98 rfl dX7_inn_58 (fun σ10 => ?_)
        refine k_aload_n (pc := 61) dX7_inn_61 rfl ?_
        refine k_iload (pc := 62) dX7_inn_62 rfl ?_
        refine k_iload (pc := 64) dX7_inn_64 rfl ?_
        refine k_iadd (pc := 66) dX7_inn_66 ?_
        refine k_vi1 (pc := 67) (cM_same _ _) ckX7_readInn kwm_X7_101 cM_rv0 ⟨rfl, rfl⟩ ⟨Nat.le_of_ble_eq_true rfl, Nat.le_of_ble_eq_true rfl⟩ ⟨Nat.zero_le _, Nat.zero_le _⟩ (Nat.le_of_ble_eq_true rfl) dX7_inn_67 (fun _ _ hf => kX7_readInn hf) (fun r11 σ12 => ?_)
        refine k_if_ne (pc := 70) 84 dX7_inn_70 (by decide) ?_ ?_
        · refine k_aload_n (pc := 84) dX7_inn_84 rfl ?_
          refine k_aload_n (pc := 85) dX7_inn_85 rfl ?_
          refine k_gMX7_readGuests (pc := 86) kwf_X7_104 rfl dX7_inn_86 ?_
          refine k_pMX7_guests (pc := 89) kwf_X7_77 rfl dX7_inn_89 (fun σ13 => ?_)
          refine k_aload_n (pc := 92) dX7_inn_92 rfl ?_
          refine k_aload_n (pc := 93) dX7_inn_93 rfl ?_
          refine k_gMX7_readTales (pc := 94) kwf_X7_107 rfl dX7_inn_94 ?_
          refine k_pMX7_tales (pc := 97) kwf_X7_80 rfl dX7_inn_97 (fun σ14 => ?_)
          refine k_iconst (pc := 100) (v := (nI 0)) dX7_inn_100 (by decide) ?_
          refine k_ist7 (pc := 101) dX7_inn_101 (Nat.le_of_ble_eq_true rfl) (fun v15 => ?_)
          refine k_fg1 ?_
          refine k_fg2 ?_
          refine k_fg3 ?_
          refine k_fg4 ?_
          refine k_fg5 ?_
          refine k_fg6 ?_
          exact kX7_inn_c103 k_F σ14 v15
        · refine k_bipush (pc := 73) (v := (k_ng 100)) dX7_inn_73 (by decide) ?_
          refine k_aload_n (pc := 75) dX7_inn_75 rfl ?_
          refine k_gMX7_at (pc := 76) kwf_X7_98 rfl dX7_inn_76 ?_
          refine k_iload (pc := 79) dX7_inn_79 rfl ?_
          refine k_isub (pc := 81) dX7_inn_81 ?_
          refine k_isub (pc := 82) dX7_inn_82 ?_
          exact k_ireturn (pc := 83) rfl dX7_inn_83
      · refine k_aload_n (pc := 40) dX7_inn_40 rfl ?_
        refine k_iload (pc := 41) dX7_inn_41 rfl ?_
        refine k_vi1 (pc := 43) (cM_same _ _) ckX7_fails kwm_X7_94 cM_rv0 ⟨rfl, rfl⟩ ⟨Nat.le_of_ble_eq_true rfl, Nat.le_of_ble_eq_true rfl⟩ ⟨Nat.zero_le _, Nat.zero_le _⟩ (Nat.le_of_ble_eq_true rfl) dX7_inn_43 (fun _ _ hf => kX7_fails hf) (fun r16 σ17 => ?_)
        exact k_ireturn (pc := 46) rfl dX7_inn_46
    · refine k_bipush (pc := 21) (v := (k_ng 2)) dX7_inn_21 (by decide) ?_
      exact k_ireturn (pc := 23) rfl dX7_inn_23
  · refine k_iconst (pc := 12) (v := (k_ng 1)) dX7_inn_12 (by decide) ?_
    exact k_ireturn (pc := 13) rfl dX7_inn_13
-- TallTalesModel.isTale(I)Z
theorem ckX7_isTale : k_Vok yX7_isTale cX7_isTale 2 (some .boolean) 1 := ⟨kwk_X7_isTale, kwi_X7_isTale, kwv_X7_isTale, kwn_X7, by decide, by decide +kernel⟩
abbrev rmX7_isTale : Room := { frames := 0, cells := 0, slots := 0, locals := 0 }
abbrev YX7_isTale : k_Y := (rmX7_isTale, cX7_isTale, 2, RX7, (some .boolean))
noncomputable def fX7_isTale (σ : k_S) (x1 : Int32) : Option (Int32 × k_S) := (if x1 < 0 then k_z ((nI 0)) (some ((nI 0), σ)) else (if x1 < σ.1 3 then k_z ((nI 1)) (some ((nI 1), σ)) else k_z ((nI 0)) (some ((nI 0), σ))))
set_option maxRecDepth 100000 in
set_option maxHeartbeats 4000000 in
theorem kX7_isTale {D : va_G} {cI : ClassId} {q : Nat → Nat} {σ : k_S} {x1 : Int32} {r : Int32} {τ : k_S} (h : fX7_isTale σ x1 = some (r, τ)) : k_Ct k_ei yX7_isTale cX7_isTale 2 (some .boolean) rmX7_isTale (cM cI q) D cI [.ref (q 0), .int x1] σ r τ := by
  refine k_met (Y := YX7_isTale) (cM_same _ _) (by decide) rfl (Nat.le_of_ble_eq_true rfl) (List.forall_mem_cons.mpr ⟨rfl, List.forall_mem_cons.mpr ⟨rfl, fun _ h => absurd h List.not_mem_nil⟩⟩) (fun X hD hI => ?_) h
  subst hD hI
  show KO X YX7_isTale (cM (k_I X) q) 0 0 (k_Q k_ei X (cM (k_I X) q)) 0 [some (.ref (q 0)), some (.int x1)] [] σ _
  unfold fX7_isTale
  refine k_iload_n (pc := 0) dX7_isTale_0 rfl ?_
  refine k_if_lt (pc := 1) 16 dX7_isTale_1 (by decide) ?_ ?_
  · refine k_iconst (pc := 16) (v := (nI 0)) dX7_isTale_16 (by decide) ?_
    exact k_zreturn (pc := 17) rfl dX7_isTale_17
  · refine k_iload_n (pc := 4) dX7_isTale_4 rfl ?_
    refine k_aload_n (pc := 5) dX7_isTale_5 rfl ?_
    refine k_gMX7_tales (pc := 6) kwf_X7_80 rfl dX7_isTale_6 ?_
    refine k_icmp_ge (pc := 9) 16 dX7_isTale_9 (by decide) ?_ ?_
    · refine k_iconst (pc := 16) (v := (nI 0)) dX7_isTale_16 (by decide) ?_
      exact k_zreturn (pc := 17) rfl dX7_isTale_17
    · refine k_iconst (pc := 12) (v := (nI 1)) dX7_isTale_12 (by decide) ?_
      refine k_goto (pc := 13) 17 dX7_isTale_13 (by decide) ?_
      exact k_zreturn (pc := 17) rfl dX7_isTale_17
-- TallTalesModel.tallBy(II)I
theorem ckX7_tallBy : k_Vok yX7_tallBy cX7_tallBy 3 (some .int) 2 := ⟨kwk_X7_tallBy, kwi_X7_tallBy, kwv_X7_tallBy, kwn_X7, by decide, by decide +kernel⟩
abbrev rmX7_tallBy : Room := { frames := 0, cells := 0, slots := 0, locals := 0 }
abbrev YX7_tallBy : k_Y := (rmX7_tallBy, cX7_tallBy, 3, RX7, (some .int))
noncomputable def fX7_tallBy (σ : k_S) (x1 x2 : Int32) : Option (Int32 × k_S) := k_gd (x1) 10 ((if σ.2 3 (Int32.toNatClampNeg (x1)) = 0 then k_gd (x1) 10 (some (σ.2 5 (Int32.toNatClampNeg (x1)), σ)) else k_gd (x1) 10 ((if σ.2 3 (Int32.toNatClampNeg (x1)) = (nI 1) then k_gd (x1) 10 (some ((σ.2 5 (Int32.toNatClampNeg (x1)) + ((nI 10) * x2)), σ)) else k_gd (x1) 10 (some ((σ.2 5 (Int32.toNatClampNeg (x1)) + (nI 900)), σ))))))
set_option maxRecDepth 100000 in
set_option maxHeartbeats 4000000 in
theorem kX7_tallBy {D : va_G} {cI : ClassId} {q : Nat → Nat} {σ : k_S} {x1 x2 : Int32} {r : Int32} {τ : k_S} (h : fX7_tallBy σ x1 x2 = some (r, τ)) : k_Ct k_ei yX7_tallBy cX7_tallBy 3 (some .int) rmX7_tallBy (cM cI q) D cI [.ref (q 0), .int x1, .int x2] σ r τ := by
  refine k_met (Y := YX7_tallBy) (cM_same _ _) (by decide) rfl (Nat.le_of_ble_eq_true rfl) (List.forall_mem_cons.mpr ⟨rfl, List.forall_mem_cons.mpr ⟨rfl, List.forall_mem_cons.mpr ⟨rfl, fun _ h => absurd h List.not_mem_nil⟩⟩⟩) (fun X hD hI => ?_) h
  subst hD hI
  show KO X YX7_tallBy (cM (k_I X) q) 0 0 (k_Q k_ei X (cM (k_I X) q)) 0 [some (.ref (q 0)), some (.int x1), some (.int x2)] [] σ _
  unfold fX7_tallBy
  refine k_aload_n (pc := 0) dX7_tallBy_0 rfl ?_
  refine k_gMX7_kind (pc := 1) kwf_X7_19 rfl dX7_tallBy_1 ?_
  refine k_iload_n (pc := 4) dX7_tallBy_4 rfl ?_
  refine k_lM4 (pc := 5) dX7_tallBy_5 ?_
  refine k_if_ne (pc := 6) 18 dX7_tallBy_6 (by decide) ?_ ?_
  · refine k_aload_n (pc := 18) dX7_tallBy_18 rfl ?_
    refine k_gMX7_kind (pc := 19) kwf_X7_19 rfl dX7_tallBy_19 ?_
    refine k_iload_n (pc := 22) dX7_tallBy_22 rfl ?_
    refine k_lM4 (pc := 23) dX7_tallBy_23 ?_
    refine k_iconst (pc := 24) (v := (nI 1)) dX7_tallBy_24 (by decide) ?_
    refine k_icmp_ne (pc := 25) 42 dX7_tallBy_25 (by decide) ?_ ?_
    · refine k_aload_n (pc := 42) dX7_tallBy_42 rfl ?_
      refine k_gMX7_high (pc := 43) kwf_X7_25 rfl dX7_tallBy_43 ?_
      refine k_iload_n (pc := 46) dX7_tallBy_46 rfl ?_
      refine k_lM6 (pc := 47) dX7_tallBy_47 ?_
      refine k_sipush (pc := 48) (v := (nI 900)) dX7_tallBy_48 (by decide) ?_
      refine k_iadd (pc := 51) dX7_tallBy_51 ?_
      exact k_ireturn (pc := 52) rfl dX7_tallBy_52
    · refine k_aload_n (pc := 28) dX7_tallBy_28 rfl ?_
      refine k_gMX7_high (pc := 29) kwf_X7_25 rfl dX7_tallBy_29 ?_
      refine k_iload_n (pc := 32) dX7_tallBy_32 rfl ?_
      refine k_lM6 (pc := 33) dX7_tallBy_33 ?_
      refine k_bipush (pc := 34) (v := (nI 10)) dX7_tallBy_34 (by decide) ?_
      refine k_iload_n (pc := 36) dX7_tallBy_36 rfl ?_
      refine k_imul (pc := 37) dX7_tallBy_37 ?_
      refine k_iadd (pc := 38) dX7_tallBy_38 ?_
      refine k_goto (pc := 39) 52 dX7_tallBy_39 (by decide) ?_
      exact k_ireturn (pc := 52) rfl dX7_tallBy_52
  · refine k_aload_n (pc := 9) dX7_tallBy_9 rfl ?_
    refine k_gMX7_high (pc := 10) kwf_X7_25 rfl dX7_tallBy_10 ?_
    refine k_iload_n (pc := 13) dX7_tallBy_13 rfl ?_
    refine k_lM6 (pc := 14) dX7_tallBy_14 ?_
    refine k_goto (pc := 15) 52 dX7_tallBy_15 (by decide) ?_
    exact k_ireturn (pc := 52) rfl dX7_tallBy_52
-- TallTalesModel.tallNow(I)I
theorem ckX7_tallNow : k_Vok yX7_tallNow cX7_tallNow 2 (some .int) 1 := ⟨kwk_X7_tallNow, kwi_X7_tallNow, kwv_X7_tallNow, kwn_X7, by decide, by decide +kernel⟩
abbrev rmX7_tallNow : Room := { frames := 1, cells := 0, slots := 0, locals := 22 }
abbrev YX7_tallNow : k_Y := (rmX7_tallNow, cX7_tallNow, 2, RX7, (some .int))
noncomputable def fX7_tallNow (σ : k_S) (x1 : Int32) : Option (Int32 × k_S) := k_gd (x1) 10 (k_ob (fX7_tallBy σ x1 (σ.2 12 (Int32.toNatClampNeg (x1)))) fun r1 σ2 => some (r1, σ2))
set_option maxRecDepth 100000 in
set_option maxHeartbeats 4000000 in
theorem kX7_tallNow {D : va_G} {cI : ClassId} {q : Nat → Nat} {σ : k_S} {x1 : Int32} {r : Int32} {τ : k_S} (h : fX7_tallNow σ x1 = some (r, τ)) : k_Ct k_ei yX7_tallNow cX7_tallNow 2 (some .int) rmX7_tallNow (cM cI q) D cI [.ref (q 0), .int x1] σ r τ := by
  refine k_met (Y := YX7_tallNow) (cM_same _ _) (by decide) rfl (Nat.le_of_ble_eq_true rfl) (List.forall_mem_cons.mpr ⟨rfl, List.forall_mem_cons.mpr ⟨rfl, fun _ h => absurd h List.not_mem_nil⟩⟩) (fun X hD hI => ?_) h
  subst hD hI
  show KO X YX7_tallNow (cM (k_I X) q) 0 0 (k_Q k_ei X (cM (k_I X) q)) 0 [some (.ref (q 0)), some (.int x1)] [] σ _
  unfold fX7_tallNow
  refine k_aload_n (pc := 0) dX7_tallNow_0 rfl ?_
  refine k_iload_n (pc := 1) dX7_tallNow_1 rfl ?_
  refine k_aload_n (pc := 2) dX7_tallNow_2 rfl ?_
  refine k_gMX7_times (pc := 3) kwf_X7_46 rfl dX7_tallNow_3 ?_
  refine k_iload_n (pc := 6) dX7_tallNow_6 rfl ?_
  refine k_lM13 (pc := 7) dX7_tallNow_7 ?_
  refine k_vi2 (pc := 8) (cM_same _ _) ckX7_tallBy kwm_X7_133 cM_rv0 ⟨rfl, rfl⟩ ⟨Nat.le_of_ble_eq_true rfl, Nat.le_of_ble_eq_true rfl⟩ ⟨Nat.zero_le _, Nat.zero_le _⟩ (Nat.le_of_ble_eq_true rfl) dX7_tallNow_8 (fun _ _ hf => kX7_tallBy hf) (fun r1 σ2 => ?_)
  exact k_ireturn (pc := 11) rfl dX7_tallNow_11
-- TallTalesModel.mayBe(IIII)Z
theorem ckX7_mayBe : k_Vok yX7_mayBe cX7_mayBe 5 (some .boolean) 4 := ⟨kwk_X7_mayBe, kwi_X7_mayBe, kwv_X7_mayBe, kwn_X7, by decide, by decide +kernel⟩
abbrev rmX7_mayBe : Room := { frames := 0, cells := 0, slots := 0, locals := 0 }
abbrev YX7_mayBe : k_Y := (rmX7_mayBe, cX7_mayBe, 5, RX7, (some .boolean))
noncomputable def fX7_mayBe (σ : k_S) (x1 x2 x3 x4 : Int32) : Option (Int32 × k_S) := (if x2 = 0 then k_z ((nI 1)) (some ((nI 1), σ)) else k_gd (x1) 10 ((if σ.2 3 (Int32.toNatClampNeg (x1)) = 0 then (if x4 < ((x3 + (nI 1)) + σ.1 4) then k_z ((nI 0)) (some ((nI 0), σ)) else k_z ((nI 1)) (some ((nI 1), σ))) else k_gd (x1) 10 ((if σ.2 3 (Int32.toNatClampNeg (x1)) = (nI 1) then (if x3 = (x4 - (nI 1)) then k_z ((nI 0)) (some ((nI 0), σ)) else k_z ((nI 1)) (some ((nI 1), σ))) else k_z ((nI 0)) (some ((nI 0), σ)))))))
set_option maxRecDepth 100000 in
set_option maxHeartbeats 4000000 in
theorem kX7_mayBe {D : va_G} {cI : ClassId} {q : Nat → Nat} {σ : k_S} {x1 x2 x3 x4 : Int32} {r : Int32} {τ : k_S} (h : fX7_mayBe σ x1 x2 x3 x4 = some (r, τ)) : k_Ct k_ei yX7_mayBe cX7_mayBe 5 (some .boolean) rmX7_mayBe (cM cI q) D cI [.ref (q 0), .int x1, .int x2, .int x3, .int x4] σ r τ := by
  refine k_met (Y := YX7_mayBe) (cM_same _ _) (by decide) rfl (Nat.le_of_ble_eq_true rfl) (List.forall_mem_cons.mpr ⟨rfl, List.forall_mem_cons.mpr ⟨rfl, List.forall_mem_cons.mpr ⟨rfl, List.forall_mem_cons.mpr ⟨rfl, List.forall_mem_cons.mpr ⟨rfl, fun _ h => absurd h List.not_mem_nil⟩⟩⟩⟩⟩) (fun X hD hI => ?_) h
  subst hD hI
  show KO X YX7_mayBe (cM (k_I X) q) 0 0 (k_Q k_ei X (cM (k_I X) q)) 0 [some (.ref (q 0)), some (.int x1), some (.int x2), some (.int x3), some (.int x4)] [] σ _
  unfold fX7_mayBe
  refine k_iload_n (pc := 0) dX7_mayBe_0 rfl ?_
  refine k_if_ne (pc := 1) 6 dX7_mayBe_1 (by decide) ?_ ?_
  · refine k_aload_n (pc := 6) dX7_mayBe_6 rfl ?_
    refine k_gMX7_kind (pc := 7) kwf_X7_19 rfl dX7_mayBe_7 ?_
    refine k_iload_n (pc := 10) dX7_mayBe_10 rfl ?_
    refine k_lM4 (pc := 11) dX7_mayBe_11 ?_
    refine k_if_ne (pc := 12) 36 dX7_mayBe_12 (by decide) ?_ ?_
    · refine k_aload_n (pc := 36) dX7_mayBe_36 rfl ?_
      refine k_gMX7_kind (pc := 37) kwf_X7_19 rfl dX7_mayBe_37 ?_
      refine k_iload_n (pc := 40) dX7_mayBe_40 rfl ?_
      refine k_lM4 (pc := 41) dX7_mayBe_41 ?_
      refine k_iconst (pc := 42) (v := (nI 1)) dX7_mayBe_42 (by decide) ?_
      refine k_icmp_ne (pc := 43) 58 dX7_mayBe_43 (by decide) ?_ ?_
      · refine k_iconst (pc := 58) (v := (nI 0)) dX7_mayBe_58 (by decide) ?_
        exact k_zreturn (pc := 59) rfl dX7_mayBe_59
      · refine k_iload_n (pc := 46) dX7_mayBe_46 rfl ?_
        refine k_iload (pc := 47) dX7_mayBe_47 rfl ?_
        refine k_iconst (pc := 49) (v := (nI 1)) dX7_mayBe_49 (by decide) ?_
        refine k_isub (pc := 50) dX7_mayBe_50 ?_
        refine k_icmp_eq (pc := 51) 58 dX7_mayBe_51 (by decide) ?_ ?_
        · refine k_iconst (pc := 58) (v := (nI 0)) dX7_mayBe_58 (by decide) ?_
          exact k_zreturn (pc := 59) rfl dX7_mayBe_59
        · refine k_iconst (pc := 54) (v := (nI 1)) dX7_mayBe_54 (by decide) ?_
          refine k_goto (pc := 55) 59 dX7_mayBe_55 (by decide) ?_
          exact k_zreturn (pc := 59) rfl dX7_mayBe_59
    · refine k_iload (pc := 15) dX7_mayBe_15 rfl ?_
      refine k_iload_n (pc := 17) dX7_mayBe_17 rfl ?_
      refine k_iconst (pc := 18) (v := (nI 1)) dX7_mayBe_18 (by decide) ?_
      refine k_iadd (pc := 19) dX7_mayBe_19 ?_
      refine k_aload_n (pc := 20) dX7_mayBe_20 rfl ?_
      refine k_gMX7_memory (pc := 21) kwf_X7_110 rfl dX7_mayBe_21 ?_
      refine k_iadd (pc := 24) dX7_mayBe_24 ?_
      refine k_icmp_lt (pc := 25) 32 dX7_mayBe_25 (by decide) ?_ ?_
      · refine k_iconst (pc := 32) (v := (nI 0)) dX7_mayBe_32 (by decide) ?_
        refine k_goto (pc := 33) 59 dX7_mayBe_33 (by decide) ?_
        exact k_zreturn (pc := 59) rfl dX7_mayBe_59
      · refine k_iconst (pc := 28) (v := (nI 1)) dX7_mayBe_28 (by decide) ?_
        refine k_goto (pc := 29) 59 dX7_mayBe_29 (by decide) ?_
        exact k_zreturn (pc := 59) rfl dX7_mayBe_59
  · refine k_iconst (pc := 4) (v := (nI 1)) dX7_mayBe_4 (by decide) ?_
    exact k_zreturn (pc := 5) rfl dX7_mayBe_5
-- TallTalesModel.mayNow(I)Z
theorem ckX7_mayNow : k_Vok yX7_mayNow cX7_mayNow 2 (some .boolean) 1 := ⟨kwk_X7_mayNow, kwi_X7_mayNow, kwv_X7_mayNow, kwn_X7, by decide, by decide +kernel⟩
abbrev rmX7_mayNow : Room := { frames := 1, cells := 0, slots := 0, locals := 24 }
abbrev YX7_mayNow : k_Y := (rmX7_mayNow, cX7_mayNow, 2, RX7, (some .boolean))
noncomputable def fX7_mayNow (σ : k_S) (x1 : Int32) : Option (Int32 × k_S) := k_gd (x1) 10 (k_gd (x1) 10 (k_ob (fX7_mayBe σ x1 (σ.2 12 (Int32.toNatClampNeg (x1))) (σ.2 13 (Int32.toNatClampNeg (x1))) (σ.1 8)) fun r1 σ2 => k_z (r1) (some (r1, σ2))))
set_option maxRecDepth 100000 in
set_option maxHeartbeats 4000000 in
theorem kX7_mayNow {D : va_G} {cI : ClassId} {q : Nat → Nat} {σ : k_S} {x1 : Int32} {r : Int32} {τ : k_S} (h : fX7_mayNow σ x1 = some (r, τ)) : k_Ct k_ei yX7_mayNow cX7_mayNow 2 (some .boolean) rmX7_mayNow (cM cI q) D cI [.ref (q 0), .int x1] σ r τ := by
  refine k_met (Y := YX7_mayNow) (cM_same _ _) (by decide) rfl (Nat.le_of_ble_eq_true rfl) (List.forall_mem_cons.mpr ⟨rfl, List.forall_mem_cons.mpr ⟨rfl, fun _ h => absurd h List.not_mem_nil⟩⟩) (fun X hD hI => ?_) h
  subst hD hI
  show KO X YX7_mayNow (cM (k_I X) q) 0 0 (k_Q k_ei X (cM (k_I X) q)) 0 [some (.ref (q 0)), some (.int x1)] [] σ _
  unfold fX7_mayNow
  refine k_aload_n (pc := 0) dX7_mayNow_0 rfl ?_
  refine k_iload_n (pc := 1) dX7_mayNow_1 rfl ?_
  refine k_aload_n (pc := 2) dX7_mayNow_2 rfl ?_
  refine k_gMX7_times (pc := 3) kwf_X7_46 rfl dX7_mayNow_3 ?_
  refine k_iload_n (pc := 6) dX7_mayNow_6 rfl ?_
  refine k_lM13 (pc := 7) dX7_mayNow_7 ?_
  refine k_aload_n (pc := 8) dX7_mayNow_8 rfl ?_
  refine k_gMX7_last (pc := 9) kwf_X7_49 rfl dX7_mayNow_9 ?_
  refine k_iload_n (pc := 12) dX7_mayNow_12 rfl ?_
  refine k_lM14 (pc := 13) dX7_mayNow_13 ?_
  refine k_aload_n (pc := 14) dX7_mayNow_14 rfl ?_
  refine k_gMX7_over (pc := 15) kwf_X7_113 rfl dX7_mayNow_15 ?_
  refine k_vi4 (pc := 18) (cM_same _ _) ckX7_mayBe kwm_X7_129 cM_rv0 ⟨rfl, rfl⟩ ⟨Nat.le_of_ble_eq_true rfl, Nat.le_of_ble_eq_true rfl⟩ ⟨Nat.zero_le _, Nat.zero_le _⟩ (Nat.le_of_ble_eq_true rfl) dX7_mayNow_18 (fun _ _ hf => kX7_mayBe hf) (fun r1 σ2 => ?_)
  exact k_zreturn (pc := 21) rfl dX7_mayNow_21
-- TallTalesModel.ofTale(II)I
theorem ckX7_ofTale : k_Vok yX7_ofTale cX7_ofTale 3 (some .int) 2 := ⟨kwk_X7_ofTale, kwi_X7_ofTale, kwv_X7_ofTale, kwn_X7, by decide, by decide +kernel⟩
abbrev rmX7_ofTale : Room := { frames := 2, cells := 0, slots := 0, locals := 45 }
abbrev YX7_ofTale : k_Y := (rmX7_ofTale, cX7_ofTale, 3, RX7, (some .int))
noncomputable def fX7_ofTale (σ : k_S) (x1 x2 : Int32) : Option (Int32 × k_S) := k_ob (fX7_isTale σ x1) fun r1 σ2 => (if r1 = 0 then some ((k_ng 1), σ2) else (if x2 = (nI 0) then k_gd (x1) 10 (some (σ2.2 3 (Int32.toNatClampNeg (x1)), σ2)) else (if x2 = (nI 1) then k_gd (x1) 10 (some (σ2.2 4 (Int32.toNatClampNeg (x1)), σ2)) else (if x2 = (nI 2) then k_gd (x1) 10 (some (σ2.2 5 (Int32.toNatClampNeg (x1)), σ2)) else (if x2 = (nI 3) then k_gd (x1) 10 (some (σ2.2 12 (Int32.toNatClampNeg (x1)), σ2)) else (if x2 = (nI 4) then k_gd (x1) 10 (some (σ2.2 13 (Int32.toNatClampNeg (x1)), σ2)) else (if x2 = (nI 5) then k_ob (fX7_mayNow σ2 x1) fun r4 σ5 => (if r4 = 0 then some ((nI 0), σ5) else some ((nI 1), σ5)) else (if x2 = (nI 6) then k_ob (fX7_tallNow σ2 x1) fun r6 σ7 => some (r6, σ7) else some ((k_ng 2), σ2)))))))))
set_option maxRecDepth 100000 in
set_option maxHeartbeats 4000000 in
theorem kX7_ofTale {D : va_G} {cI : ClassId} {q : Nat → Nat} {σ : k_S} {x1 x2 : Int32} {r : Int32} {τ : k_S} (h : fX7_ofTale σ x1 x2 = some (r, τ)) : k_Ct k_ei yX7_ofTale cX7_ofTale 3 (some .int) rmX7_ofTale (cM cI q) D cI [.ref (q 0), .int x1, .int x2] σ r τ := by
  refine k_met (Y := YX7_ofTale) (cM_same _ _) (by decide) rfl (Nat.le_of_ble_eq_true rfl) (List.forall_mem_cons.mpr ⟨rfl, List.forall_mem_cons.mpr ⟨rfl, List.forall_mem_cons.mpr ⟨rfl, fun _ h => absurd h List.not_mem_nil⟩⟩⟩) (fun X hD hI => ?_) h
  subst hD hI
  show KO X YX7_ofTale (cM (k_I X) q) 0 0 (k_Q k_ei X (cM (k_I X) q)) 0 [some (.ref (q 0)), some (.int x1), some (.int x2)] [] σ _
  unfold fX7_ofTale
  refine k_aload_n (pc := 0) dX7_ofTale_0 rfl ?_
  refine k_iload_n (pc := 1) dX7_ofTale_1 rfl ?_
  refine k_vi1 (pc := 2) (cM_same _ _) ckX7_isTale kwm_X7_136 cM_rv0 ⟨rfl, rfl⟩ ⟨Nat.le_of_ble_eq_true rfl, Nat.le_of_ble_eq_true rfl⟩ ⟨Nat.zero_le _, Nat.zero_le _⟩ (Nat.le_of_ble_eq_true rfl) dX7_ofTale_2 (fun _ _ hf => kX7_isTale hf) (fun r1 σ2 => ?_)
  refine k_if_ne (pc := 5) 10 dX7_ofTale_5 (by decide) ?_ ?_
  · refine k_iload_n (pc := 10) dX7_ofTale_10 rfl ?_
    refine KO.ite (c := x2 = (nI 0)) (fun hs3_0 => ?_) (fun hs3_0 => ?_)
    · refine k_tableIn (off := 41) (pc := 11) 52 dX7_ofTale_11 hs3_0 (by decide) (by decide) (by decide) (by decide) ?_
      refine k_aload_n (pc := 52) dX7_ofTale_52 rfl ?_
      refine k_gMX7_kind (pc := 53) kwf_X7_19 rfl dX7_ofTale_53 ?_
      refine k_iload_n (pc := 56) dX7_ofTale_56 rfl ?_
      refine k_lM4 (pc := 57) dX7_ofTale_57 ?_
      exact k_ireturn (pc := 58) rfl dX7_ofTale_58
    · refine KO.ite (c := x2 = (nI 1)) (fun hs3_1 => ?_) (fun hs3_1 => ?_)
      · refine k_tableIn (off := 48) (pc := 11) 59 dX7_ofTale_11 hs3_1 (by decide) (by decide) (by decide) (by decide) ?_
        refine k_aload_n (pc := 59) dX7_ofTale_59 rfl ?_
        refine k_gMX7_whose (pc := 60) kwf_X7_22 rfl dX7_ofTale_60 ?_
        refine k_iload_n (pc := 63) dX7_ofTale_63 rfl ?_
        refine k_lM5 (pc := 64) dX7_ofTale_64 ?_
        exact k_ireturn (pc := 65) rfl dX7_ofTale_65
      · refine KO.ite (c := x2 = (nI 2)) (fun hs3_2 => ?_) (fun hs3_2 => ?_)
        · refine k_tableIn (off := 55) (pc := 11) 66 dX7_ofTale_11 hs3_2 (by decide) (by decide) (by decide) (by decide) ?_
          refine k_aload_n (pc := 66) dX7_ofTale_66 rfl ?_
          refine k_gMX7_high (pc := 67) kwf_X7_25 rfl dX7_ofTale_67 ?_
          refine k_iload_n (pc := 70) dX7_ofTale_70 rfl ?_
          refine k_lM6 (pc := 71) dX7_ofTale_71 ?_
          exact k_ireturn (pc := 72) rfl dX7_ofTale_72
        · refine KO.ite (c := x2 = (nI 3)) (fun hs3_3 => ?_) (fun hs3_3 => ?_)
          · refine k_tableIn (off := 62) (pc := 11) 73 dX7_ofTale_11 hs3_3 (by decide) (by decide) (by decide) (by decide) ?_
            refine k_aload_n (pc := 73) dX7_ofTale_73 rfl ?_
            refine k_gMX7_times (pc := 74) kwf_X7_46 rfl dX7_ofTale_74 ?_
            refine k_iload_n (pc := 77) dX7_ofTale_77 rfl ?_
            refine k_lM13 (pc := 78) dX7_ofTale_78 ?_
            exact k_ireturn (pc := 79) rfl dX7_ofTale_79
          · refine KO.ite (c := x2 = (nI 4)) (fun hs3_4 => ?_) (fun hs3_4 => ?_)
            · refine k_tableIn (off := 69) (pc := 11) 80 dX7_ofTale_11 hs3_4 (by decide) (by decide) (by decide) (by decide) ?_
              refine k_aload_n (pc := 80) dX7_ofTale_80 rfl ?_
              refine k_gMX7_last (pc := 81) kwf_X7_49 rfl dX7_ofTale_81 ?_
              refine k_iload_n (pc := 84) dX7_ofTale_84 rfl ?_
              refine k_lM14 (pc := 85) dX7_ofTale_85 ?_
              exact k_ireturn (pc := 86) rfl dX7_ofTale_86
            · refine KO.ite (c := x2 = (nI 5)) (fun hs3_5 => ?_) (fun hs3_5 => ?_)
              · refine k_tableIn (off := 76) (pc := 11) 87 dX7_ofTale_11 hs3_5 (by decide) (by decide) (by decide) (by decide) ?_
                refine k_aload_n (pc := 87) dX7_ofTale_87 rfl ?_
                refine k_iload_n (pc := 88) dX7_ofTale_88 rfl ?_
                refine k_vi1 (pc := 89) (cM_same _ _) ckX7_mayNow kwm_X7_139 cM_rv0 ⟨rfl, rfl⟩ ⟨Nat.le_of_ble_eq_true rfl, Nat.le_of_ble_eq_true rfl⟩ ⟨Nat.zero_le _, Nat.zero_le _⟩ (Nat.le_of_ble_eq_true rfl) dX7_ofTale_89 (fun _ _ hf => kX7_mayNow hf) (fun r4 σ5 => ?_)
                refine k_if_eq (pc := 92) 99 dX7_ofTale_92 (by decide) ?_ ?_
                · refine k_iconst (pc := 99) (v := (nI 0)) dX7_ofTale_99 (by decide) ?_
                  exact k_ireturn (pc := 100) rfl dX7_ofTale_100
                · refine k_iconst (pc := 95) (v := (nI 1)) dX7_ofTale_95 (by decide) ?_
                  refine k_goto (pc := 96) 100 dX7_ofTale_96 (by decide) ?_
                  exact k_ireturn (pc := 100) rfl dX7_ofTale_100
              · refine KO.ite (c := x2 = (nI 6)) (fun hs3_6 => ?_) (fun hs3_6 => ?_)
                · refine k_tableIn (off := 90) (pc := 11) 101 dX7_ofTale_11 hs3_6 (by decide) (by decide) (by decide) (by decide) ?_
                  refine k_aload_n (pc := 101) dX7_ofTale_101 rfl ?_
                  refine k_iload_n (pc := 102) dX7_ofTale_102 rfl ?_
                  refine k_vi1 (pc := 103) (cM_same _ _) ckX7_tallNow kwm_X7_142 cM_rv0 ⟨rfl, rfl⟩ ⟨Nat.le_of_ble_eq_true rfl, Nat.le_of_ble_eq_true rfl⟩ ⟨Nat.zero_le _, Nat.zero_le _⟩ (Nat.le_of_ble_eq_true rfl) dX7_ofTale_103 (fun _ _ hf => kX7_tallNow hf) (fun r6 σ7 => ?_)
                  exact k_ireturn (pc := 106) rfl dX7_ofTale_106
                · refine k_tableOut (pc := 11) 107 dX7_ofTale_11 (by have g0 := lv_neT (a := 0) hs3_0 (by decide); have g1 := lv_neT (a := 1) hs3_1 (by decide); have g2 := lv_neT (a := 2) hs3_2 (by decide); have g3 := lv_neT (a := 3) hs3_3 (by decide); have g4 := lv_neT (a := 4) hs3_4 (by decide); have g5 := lv_neT (a := 5) hs3_5 (by decide); have g6 := lv_neT (a := 6) hs3_6 (by decide); omega) (by decide) ?_
                  refine k_bipush (pc := 107) (v := (k_ng 2)) dX7_ofTale_107 (by decide) ?_
                  exact k_ireturn (pc := 109) rfl dX7_ofTale_109
  · refine k_iconst (pc := 8) (v := (k_ng 1)) dX7_ofTale_8 (by decide) ?_
    exact k_ireturn (pc := 9) rfl dX7_ofTale_9
-- TallTalesModel.memory(I)I
theorem ckX7_memory : k_Vok yX7_memory cX7_memory 3 (some .int) 1 := ⟨kwk_X7_memory, kwi_X7_memory, kwv_X7_memory, kwn_X7, by decide, by decide +kernel⟩
abbrev rmX7_memory : Room := { frames := 1, cells := 0, slots := 0, locals := 22 }
abbrev YX7_memory : k_Y := (rmX7_memory, cX7_memory, 3, RX7, (some .int))
noncomputable def fX7_memory (σ : k_S) (x1 : Int32) : Option (Int32 × k_S) := k_ob (fX7_within σ x1 ((nI 0)) ((nI 99))) fun r1 σ2 => (if r1 = 0 then some ((k_ng 2), σ2) else (if σ2.1 2 = 0 then some ((k_ng 3), σ2) else k_bn (σ2.1 4) fun v3 => k_bn (k_sf σ2 4 (x1)) fun σ4 => some (v3, σ4)))
set_option maxRecDepth 100000 in
set_option maxHeartbeats 4000000 in
theorem kX7_memory {D : va_G} {cI : ClassId} {q : Nat → Nat} {σ : k_S} {x1 : Int32} {r : Int32} {τ : k_S} (h : fX7_memory σ x1 = some (r, τ)) : k_Ct k_ei yX7_memory cX7_memory 3 (some .int) rmX7_memory (cM cI q) D cI [.ref (q 0), .int x1] σ r τ := by
  refine k_met (Y := YX7_memory) (cM_same _ _) (by decide) rfl (Nat.le_of_ble_eq_true rfl) (List.forall_mem_cons.mpr ⟨rfl, List.forall_mem_cons.mpr ⟨rfl, fun _ h => absurd h List.not_mem_nil⟩⟩) (fun X hD hI => ?_) h
  subst hD hI
  show KO X YX7_memory (cM (k_I X) q) 0 0 (k_Q k_ei X (cM (k_I X) q)) 0 [some (.ref (q 0)), some (.int x1), none] [] σ _
  unfold fX7_memory
  refine k_iload_n (pc := 0) dX7_memory_0 rfl ?_
  refine k_iconst (pc := 1) (v := (nI 0)) dX7_memory_1 (by decide) ?_
  refine k_bipush (pc := 2) (v := (nI 99)) dX7_memory_2 (by decide) ?_
  refine k_si3 (pc := 4) (cM_same _ _) ckX7_within kwm_X7_73 ⟨rfl, rfl⟩ ⟨Nat.le_of_ble_eq_true rfl, Nat.le_of_ble_eq_true rfl⟩ ⟨Nat.zero_le _, Nat.zero_le _⟩ (Nat.le_of_ble_eq_true rfl) dX7_memory_4 (fun _ _ hf => kX7_within hf) (fun r1 σ2 => ?_)
  refine k_if_ne (pc := 7) 13 dX7_memory_7 (by decide) ?_ ?_
  · refine k_aload_n (pc := 13) dX7_memory_13 rfl ?_
    refine k_gMX7_guests (pc := 14) kwf_X7_77 rfl dX7_memory_14 ?_
    refine k_if_ne (pc := 17) 23 dX7_memory_17 (by decide) ?_ ?_
    · refine k_aload_n (pc := 23) dX7_memory_23 rfl ?_
      refine k_gMX7_memory (pc := 24) kwf_X7_110 rfl dX7_memory_24 ?_
      refine k_ist2 (pc := 27) dX7_memory_27 (Nat.le_of_ble_eq_true rfl) (fun v3 => ?_)
      refine k_aload_n (pc := 28) dX7_memory_28 rfl ?_
      refine k_iload_n (pc := 29) dX7_memory_29 rfl ?_
      refine k_pMX7_memory (pc := 30) kwf_X7_110 rfl dX7_memory_30 (fun σ4 => ?_)
      refine k_iload_n (pc := 33) dX7_memory_33 rfl ?_
      exact k_ireturn (pc := 34) rfl dX7_memory_34
    · refine k_bipush (pc := 20) (v := (k_ng 3)) dX7_memory_20 (by decide) ?_
      exact k_ireturn (pc := 22) rfl dX7_memory_22
  · refine k_bipush (pc := 10) (v := (k_ng 2)) dX7_memory_10 (by decide) ?_
    exact k_ireturn (pc := 12) rfl dX7_memory_12
-- TallTalesModel.isGuest(I)Z
theorem ckX7_isGuest : k_Vok yX7_isGuest cX7_isGuest 2 (some .boolean) 1 := ⟨kwk_X7_isGuest, kwi_X7_isGuest, kwv_X7_isGuest, kwn_X7, by decide, by decide +kernel⟩
abbrev rmX7_isGuest : Room := { frames := 0, cells := 0, slots := 0, locals := 0 }
abbrev YX7_isGuest : k_Y := (rmX7_isGuest, cX7_isGuest, 2, RX7, (some .boolean))
noncomputable def fX7_isGuest (σ : k_S) (x1 : Int32) : Option (Int32 × k_S) := (if x1 < 0 then k_z ((nI 0)) (some ((nI 0), σ)) else (if x1 < σ.1 2 then k_z ((nI 1)) (some ((nI 1), σ)) else k_z ((nI 0)) (some ((nI 0), σ))))
set_option maxRecDepth 100000 in
set_option maxHeartbeats 4000000 in
theorem kX7_isGuest {D : va_G} {cI : ClassId} {q : Nat → Nat} {σ : k_S} {x1 : Int32} {r : Int32} {τ : k_S} (h : fX7_isGuest σ x1 = some (r, τ)) : k_Ct k_ei yX7_isGuest cX7_isGuest 2 (some .boolean) rmX7_isGuest (cM cI q) D cI [.ref (q 0), .int x1] σ r τ := by
  refine k_met (Y := YX7_isGuest) (cM_same _ _) (by decide) rfl (Nat.le_of_ble_eq_true rfl) (List.forall_mem_cons.mpr ⟨rfl, List.forall_mem_cons.mpr ⟨rfl, fun _ h => absurd h List.not_mem_nil⟩⟩) (fun X hD hI => ?_) h
  subst hD hI
  show KO X YX7_isGuest (cM (k_I X) q) 0 0 (k_Q k_ei X (cM (k_I X) q)) 0 [some (.ref (q 0)), some (.int x1)] [] σ _
  unfold fX7_isGuest
  refine k_iload_n (pc := 0) dX7_isGuest_0 rfl ?_
  refine k_if_lt (pc := 1) 16 dX7_isGuest_1 (by decide) ?_ ?_
  · refine k_iconst (pc := 16) (v := (nI 0)) dX7_isGuest_16 (by decide) ?_
    exact k_zreturn (pc := 17) rfl dX7_isGuest_17
  · refine k_iload_n (pc := 4) dX7_isGuest_4 rfl ?_
    refine k_aload_n (pc := 5) dX7_isGuest_5 rfl ?_
    refine k_gMX7_guests (pc := 6) kwf_X7_77 rfl dX7_isGuest_6 ?_
    refine k_icmp_ge (pc := 9) 16 dX7_isGuest_9 (by decide) ?_ ?_
    · refine k_iconst (pc := 16) (v := (nI 0)) dX7_isGuest_16 (by decide) ?_
      exact k_zreturn (pc := 17) rfl dX7_isGuest_17
    · refine k_iconst (pc := 12) (v := (nI 1)) dX7_isGuest_12 (by decide) ?_
      refine k_goto (pc := 13) 17 dX7_isGuest_13 (by decide) ?_
      exact k_zreturn (pc := 17) rfl dX7_isGuest_17
-- TallTalesModel.choose(II)I
theorem ckX7_choose : k_Vok yX7_choose cX7_choose 4 (some .int) 2 := ⟨kwk_X7_choose, kwi_X7_choose, kwv_X7_choose, kwn_X7, by decide, by decide +kernel⟩
abbrev rmX7_choose : Room := { frames := 2, cells := 0, slots := 0, locals := 45 }
abbrev YX7_choose : k_Y := (rmX7_choose, cX7_choose, 4, RX7, (some .int))
noncomputable def fX7_choose_c51 (σ : k_S) (l1 l2 : Int32) : Option (Int32 × k_S) := k_gd (l1) 5 (k_bn (σ.2 11 (Int32.toNatClampNeg (l1))) fun v1 => k_gd (l1) 5 (k_bn (k_sa σ 11 (l1) (l2)) fun σ2 => some (v1, σ2)))
set_option maxRecDepth 100000 in
set_option maxHeartbeats 4000000 in
theorem kX7_choose_c51 {X : k_C} {q : Nat → Nat} (σ : k_S) (l1 l2 : Int32) : KO X YX7_choose (cM (k_I X) q) 0 0 (k_Q k_ei X (cM (k_I X) q)) 51 [some (.ref (q 0)), some (.int l1), some (.int l2), none] [] σ (fX7_choose_c51 σ l1 l2) := by
  unfold fX7_choose_c51
  refine k_aload_n (pc := 51) dX7_choose_51 rfl ?_
  refine k_gMX7_chosen (pc := 52) kwf_X7_43 rfl dX7_choose_52 ?_
  refine k_iload_n (pc := 55) dX7_choose_55 rfl ?_
  refine k_lM12 (pc := 56) dX7_choose_56 ?_
  refine k_ist3 (pc := 57) dX7_choose_57 (Nat.le_of_ble_eq_true rfl) (fun v1 => ?_)
  refine k_aload_n (pc := 58) dX7_choose_58 rfl ?_
  refine k_gMX7_chosen (pc := 59) kwf_X7_43 rfl dX7_choose_59 ?_
  refine k_iload_n (pc := 62) dX7_choose_62 rfl ?_
  refine k_iload_n (pc := 63) dX7_choose_63 rfl ?_
  refine k_sM12 (pc := 64) dX7_choose_64 (fun σ2 => ?_)
  refine k_iload_n (pc := 65) dX7_choose_65 rfl ?_
  exact k_ireturn (pc := 66) rfl dX7_choose_66
noncomputable def fX7_choose_c24 (σ : k_S) (l1 l2 : Int32) : Option (Int32 × k_S) := (if l2 = (k_ng 9) then fX7_choose_c51 σ l1 l2 else k_gd (l2) 10 ((if σ.2 4 (Int32.toNatClampNeg (l2)) = l1 then k_ob (fX7_mayNow σ l2) fun r1 σ2 => (if r1 = 0 then some ((k_ng 3), σ2) else fX7_choose_c51 σ2 l1 l2) else some ((k_ng 3), σ))))
set_option maxRecDepth 100000 in
set_option maxHeartbeats 4000000 in
theorem kX7_choose_c24 {X : k_C} {q : Nat → Nat} (σ : k_S) (l1 l2 : Int32) : KO X YX7_choose (cM (k_I X) q) 0 0 (k_Q k_ei X (cM (k_I X) q)) 24 [some (.ref (q 0)), some (.int l1), some (.int l2), none] [] σ (fX7_choose_c24 σ l1 l2) := by
  unfold fX7_choose_c24
  refine k_iload_n (pc := 24) dX7_choose_24 rfl ?_
  refine k_bipush (pc := 25) (v := (k_ng 9)) dX7_choose_25 (by decide) ?_
  refine k_icmp_eq (pc := 27) 51 dX7_choose_27 (by decide) ?_ ?_
  · exact kX7_choose_c51 σ l1 l2
  · refine k_aload_n (pc := 30) dX7_choose_30 rfl ?_
    refine k_gMX7_whose (pc := 31) kwf_X7_22 rfl dX7_choose_31 ?_
    refine k_iload_n (pc := 34) dX7_choose_34 rfl ?_
    refine k_lM5 (pc := 35) dX7_choose_35 ?_
    refine k_iload_n (pc := 36) dX7_choose_36 rfl ?_
    refine k_icmp_ne (pc := 37) 48 dX7_choose_37 (by decide) ?_ ?_
    · refine k_bipush (pc := 48) (v := (k_ng 3)) dX7_choose_48 (by decide) ?_
      exact k_ireturn (pc := 50) rfl dX7_choose_50
    · refine k_aload_n (pc := 40) dX7_choose_40 rfl ?_
      refine k_iload_n (pc := 41) dX7_choose_41 rfl ?_
      refine k_vi1 (pc := 42) (cM_same _ _) ckX7_mayNow kwm_X7_139 cM_rv0 ⟨rfl, rfl⟩ ⟨Nat.le_of_ble_eq_true rfl, Nat.le_of_ble_eq_true rfl⟩ ⟨Nat.zero_le _, Nat.zero_le _⟩ (Nat.le_of_ble_eq_true rfl) dX7_choose_42 (fun _ _ hf => kX7_mayNow hf) (fun r1 σ2 => ?_)
      refine k_if_ne (pc := 45) 51 dX7_choose_45 (by decide) ?_ ?_
      · exact kX7_choose_c51 σ2 l1 l2
      · refine k_bipush (pc := 48) (v := (k_ng 3)) dX7_choose_48 (by decide) ?_
        exact k_ireturn (pc := 50) rfl dX7_choose_50
noncomputable def fX7_choose (σ : k_S) (x1 x2 : Int32) : Option (Int32 × k_S) := k_ob (fX7_isGuest σ x1) fun r1 σ2 => (if r1 = 0 then some ((k_ng 1), σ2) else (if x2 = (k_ng 9) then fX7_choose_c24 σ2 x1 x2 else k_ob (fX7_isTale σ2 x2) fun r3 σ4 => (if r3 = 0 then some ((k_ng 1), σ4) else fX7_choose_c24 σ4 x1 x2)))
set_option maxRecDepth 100000 in
set_option maxHeartbeats 4000000 in
theorem kX7_choose {D : va_G} {cI : ClassId} {q : Nat → Nat} {σ : k_S} {x1 x2 : Int32} {r : Int32} {τ : k_S} (h : fX7_choose σ x1 x2 = some (r, τ)) : k_Ct k_ei yX7_choose cX7_choose 4 (some .int) rmX7_choose (cM cI q) D cI [.ref (q 0), .int x1, .int x2] σ r τ := by
  refine k_met (Y := YX7_choose) (cM_same _ _) (by decide) rfl (Nat.le_of_ble_eq_true rfl) (List.forall_mem_cons.mpr ⟨rfl, List.forall_mem_cons.mpr ⟨rfl, List.forall_mem_cons.mpr ⟨rfl, fun _ h => absurd h List.not_mem_nil⟩⟩⟩) (fun X hD hI => ?_) h
  subst hD hI
  show KO X YX7_choose (cM (k_I X) q) 0 0 (k_Q k_ei X (cM (k_I X) q)) 0 [some (.ref (q 0)), some (.int x1), some (.int x2), none] [] σ _
  unfold fX7_choose
  refine k_aload_n (pc := 0) dX7_choose_0 rfl ?_
  refine k_iload_n (pc := 1) dX7_choose_1 rfl ?_
  refine k_vi1 (pc := 2) (cM_same _ _) ckX7_isGuest kwm_X7_145 cM_rv0 ⟨rfl, rfl⟩ ⟨Nat.le_of_ble_eq_true rfl, Nat.le_of_ble_eq_true rfl⟩ ⟨Nat.zero_le _, Nat.zero_le _⟩ (Nat.le_of_ble_eq_true rfl) dX7_choose_2 (fun _ _ hf => kX7_isGuest hf) (fun r1 σ2 => ?_)
  refine k_if_eq (pc := 5) 22 dX7_choose_5 (by decide) ?_ ?_
  · refine k_iconst (pc := 22) (v := (k_ng 1)) dX7_choose_22 (by decide) ?_
    exact k_ireturn (pc := 23) rfl dX7_choose_23
  · refine k_iload_n (pc := 8) dX7_choose_8 rfl ?_
    refine k_bipush (pc := 9) (v := (k_ng 9)) dX7_choose_9 (by decide) ?_
    refine k_icmp_eq (pc := 11) 24 dX7_choose_11 (by decide) ?_ ?_
    · exact kX7_choose_c24 σ2 x1 x2
    · refine k_aload_n (pc := 14) dX7_choose_14 rfl ?_
      refine k_iload_n (pc := 15) dX7_choose_15 rfl ?_
      refine k_vi1 (pc := 16) (cM_same _ _) ckX7_isTale kwm_X7_136 cM_rv0 ⟨rfl, rfl⟩ ⟨Nat.le_of_ble_eq_true rfl, Nat.le_of_ble_eq_true rfl⟩ ⟨Nat.zero_le _, Nat.zero_le _⟩ (Nat.le_of_ble_eq_true rfl) dX7_choose_16 (fun _ _ hf => kX7_isTale hf) (fun r3 σ4 => ?_)
      refine k_if_ne (pc := 19) 24 dX7_choose_19 (by decide) ?_ ?_
      · exact kX7_choose_c24 σ4 x1 x2
      · refine k_iconst (pc := 22) (v := (k_ng 1)) dX7_choose_22 (by decide) ?_
        exact k_ireturn (pc := 23) rfl dX7_choose_23
-- TallTalesModel.layTall()V
theorem ckX7_layTall : k_Vok yX7_layTall cX7_layTall 2 none 0 := ⟨kwk_X7_layTall, kwi_X7_layTall, kwv_X7_layTall, kwn_X7, by decide, by decide +kernel⟩
abbrev rmX7_layTall : Room := { frames := 2, cells := 0, slots := 0, locals := 43 }
abbrev YX7_layTall : k_Y := (rmX7_layTall, cX7_layTall, 2, RX7, none)
noncomputable def fX7_layTall_c40 (kh2 : k_S → Int32 → Option (Unit × k_S)) (σ : k_S) (l1 s1 s2 : Int32) : Option (Unit × k_S) := k_gd (s1) 5 (k_bn (k_sa σ 14 (s1) (s2)) fun σ1 => k_bn (l1 + (nI 1)) fun v2 => kh2 σ1 v2)
set_option maxRecDepth 100000 in
set_option maxHeartbeats 4000000 in
theorem kX7_layTall_c40 {X : k_C} {q : Nat → Nat} (kh2 : k_S → Int32 → Option (Unit × k_S)) (hk2 : ∀ (σ : k_S) (l1 : Int32), KO X YX7_layTall (cM (k_I X) q) 0 0 (k_Q k_ev X (cM (k_I X) q)) 2 [some (.ref (q 0)), some (.int l1)] [] σ (kh2 σ l1)) (σ : k_S) (l1 s1 s2 : Int32) : KO X YX7_layTall (cM (k_I X) q) 0 0 (k_Q k_ev X (cM (k_I X) q)) 40 [some (.ref (q 0)), some (.int l1)] [.int s2, .int s1, .ref (q 15)] σ (fX7_layTall_c40 kh2 σ l1 s1 s2) := by
  unfold fX7_layTall_c40
  refine k_sM15 (pc := 40) dX7_layTall_40 (fun σ1 => ?_)
  refine k_iinc1 (pc := 41) (w := (nI 1)) dX7_layTall_41 rfl (by decide) (Nat.le_of_ble_eq_true rfl) (fun v2 => ?_)
  refine k_goto (pc := 44) 2 dX7_layTall_44 (by decide) ?_
  exact hk2 σ1 v2
noncomputable def fX7_layTall_c2 : Nat → k_S → Int32 → Option (Unit × k_S)
  | 0, _, _ => none
  | n + 1, σ, l1 => (if l1 < σ.1 2 then k_gd (l1) 5 ((if σ.2 11 (Int32.toNatClampNeg (l1)) = (k_ng 9) then fX7_layTall_c40 (fX7_layTall_c2 n) σ l1 l1 ((nI 0)) else k_gd (l1) 5 (k_ob (fX7_tallNow σ (σ.2 11 (Int32.toNatClampNeg (l1)))) fun r1 σ2 => fX7_layTall_c40 (fX7_layTall_c2 n) σ2 l1 l1 r1))) else some ((), σ))
theorem fX7_layTall_c2_s (n : Nat) (σ : k_S) (l1 : Int32) : fX7_layTall_c2 (n + 1) σ l1 = (if l1 < σ.1 2 then k_gd (l1) 5 ((if σ.2 11 (Int32.toNatClampNeg (l1)) = (k_ng 9) then fX7_layTall_c40 (fX7_layTall_c2 n) σ l1 l1 ((nI 0)) else k_gd (l1) 5 (k_ob (fX7_tallNow σ (σ.2 11 (Int32.toNatClampNeg (l1)))) fun r1 σ2 => fX7_layTall_c40 (fX7_layTall_c2 n) σ2 l1 l1 r1))) else some ((), σ)) := rfl
set_option maxRecDepth 100000 in
set_option maxHeartbeats 4000000 in
theorem kX7_layTall_c2 {X : k_C} {q : Nat → Nat} : ∀ (n : Nat) (σ : k_S) (l1 : Int32), KO X YX7_layTall (cM (k_I X) q) 0 0 (k_Q k_ev X (cM (k_I X) q)) 2 [some (.ref (q 0)), some (.int l1)] [] σ (fX7_layTall_c2 n σ l1) := by
  intro n
  induction n with
  | zero => intros; exact KO.nil
  | succ n ih =>
    intro σ l1
    rw [fX7_layTall_c2_s]
    refine k_iload_n (pc := 2) dX7_layTall_2 rfl ?_
    refine k_aload_n (pc := 3) dX7_layTall_3 rfl ?_
    refine k_gMX7_guests (pc := 4) kwf_X7_77 rfl dX7_layTall_4 ?_
    refine k_icmp_ge (pc := 7) 47 dX7_layTall_7 (by decide) ?_ ?_
    · exact k_return (pc := 47) rfl dX7_layTall_47
    · refine k_aload_n (pc := 10) dX7_layTall_10 rfl ?_
      refine k_gMX7_tall (pc := 11) kwf_X7_52 rfl dX7_layTall_11 ?_
      refine k_iload_n (pc := 14) dX7_layTall_14 rfl ?_
      refine k_aload_n (pc := 15) dX7_layTall_15 rfl ?_
      refine k_gMX7_chosen (pc := 16) kwf_X7_43 rfl dX7_layTall_16 ?_
      refine k_iload_n (pc := 19) dX7_layTall_19 rfl ?_
      refine k_lM12 (pc := 20) dX7_layTall_20 ?_
      refine k_bipush (pc := 21) (v := (k_ng 9)) dX7_layTall_21 (by decide) ?_
      refine k_icmp_ne (pc := 23) 30 dX7_layTall_23 (by decide) ?_ ?_
      · refine k_aload_n (pc := 30) dX7_layTall_30 rfl ?_
        refine k_aload_n (pc := 31) dX7_layTall_31 rfl ?_
        refine k_gMX7_chosen (pc := 32) kwf_X7_43 rfl dX7_layTall_32 ?_
        refine k_iload_n (pc := 35) dX7_layTall_35 rfl ?_
        refine k_lM12 (pc := 36) dX7_layTall_36 ?_
        refine k_vi1 (pc := 37) (cM_same _ _) ckX7_tallNow kwm_X7_142 cM_rv0 ⟨rfl, rfl⟩ ⟨Nat.le_of_ble_eq_true rfl, Nat.le_of_ble_eq_true rfl⟩ ⟨Nat.zero_le _, Nat.zero_le _⟩ (Nat.le_of_ble_eq_true rfl) dX7_layTall_37 (fun _ _ hf => kX7_tallNow hf) (fun r1 σ2 => ?_)
        exact kX7_layTall_c40 (fX7_layTall_c2 n) ih σ2 l1 l1 r1
      · refine k_iconst (pc := 26) (v := (nI 0)) dX7_layTall_26 (by decide) ?_
        refine k_goto (pc := 27) 40 dX7_layTall_27 (by decide) ?_
        exact kX7_layTall_c40 (fX7_layTall_c2 n) ih σ l1 l1 ((nI 0))
noncomputable def fX7_layTall (σ : k_S) : Option (Unit × k_S) := k_bn ((nI 0)) fun v1 => fX7_layTall_c2 k_F σ v1
set_option maxRecDepth 100000 in
set_option maxHeartbeats 4000000 in
theorem kX7_layTall {D : va_G} {cI : ClassId} {q : Nat → Nat} {σ : k_S} {r : Unit} {τ : k_S} (h : fX7_layTall σ = some (r, τ)) : k_Ct k_ev yX7_layTall cX7_layTall 2 none rmX7_layTall (cM cI q) D cI [.ref (q 0)] σ r τ := by
  refine k_met (Y := YX7_layTall) (cM_same _ _) (by decide) rfl (Nat.le_of_ble_eq_true rfl) (List.forall_mem_cons.mpr ⟨rfl, fun _ h => absurd h List.not_mem_nil⟩) (fun X hD hI => ?_) h
  subst hD hI
  show KO X YX7_layTall (cM (k_I X) q) 0 0 (k_Q k_ev X (cM (k_I X) q)) 0 [some (.ref (q 0)), none] [] σ _
  unfold fX7_layTall
  refine k_iconst (pc := 0) (v := (nI 0)) dX7_layTall_0 (by decide) ?_
  refine k_ist1 (pc := 1) dX7_layTall_1 (Nat.le_of_ble_eq_true rfl) (fun v1 => ?_)
  exact kX7_layTall_c2 k_F σ v1
-- TallTalesModel.placeOf(I)I
theorem ckX7_placeOf : k_Vok yX7_placeOf cX7_placeOf 4 (some .int) 1 := ⟨kwk_X7_placeOf, kwi_X7_placeOf, kwv_X7_placeOf, kwn_X7, by decide, by decide +kernel⟩
abbrev rmX7_placeOf : Room := { frames := 0, cells := 0, slots := 0, locals := 0 }
abbrev YX7_placeOf : k_Y := (rmX7_placeOf, cX7_placeOf, 4, RX7, (some .int))
noncomputable def fX7_placeOf_c53 (kh4 : k_S → Int32 → Int32 → Int32 → Option (Int32 × k_S)) (σ : k_S) (l1 l3 s0 s1 : Int32) : Option (Int32 × k_S) := k_bn ((s0 + s1)) fun v1 => k_bn (l3 + (nI 1)) fun v2 => kh4 σ l1 v1 v2
set_option maxRecDepth 100000 in
set_option maxHeartbeats 4000000 in
theorem kX7_placeOf_c53 {X : k_C} {q : Nat → Nat} (kh4 : k_S → Int32 → Int32 → Int32 → Option (Int32 × k_S)) (hk4 : ∀ (σ : k_S) (l1 l2 l3 : Int32), KO X YX7_placeOf (cM (k_I X) q) 0 0 (k_Q k_ei X (cM (k_I X) q)) 4 [some (.ref (q 0)), some (.int l1), some (.int l2), some (.int l3)] [] σ (kh4 σ l1 l2 l3)) (σ : k_S) (l1 l3 s0 s1 : Int32) : KO X YX7_placeOf (cM (k_I X) q) 0 0 (k_Q k_ei X (cM (k_I X) q)) 53 [some (.ref (q 0)), some (.int l1), none, some (.int l3)] [.int s1, .int s0] σ (fX7_placeOf_c53 kh4 σ l1 l3 s0 s1) := by
  unfold fX7_placeOf_c53
  refine k_iadd (pc := 53) dX7_placeOf_53 ?_
  refine k_ist2 (pc := 54) dX7_placeOf_54 (Nat.le_of_ble_eq_true rfl) (fun v1 => ?_)
  refine k_iinc3 (pc := 55) (w := (nI 1)) dX7_placeOf_55 rfl (by decide) (Nat.le_of_ble_eq_true rfl) (fun v2 => ?_)
  refine k_goto (pc := 58) 4 dX7_placeOf_58 (by decide) ?_
  exact hk4 σ l1 v1 v2
noncomputable def fX7_placeOf_c48 (kh4 : k_S → Int32 → Int32 → Int32 → Option (Int32 × k_S)) (σ : k_S) (l1 l3 s0 : Int32) : Option (Int32 × k_S) := fX7_placeOf_c53 kh4 σ l1 l3 s0 ((nI 1))
set_option maxRecDepth 100000 in
set_option maxHeartbeats 4000000 in
theorem kX7_placeOf_c48 {X : k_C} {q : Nat → Nat} (kh4 : k_S → Int32 → Int32 → Int32 → Option (Int32 × k_S)) (hk4 : ∀ (σ : k_S) (l1 l2 l3 : Int32), KO X YX7_placeOf (cM (k_I X) q) 0 0 (k_Q k_ei X (cM (k_I X) q)) 4 [some (.ref (q 0)), some (.int l1), some (.int l2), some (.int l3)] [] σ (kh4 σ l1 l2 l3)) (σ : k_S) (l1 l3 s0 : Int32) : KO X YX7_placeOf (cM (k_I X) q) 0 0 (k_Q k_ei X (cM (k_I X) q)) 48 [some (.ref (q 0)), some (.int l1), none, some (.int l3)] [.int s0] σ (fX7_placeOf_c48 kh4 σ l1 l3 s0) := by
  unfold fX7_placeOf_c48
  refine k_iconst (pc := 48) (v := (nI 1)) dX7_placeOf_48 (by decide) ?_
  refine k_goto (pc := 49) 53 dX7_placeOf_49 (by decide) ?_
  exact kX7_placeOf_c53 kh4 hk4 σ l1 l3 s0 ((nI 1))
noncomputable def fX7_placeOf_c52 (kh4 : k_S → Int32 → Int32 → Int32 → Option (Int32 × k_S)) (σ : k_S) (l1 l3 s0 : Int32) : Option (Int32 × k_S) := fX7_placeOf_c53 kh4 σ l1 l3 s0 ((nI 0))
set_option maxRecDepth 100000 in
set_option maxHeartbeats 4000000 in
theorem kX7_placeOf_c52 {X : k_C} {q : Nat → Nat} (kh4 : k_S → Int32 → Int32 → Int32 → Option (Int32 × k_S)) (hk4 : ∀ (σ : k_S) (l1 l2 l3 : Int32), KO X YX7_placeOf (cM (k_I X) q) 0 0 (k_Q k_ei X (cM (k_I X) q)) 4 [some (.ref (q 0)), some (.int l1), some (.int l2), some (.int l3)] [] σ (kh4 σ l1 l2 l3)) (σ : k_S) (l1 l3 s0 : Int32) : KO X YX7_placeOf (cM (k_I X) q) 0 0 (k_Q k_ei X (cM (k_I X) q)) 52 [some (.ref (q 0)), some (.int l1), none, some (.int l3)] [.int s0] σ (fX7_placeOf_c52 kh4 σ l1 l3 s0) := by
  unfold fX7_placeOf_c52
  refine k_iconst (pc := 52) (v := (nI 0)) dX7_placeOf_52 (by decide) ?_
  exact kX7_placeOf_c53 kh4 hk4 σ l1 l3 s0 ((nI 0))
noncomputable def fX7_placeOf_c4 : Nat → k_S → Int32 → Int32 → Int32 → Option (Int32 × k_S)
  | 0, _, _, _, _ => none
  | n + 1, σ, l1, l2, l3 => (if l3 < σ.1 2 then k_gd (l3) 5 (k_gd (l1) 5 ((if σ.2 14 (Int32.toNatClampNeg (l1)) < σ.2 14 (Int32.toNatClampNeg (l3)) then fX7_placeOf_c48 (fX7_placeOf_c4 n) σ l1 l3 l2 else k_gd (l3) 5 (k_gd (l1) 5 ((if σ.2 14 (Int32.toNatClampNeg (l3)) = σ.2 14 (Int32.toNatClampNeg (l1)) then (if l3 < l1 then fX7_placeOf_c48 (fX7_placeOf_c4 n) σ l1 l3 l2 else fX7_placeOf_c52 (fX7_placeOf_c4 n) σ l1 l3 l2) else fX7_placeOf_c52 (fX7_placeOf_c4 n) σ l1 l3 l2)))))) else some (l2, σ))
theorem fX7_placeOf_c4_s (n : Nat) (σ : k_S) (l1 l2 l3 : Int32) : fX7_placeOf_c4 (n + 1) σ l1 l2 l3 = (if l3 < σ.1 2 then k_gd (l3) 5 (k_gd (l1) 5 ((if σ.2 14 (Int32.toNatClampNeg (l1)) < σ.2 14 (Int32.toNatClampNeg (l3)) then fX7_placeOf_c48 (fX7_placeOf_c4 n) σ l1 l3 l2 else k_gd (l3) 5 (k_gd (l1) 5 ((if σ.2 14 (Int32.toNatClampNeg (l3)) = σ.2 14 (Int32.toNatClampNeg (l1)) then (if l3 < l1 then fX7_placeOf_c48 (fX7_placeOf_c4 n) σ l1 l3 l2 else fX7_placeOf_c52 (fX7_placeOf_c4 n) σ l1 l3 l2) else fX7_placeOf_c52 (fX7_placeOf_c4 n) σ l1 l3 l2)))))) else some (l2, σ)) := rfl
set_option maxRecDepth 100000 in
set_option maxHeartbeats 4000000 in
theorem kX7_placeOf_c4 {X : k_C} {q : Nat → Nat} : ∀ (n : Nat) (σ : k_S) (l1 l2 l3 : Int32), KO X YX7_placeOf (cM (k_I X) q) 0 0 (k_Q k_ei X (cM (k_I X) q)) 4 [some (.ref (q 0)), some (.int l1), some (.int l2), some (.int l3)] [] σ (fX7_placeOf_c4 n σ l1 l2 l3) := by
  intro n
  induction n with
  | zero => intros; exact KO.nil
  | succ n ih =>
    intro σ l1 l2 l3
    rw [fX7_placeOf_c4_s]
    refine k_iload_n (pc := 4) dX7_placeOf_4 rfl ?_
    refine k_aload_n (pc := 5) dX7_placeOf_5 rfl ?_
    refine k_gMX7_guests (pc := 6) kwf_X7_77 rfl dX7_placeOf_6 ?_
    refine k_icmp_ge (pc := 9) 61 dX7_placeOf_9 (by decide) ?_ ?_
    · refine k_iload_n (pc := 61) dX7_placeOf_61 rfl ?_
      exact k_ireturn (pc := 62) rfl dX7_placeOf_62
    · refine k_iload_n (pc := 12) dX7_placeOf_12 rfl ?_
      refine k_aload_n (pc := 13) dX7_placeOf_13 rfl ?_
      refine k_gMX7_tall (pc := 14) kwf_X7_52 rfl dX7_placeOf_14 ?_
      refine k_iload_n (pc := 17) dX7_placeOf_17 rfl ?_
      refine k_lM15 (pc := 18) dX7_placeOf_18 ?_
      refine k_aload_n (pc := 19) dX7_placeOf_19 rfl ?_
      refine k_gMX7_tall (pc := 20) kwf_X7_52 rfl dX7_placeOf_20 ?_
      refine k_iload_n (pc := 23) dX7_placeOf_23 rfl ?_
      refine k_lM15 (pc := 24) dX7_placeOf_24 ?_
      refine k_icmp_gt (pc := 25) 48 dX7_placeOf_25 (by decide) ?_ ?_
      · refine k_fg2 ?_
        exact kX7_placeOf_c48 (fX7_placeOf_c4 n) ih σ l1 l3 l2
      · refine k_aload_n (pc := 28) dX7_placeOf_28 rfl ?_
        refine k_gMX7_tall (pc := 29) kwf_X7_52 rfl dX7_placeOf_29 ?_
        refine k_iload_n (pc := 32) dX7_placeOf_32 rfl ?_
        refine k_lM15 (pc := 33) dX7_placeOf_33 ?_
        refine k_aload_n (pc := 34) dX7_placeOf_34 rfl ?_
        refine k_gMX7_tall (pc := 35) kwf_X7_52 rfl dX7_placeOf_35 ?_
        refine k_iload_n (pc := 38) dX7_placeOf_38 rfl ?_
        refine k_lM15 (pc := 39) dX7_placeOf_39 ?_
        refine k_icmp_ne (pc := 40) 52 dX7_placeOf_40 (by decide) ?_ ?_
        · refine k_fg2 ?_
          exact kX7_placeOf_c52 (fX7_placeOf_c4 n) ih σ l1 l3 l2
        · refine k_iload_n (pc := 43) dX7_placeOf_43 rfl ?_
          refine k_iload_n (pc := 44) dX7_placeOf_44 rfl ?_
          refine k_icmp_ge (pc := 45) 52 dX7_placeOf_45 (by decide) ?_ ?_
          · refine k_fg2 ?_
            exact kX7_placeOf_c52 (fX7_placeOf_c4 n) ih σ l1 l3 l2
          · refine k_fg2 ?_
            exact kX7_placeOf_c48 (fX7_placeOf_c4 n) ih σ l1 l3 l2
noncomputable def fX7_placeOf (σ : k_S) (x1 : Int32) : Option (Int32 × k_S) := k_bn ((nI 0)) fun v1 => k_bn ((nI 0)) fun v2 => fX7_placeOf_c4 k_F σ x1 v1 v2
set_option maxRecDepth 100000 in
set_option maxHeartbeats 4000000 in
theorem kX7_placeOf {D : va_G} {cI : ClassId} {q : Nat → Nat} {σ : k_S} {x1 : Int32} {r : Int32} {τ : k_S} (h : fX7_placeOf σ x1 = some (r, τ)) : k_Ct k_ei yX7_placeOf cX7_placeOf 4 (some .int) rmX7_placeOf (cM cI q) D cI [.ref (q 0), .int x1] σ r τ := by
  refine k_met (Y := YX7_placeOf) (cM_same _ _) (by decide) rfl (Nat.le_of_ble_eq_true rfl) (List.forall_mem_cons.mpr ⟨rfl, List.forall_mem_cons.mpr ⟨rfl, fun _ h => absurd h List.not_mem_nil⟩⟩) (fun X hD hI => ?_) h
  subst hD hI
  show KO X YX7_placeOf (cM (k_I X) q) 0 0 (k_Q k_ei X (cM (k_I X) q)) 0 [some (.ref (q 0)), some (.int x1), none, none] [] σ _
  unfold fX7_placeOf
  refine k_iconst (pc := 0) (v := (nI 0)) dX7_placeOf_0 (by decide) ?_
  refine k_ist2 (pc := 1) dX7_placeOf_1 (Nat.le_of_ble_eq_true rfl) (fun v1 => ?_)
  refine k_iconst (pc := 2) (v := (nI 0)) dX7_placeOf_2 (by decide) ?_
  refine k_ist3 (pc := 3) dX7_placeOf_3 (Nat.le_of_ble_eq_true rfl) (fun v2 => ?_)
  exact kX7_placeOf_c4 k_F σ x1 v1 v2
-- TallTalesModel.inBed()I
theorem ckX7_inBed : k_Vok yX7_inBed cX7_inBed 2 (some .int) 0 := ⟨kwk_X7_inBed, kwi_X7_inBed, kwv_X7_inBed, kwn_X7, by decide, by decide +kernel⟩
abbrev rmX7_inBed : Room := { frames := 1, cells := 0, slots := 0, locals := 23 }
abbrev YX7_inBed : k_Y := (rmX7_inBed, cX7_inBed, 2, RX7, (some .int))
noncomputable def fX7_inBed_c2 : Nat → k_S → Int32 → Option (Int32 × k_S)
  | 0, _, _ => none
  | n + 1, σ, l1 => k_ob (fX7_placeOf σ l1) fun r1 σ2 => (if r1 = 0 then some (l1, σ2) else k_bn (l1 + (nI 1)) fun v3 => fX7_inBed_c2 n σ2 v3)
theorem fX7_inBed_c2_s (n : Nat) (σ : k_S) (l1 : Int32) : fX7_inBed_c2 (n + 1) σ l1 = k_ob (fX7_placeOf σ l1) fun r1 σ2 => (if r1 = 0 then some (l1, σ2) else k_bn (l1 + (nI 1)) fun v3 => fX7_inBed_c2 n σ2 v3) := rfl
set_option maxRecDepth 100000 in
set_option maxHeartbeats 4000000 in
theorem kX7_inBed_c2 {X : k_C} {q : Nat → Nat} : ∀ (n : Nat) (σ : k_S) (l1 : Int32), KO X YX7_inBed (cM (k_I X) q) 0 0 (k_Q k_ei X (cM (k_I X) q)) 2 [some (.ref (q 0)), some (.int l1)] [] σ (fX7_inBed_c2 n σ l1) := by
  intro n
  induction n with
  | zero => intros; exact KO.nil
  | succ n ih =>
    intro σ l1
    rw [fX7_inBed_c2_s]
    refine k_aload_n (pc := 2) dX7_inBed_2 rfl ?_
    refine k_iload_n (pc := 3) dX7_inBed_3 rfl ?_
    refine k_vi1 (pc := 4) (cM_same _ _) ckX7_placeOf kwm_X7_148 cM_rv0 ⟨rfl, rfl⟩ ⟨Nat.le_of_ble_eq_true rfl, Nat.le_of_ble_eq_true rfl⟩ ⟨Nat.zero_le _, Nat.zero_le _⟩ (Nat.le_of_ble_eq_true rfl) dX7_inBed_4 (fun _ _ hf => kX7_placeOf hf) (fun r1 σ2 => ?_)
    refine k_if_eq (pc := 7) 16 dX7_inBed_7 (by decide) ?_ ?_
    · refine k_iload_n (pc := 16) dX7_inBed_16 rfl ?_
      exact k_ireturn (pc := 17) rfl dX7_inBed_17
    · refine k_iinc1 (pc := 10) (w := (nI 1)) dX7_inBed_10 rfl (by decide) (Nat.le_of_ble_eq_true rfl) (fun v3 => ?_)
      refine k_goto (pc := 13) 2 dX7_inBed_13 (by decide) ?_
      exact ih σ2 v3
noncomputable def fX7_inBed (σ : k_S) : Option (Int32 × k_S) := k_bn ((nI 0)) fun v1 => fX7_inBed_c2 k_F σ v1
set_option maxRecDepth 100000 in
set_option maxHeartbeats 4000000 in
theorem kX7_inBed {D : va_G} {cI : ClassId} {q : Nat → Nat} {σ : k_S} {r : Int32} {τ : k_S} (h : fX7_inBed σ = some (r, τ)) : k_Ct k_ei yX7_inBed cX7_inBed 2 (some .int) rmX7_inBed (cM cI q) D cI [.ref (q 0)] σ r τ := by
  refine k_met (Y := YX7_inBed) (cM_same _ _) (by decide) rfl (Nat.le_of_ble_eq_true rfl) (List.forall_mem_cons.mpr ⟨rfl, fun _ h => absurd h List.not_mem_nil⟩) (fun X hD hI => ?_) h
  subst hD hI
  show KO X YX7_inBed (cM (k_I X) q) 0 0 (k_Q k_ei X (cM (k_I X) q)) 0 [some (.ref (q 0)), none] [] σ _
  unfold fX7_inBed
  refine k_iconst (pc := 0) (v := (nI 0)) dX7_inBed_0 (by decide) ?_
  refine k_ist1 (pc := 1) dX7_inBed_1 (Nat.le_of_ble_eq_true rfl) (fun v1 => ?_)
  exact kX7_inBed_c2 k_F σ v1
-- TallTalesModel.night()I
theorem ckX7_night : k_Vok yX7_night cX7_night 2 (some .int) 0 := ⟨kwk_X7_night, kwi_X7_night, kwv_X7_night, kwn_X7, by decide, by decide +kernel⟩
abbrev rmX7_night : Room := { frames := 3, cells := 0, slots := 0, locals := 64 }
abbrev YX7_night : k_Y := (rmX7_night, cX7_night, 2, RX7, (some .int))
noncomputable def fX7_night_c95 (kh28 : k_S → Int32 → Option (Int32 × k_S)) (σ : k_S) (l1 s1 s2 : Int32) : Option (Int32 × k_S) := k_gd (s1) 300 (k_bn (k_sa σ 10 (s1) (s2)) fun σ1 => k_bn (l1 + (nI 1)) fun v2 => kh28 σ1 v2)
set_option maxRecDepth 100000 in
set_option maxHeartbeats 4000000 in
theorem kX7_night_c95 {X : k_C} {q : Nat → Nat} (kh28 : k_S → Int32 → Option (Int32 × k_S)) (hk28 : ∀ (σ : k_S) (l1 : Int32), KO X YX7_night (cM (k_I X) q) 0 0 (k_Q k_ei X (cM (k_I X) q)) 28 [some (.ref (q 0)), some (.int l1)] [] σ (kh28 σ l1)) (σ : k_S) (l1 s1 s2 : Int32) : KO X YX7_night (cM (k_I X) q) 0 0 (k_Q k_ei X (cM (k_I X) q)) 95 [some (.ref (q 0)), some (.int l1)] [.int s2, .int s1, .ref (q 11)] σ (fX7_night_c95 kh28 σ l1 s1 s2) := by
  unfold fX7_night_c95
  refine k_sM11 (pc := 95) dX7_night_95 (fun σ1 => ?_)
  refine k_iinc1 (pc := 96) (w := (nI 1)) dX7_night_96 rfl (by decide) (Nat.le_of_ble_eq_true rfl) (fun v2 => ?_)
  refine k_goto (pc := 99) 28 dX7_night_99 (by decide) ?_
  exact hk28 σ1 v2
noncomputable def fX7_night_c64 (kh28 : k_S → Int32 → Option (Int32 × k_S)) (σ : k_S) (l1 s1 s2 : Int32) : Option (Int32 × k_S) := k_gd (s1) 300 (k_bn (k_sa σ 9 (s1) (s2)) fun σ1 => (if l1 < σ1.1 2 then k_gd (l1) 5 (fX7_night_c95 kh28 σ1 l1 ((((nI 5) * σ1.1 8) + l1)) (σ1.2 14 (Int32.toNatClampNeg (l1)))) else fX7_night_c95 kh28 σ1 l1 ((((nI 5) * σ1.1 8) + l1)) ((nI 0))))
set_option maxRecDepth 100000 in
set_option maxHeartbeats 4000000 in
theorem kX7_night_c64 {X : k_C} {q : Nat → Nat} (kh28 : k_S → Int32 → Option (Int32 × k_S)) (hk28 : ∀ (σ : k_S) (l1 : Int32), KO X YX7_night (cM (k_I X) q) 0 0 (k_Q k_ei X (cM (k_I X) q)) 28 [some (.ref (q 0)), some (.int l1)] [] σ (kh28 σ l1)) (σ : k_S) (l1 s1 s2 : Int32) : KO X YX7_night (cM (k_I X) q) 0 0 (k_Q k_ei X (cM (k_I X) q)) 64 [some (.ref (q 0)), some (.int l1)] [.int s2, .int s1, .ref (q 10)] σ (fX7_night_c64 kh28 σ l1 s1 s2) := by
  unfold fX7_night_c64
  refine k_sM10 (pc := 64) dX7_night_64 (fun σ1 => ?_)
  refine k_aload_n (pc := 65) dX7_night_65 rfl ?_
  refine k_gMX7_nightTall (pc := 66) kwf_X7_40 rfl dX7_night_66 ?_
  refine k_iconst (pc := 69) (v := (nI 5)) dX7_night_69 (by decide) ?_
  refine k_aload_n (pc := 70) dX7_night_70 rfl ?_
  refine k_gMX7_over (pc := 71) kwf_X7_113 rfl dX7_night_71 ?_
  refine k_imul (pc := 74) dX7_night_74 ?_
  refine k_iload_n (pc := 75) dX7_night_75 rfl ?_
  refine k_iadd (pc := 76) dX7_night_76 ?_
  refine k_iload_n (pc := 77) dX7_night_77 rfl ?_
  refine k_aload_n (pc := 78) dX7_night_78 rfl ?_
  refine k_gMX7_guests (pc := 79) kwf_X7_77 rfl dX7_night_79 ?_
  refine k_icmp_ge (pc := 82) 94 dX7_night_82 (by decide) ?_ ?_
  · refine k_iconst (pc := 94) (v := (nI 0)) dX7_night_94 (by decide) ?_
    exact kX7_night_c95 kh28 hk28 σ1 l1 ((((nI 5) * σ1.1 8) + l1)) ((nI 0))
  · refine k_aload_n (pc := 85) dX7_night_85 rfl ?_
    refine k_gMX7_tall (pc := 86) kwf_X7_52 rfl dX7_night_86 ?_
    refine k_iload_n (pc := 89) dX7_night_89 rfl ?_
    refine k_lM15 (pc := 90) dX7_night_90 ?_
    refine k_goto (pc := 91) 95 dX7_night_91 (by decide) ?_
    exact kX7_night_c95 kh28 hk28 σ1 l1 ((((nI 5) * σ1.1 8) + l1)) (σ1.2 14 (Int32.toNatClampNeg (l1)))
noncomputable def fX7_night_c28 : Nat → k_S → Int32 → Option (Int32 × k_S)
  | 0, _, _ => none
  | n + 1, σ, l1 => (if l1 < (nI 5) then (if l1 < σ.1 2 then k_gd (l1) 5 (fX7_night_c64 (fX7_night_c28 n) σ l1 ((((nI 5) * σ.1 8) + l1)) (σ.2 11 (Int32.toNatClampNeg (l1)))) else fX7_night_c64 (fX7_night_c28 n) σ l1 ((((nI 5) * σ.1 8) + l1)) ((k_ng 9))) else k_ob (fX7_inBed σ) fun r1 σ2 => k_bn (r1) fun v3 => k_bn (k_sf σ2 8 ((σ2.1 8 + (nI 1)))) fun σ4 => k_ob (fX7_countTold σ4) fun r5 σ6 => k_ob (fX7_chooseNone σ6) fun r7 σ8 => some (v3, σ8))
theorem fX7_night_c28_s (n : Nat) (σ : k_S) (l1 : Int32) : fX7_night_c28 (n + 1) σ l1 = (if l1 < (nI 5) then (if l1 < σ.1 2 then k_gd (l1) 5 (fX7_night_c64 (fX7_night_c28 n) σ l1 ((((nI 5) * σ.1 8) + l1)) (σ.2 11 (Int32.toNatClampNeg (l1)))) else fX7_night_c64 (fX7_night_c28 n) σ l1 ((((nI 5) * σ.1 8) + l1)) ((k_ng 9))) else k_ob (fX7_inBed σ) fun r1 σ2 => k_bn (r1) fun v3 => k_bn (k_sf σ2 8 ((σ2.1 8 + (nI 1)))) fun σ4 => k_ob (fX7_countTold σ4) fun r5 σ6 => k_ob (fX7_chooseNone σ6) fun r7 σ8 => some (v3, σ8)) := rfl
set_option maxRecDepth 100000 in
set_option maxHeartbeats 4000000 in
theorem kX7_night_c28 {X : k_C} {q : Nat → Nat} : ∀ (n : Nat) (σ : k_S) (l1 : Int32), KO X YX7_night (cM (k_I X) q) 0 0 (k_Q k_ei X (cM (k_I X) q)) 28 [some (.ref (q 0)), some (.int l1)] [] σ (fX7_night_c28 n σ l1) := by
  intro n
  induction n with
  | zero => intros; exact KO.nil
  | succ n ih =>
    intro σ l1
    rw [fX7_night_c28_s]
    refine k_iload_n (pc := 28) dX7_night_28 rfl ?_
    refine k_iconst (pc := 29) (v := (nI 5)) dX7_night_29 (by decide) ?_
    refine k_icmp_ge (pc := 30) 102 dX7_night_30 (by decide) ?_ ?_
    · refine k_aload_n (pc := 102) dX7_night_102 rfl ?_
      refine k_vi0 (pc := 103) (cM_same _ _) ckX7_inBed kwm_X7_154 cM_rv0 ⟨rfl, rfl⟩ ⟨Nat.le_of_ble_eq_true rfl, Nat.le_of_ble_eq_true rfl⟩ ⟨Nat.zero_le _, Nat.zero_le _⟩ (Nat.le_of_ble_eq_true rfl) dX7_night_103 (fun _ _ hf => kX7_inBed hf) (fun r1 σ2 => ?_)
      refine k_ist1 (pc := 106) dX7_night_106 (Nat.le_of_ble_eq_true rfl) (fun v3 => ?_)
      refine k_aload_n (pc := 107) dX7_night_107 rfl ?_
      refine k_dup (pc := 108) dX7_night_108 rfl ?_
      refine k_gMX7_over (pc := 109) kwf_X7_113 rfl dX7_night_109 ?_
      refine k_iconst (pc := 112) (v := (nI 1)) dX7_night_112 (by decide) ?_
      refine k_iadd (pc := 113) dX7_night_113 ?_
      refine k_pMX7_over (pc := 114) kwf_X7_113 rfl dX7_night_114 (fun σ4 => ?_)
      refine k_aload_n (pc := 117) dX7_night_117 rfl ?_
      refine k_vv0 (pc := 118) (cM_same _ _) ckX7_countTold kwm_X7_116 cM_rv0 ⟨rfl, rfl⟩ ⟨Nat.le_of_ble_eq_true rfl, Nat.le_of_ble_eq_true rfl⟩ ⟨Nat.zero_le _, Nat.zero_le _⟩ (Nat.le_of_ble_eq_true rfl) dX7_night_118 (fun _ _ hf => kX7_countTold hf) (fun r5 σ6 => ?_)
      refine k_aload_n (pc := 121) dX7_night_121 rfl ?_
      refine k_vv0 (pc := 122) (cM_same _ _) ckX7_chooseNone kwm_X7_119 cM_rv0 ⟨rfl, rfl⟩ ⟨Nat.le_of_ble_eq_true rfl, Nat.le_of_ble_eq_true rfl⟩ ⟨Nat.zero_le _, Nat.zero_le _⟩ (Nat.le_of_ble_eq_true rfl) dX7_night_122 (fun _ _ hf => kX7_chooseNone hf) (fun r7 σ8 => ?_)
      refine k_iload_n (pc := 125) dX7_night_125 rfl ?_
      exact k_ireturn (pc := 126) rfl dX7_night_126
    · refine k_aload_n (pc := 33) dX7_night_33 rfl ?_
      refine k_gMX7_nightTold (pc := 34) kwf_X7_37 rfl dX7_night_34 ?_
      refine k_iconst (pc := 37) (v := (nI 5)) dX7_night_37 (by decide) ?_
      refine k_aload_n (pc := 38) dX7_night_38 rfl ?_
      refine k_gMX7_over (pc := 39) kwf_X7_113 rfl dX7_night_39 ?_
      refine k_imul (pc := 42) dX7_night_42 ?_
      refine k_iload_n (pc := 43) dX7_night_43 rfl ?_
      refine k_iadd (pc := 44) dX7_night_44 ?_
      refine k_iload_n (pc := 45) dX7_night_45 rfl ?_
      refine k_aload_n (pc := 46) dX7_night_46 rfl ?_
      refine k_gMX7_guests (pc := 47) kwf_X7_77 rfl dX7_night_47 ?_
      refine k_icmp_ge (pc := 50) 62 dX7_night_50 (by decide) ?_ ?_
      · refine k_bipush (pc := 62) (v := (k_ng 9)) dX7_night_62 (by decide) ?_
        exact kX7_night_c64 (fX7_night_c28 n) ih σ l1 ((((nI 5) * σ.1 8) + l1)) ((k_ng 9))
      · refine k_aload_n (pc := 53) dX7_night_53 rfl ?_
        refine k_gMX7_chosen (pc := 54) kwf_X7_43 rfl dX7_night_54 ?_
        refine k_iload_n (pc := 57) dX7_night_57 rfl ?_
        refine k_lM12 (pc := 58) dX7_night_58 ?_
        refine k_goto (pc := 59) 64 dX7_night_59 (by decide) ?_
        exact kX7_night_c64 (fX7_night_c28 n) ih σ l1 ((((nI 5) * σ.1 8) + l1)) (σ.2 11 (Int32.toNatClampNeg (l1)))
noncomputable def fX7_night (σ : k_S) : Option (Int32 × k_S) := (if σ.1 2 = 0 then some ((k_ng 3), σ) else (if σ.1 8 = (nI 60) then some ((k_ng 4), σ) else k_ob (fX7_layTall σ) fun r1 σ2 => k_bn ((nI 0)) fun v3 => fX7_night_c28 k_F σ2 v3))
set_option maxRecDepth 100000 in
set_option maxHeartbeats 4000000 in
theorem kX7_night {D : va_G} {cI : ClassId} {q : Nat → Nat} {σ : k_S} {r : Int32} {τ : k_S} (h : fX7_night σ = some (r, τ)) : k_Ct k_ei yX7_night cX7_night 2 (some .int) rmX7_night (cM cI q) D cI [.ref (q 0)] σ r τ := by
  refine k_met (Y := YX7_night) (cM_same _ _) (by decide) rfl (Nat.le_of_ble_eq_true rfl) (List.forall_mem_cons.mpr ⟨rfl, fun _ h => absurd h List.not_mem_nil⟩) (fun X hD hI => ?_) h
  subst hD hI
  show KO X YX7_night (cM (k_I X) q) 0 0 (k_Q k_ei X (cM (k_I X) q)) 0 [some (.ref (q 0)), none] [] σ _
  unfold fX7_night
  refine k_aload_n (pc := 0) dX7_night_0 rfl ?_
  refine k_gMX7_guests (pc := 1) kwf_X7_77 rfl dX7_night_1 ?_
  refine k_if_ne (pc := 4) 10 dX7_night_4 (by decide) ?_ ?_
  · refine k_aload_n (pc := 10) dX7_night_10 rfl ?_
    refine k_gMX7_over (pc := 11) kwf_X7_113 rfl dX7_night_11 ?_
    refine k_bipush (pc := 14) (v := (nI 60)) dX7_night_14 (by decide) ?_
    refine k_icmp_ne (pc := 16) 22 dX7_night_16 (by decide) ?_ ?_
    · refine k_aload_n (pc := 22) dX7_night_22 rfl ?_
      refine k_vv0 (pc := 23) (cM_same _ _) ckX7_layTall kwm_X7_151 cM_rv0 ⟨rfl, rfl⟩ ⟨Nat.le_of_ble_eq_true rfl, Nat.le_of_ble_eq_true rfl⟩ ⟨Nat.zero_le _, Nat.zero_le _⟩ (Nat.le_of_ble_eq_true rfl) dX7_night_23 (fun _ _ hf => kX7_layTall hf) (fun r1 σ2 => ?_)
      refine k_iconst (pc := 26) (v := (nI 0)) dX7_night_26 (by decide) ?_
      refine k_ist1 (pc := 27) dX7_night_27 (Nat.le_of_ble_eq_true rfl) (fun v3 => ?_)
      exact kX7_night_c28 k_F σ2 v3
    · refine k_bipush (pc := 19) (v := (k_ng 4)) dX7_night_19 (by decide) ?_
      exact k_ireturn (pc := 21) rfl dX7_night_21
  · refine k_bipush (pc := 7) (v := (k_ng 3)) dX7_night_7 (by decide) ?_
    exact k_ireturn (pc := 9) rfl dX7_night_9
-- TallTalesModel.isNight(I)Z
theorem ckX7_isNight : k_Vok yX7_isNight cX7_isNight 2 (some .boolean) 1 := ⟨kwk_X7_isNight, kwi_X7_isNight, kwv_X7_isNight, kwn_X7, by decide, by decide +kernel⟩
abbrev rmX7_isNight : Room := { frames := 0, cells := 0, slots := 0, locals := 0 }
abbrev YX7_isNight : k_Y := (rmX7_isNight, cX7_isNight, 2, RX7, (some .boolean))
noncomputable def fX7_isNight (σ : k_S) (x1 : Int32) : Option (Int32 × k_S) := (if x1 < 0 then k_z ((nI 0)) (some ((nI 0), σ)) else (if x1 < σ.1 8 then k_z ((nI 1)) (some ((nI 1), σ)) else k_z ((nI 0)) (some ((nI 0), σ))))
set_option maxRecDepth 100000 in
set_option maxHeartbeats 4000000 in
theorem kX7_isNight {D : va_G} {cI : ClassId} {q : Nat → Nat} {σ : k_S} {x1 : Int32} {r : Int32} {τ : k_S} (h : fX7_isNight σ x1 = some (r, τ)) : k_Ct k_ei yX7_isNight cX7_isNight 2 (some .boolean) rmX7_isNight (cM cI q) D cI [.ref (q 0), .int x1] σ r τ := by
  refine k_met (Y := YX7_isNight) (cM_same _ _) (by decide) rfl (Nat.le_of_ble_eq_true rfl) (List.forall_mem_cons.mpr ⟨rfl, List.forall_mem_cons.mpr ⟨rfl, fun _ h => absurd h List.not_mem_nil⟩⟩) (fun X hD hI => ?_) h
  subst hD hI
  show KO X YX7_isNight (cM (k_I X) q) 0 0 (k_Q k_ei X (cM (k_I X) q)) 0 [some (.ref (q 0)), some (.int x1)] [] σ _
  unfold fX7_isNight
  refine k_iload_n (pc := 0) dX7_isNight_0 rfl ?_
  refine k_if_lt (pc := 1) 16 dX7_isNight_1 (by decide) ?_ ?_
  · refine k_iconst (pc := 16) (v := (nI 0)) dX7_isNight_16 (by decide) ?_
    exact k_zreturn (pc := 17) rfl dX7_isNight_17
  · refine k_iload_n (pc := 4) dX7_isNight_4 rfl ?_
    refine k_aload_n (pc := 5) dX7_isNight_5 rfl ?_
    refine k_gMX7_over (pc := 6) kwf_X7_113 rfl dX7_isNight_6 ?_
    refine k_icmp_ge (pc := 9) 16 dX7_isNight_9 (by decide) ?_ ?_
    · refine k_iconst (pc := 16) (v := (nI 0)) dX7_isNight_16 (by decide) ?_
      exact k_zreturn (pc := 17) rfl dX7_isNight_17
    · refine k_iconst (pc := 12) (v := (nI 1)) dX7_isNight_12 (by decide) ?_
      refine k_goto (pc := 13) 17 dX7_isNight_13 (by decide) ?_
      exact k_zreturn (pc := 17) rfl dX7_isNight_17
-- TallTalesModel.layNight(I)V
theorem ckX7_layNight : k_Vok yX7_layNight cX7_layNight 3 none 1 := ⟨kwk_X7_layNight, kwi_X7_layNight, kwv_X7_layNight, kwn_X7, by decide, by decide +kernel⟩
abbrev rmX7_layNight : Room := { frames := 0, cells := 0, slots := 0, locals := 0 }
abbrev YX7_layNight : k_Y := (rmX7_layNight, cX7_layNight, 3, RX7, none)
noncomputable def fX7_layNight_c2 : Nat → k_S → Int32 → Int32 → Option (Unit × k_S)
  | 0, _, _, _ => none
  | n + 1, σ, l1, l2 => (if l2 < σ.1 2 then k_gd ((((nI 5) * l1) + l2)) 300 (k_gd (l2) 5 (k_bn (k_sa σ 14 (l2) (σ.2 10 (Int32.toNatClampNeg ((((nI 5) * l1) + l2))))) fun σ1 => k_bn (l2 + (nI 1)) fun v2 => fX7_layNight_c2 n σ1 l1 v2)) else some ((), σ))
theorem fX7_layNight_c2_s (n : Nat) (σ : k_S) (l1 l2 : Int32) : fX7_layNight_c2 (n + 1) σ l1 l2 = (if l2 < σ.1 2 then k_gd ((((nI 5) * l1) + l2)) 300 (k_gd (l2) 5 (k_bn (k_sa σ 14 (l2) (σ.2 10 (Int32.toNatClampNeg ((((nI 5) * l1) + l2))))) fun σ1 => k_bn (l2 + (nI 1)) fun v2 => fX7_layNight_c2 n σ1 l1 v2)) else some ((), σ)) := rfl
set_option maxRecDepth 100000 in
set_option maxHeartbeats 4000000 in
theorem kX7_layNight_c2 {X : k_C} {q : Nat → Nat} : ∀ (n : Nat) (σ : k_S) (l1 l2 : Int32), KO X YX7_layNight (cM (k_I X) q) 0 0 (k_Q k_ev X (cM (k_I X) q)) 2 [some (.ref (q 0)), some (.int l1), some (.int l2)] [] σ (fX7_layNight_c2 n σ l1 l2) := by
  intro n
  induction n with
  | zero => intros; exact KO.nil
  | succ n ih =>
    intro σ l1 l2
    rw [fX7_layNight_c2_s]
    refine k_iload_n (pc := 2) dX7_layNight_2 rfl ?_
    refine k_aload_n (pc := 3) dX7_layNight_3 rfl ?_
    refine k_gMX7_guests (pc := 4) kwf_X7_77 rfl dX7_layNight_4 ?_
    refine k_icmp_ge (pc := 7) 32 dX7_layNight_7 (by decide) ?_ ?_
    · exact k_return (pc := 32) rfl dX7_layNight_32
    · refine k_aload_n (pc := 10) dX7_layNight_10 rfl ?_
      refine k_gMX7_tall (pc := 11) kwf_X7_52 rfl dX7_layNight_11 ?_
      refine k_iload_n (pc := 14) dX7_layNight_14 rfl ?_
      refine k_aload_n (pc := 15) dX7_layNight_15 rfl ?_
      refine k_gMX7_nightTall (pc := 16) kwf_X7_40 rfl dX7_layNight_16 ?_
      refine k_iconst (pc := 19) (v := (nI 5)) dX7_layNight_19 (by decide) ?_
      refine k_iload_n (pc := 20) dX7_layNight_20 rfl ?_
      refine k_imul (pc := 21) dX7_layNight_21 ?_
      refine k_iload_n (pc := 22) dX7_layNight_22 rfl ?_
      refine k_iadd (pc := 23) dX7_layNight_23 ?_
      refine k_lM11 (pc := 24) dX7_layNight_24 ?_
      refine k_sM15 (pc := 25) dX7_layNight_25 (fun σ1 => ?_)
      refine k_iinc2 (pc := 26) (w := (nI 1)) dX7_layNight_26 rfl (by decide) (Nat.le_of_ble_eq_true rfl) (fun v2 => ?_)
      refine k_goto (pc := 29) 2 dX7_layNight_29 (by decide) ?_
      exact ih σ1 l1 v2
noncomputable def fX7_layNight (σ : k_S) (x1 : Int32) : Option (Unit × k_S) := k_bn ((nI 0)) fun v1 => fX7_layNight_c2 k_F σ x1 v1
set_option maxRecDepth 100000 in
set_option maxHeartbeats 4000000 in
theorem kX7_layNight {D : va_G} {cI : ClassId} {q : Nat → Nat} {σ : k_S} {x1 : Int32} {r : Unit} {τ : k_S} (h : fX7_layNight σ x1 = some (r, τ)) : k_Ct k_ev yX7_layNight cX7_layNight 3 none rmX7_layNight (cM cI q) D cI [.ref (q 0), .int x1] σ r τ := by
  refine k_met (Y := YX7_layNight) (cM_same _ _) (by decide) rfl (Nat.le_of_ble_eq_true rfl) (List.forall_mem_cons.mpr ⟨rfl, List.forall_mem_cons.mpr ⟨rfl, fun _ h => absurd h List.not_mem_nil⟩⟩) (fun X hD hI => ?_) h
  subst hD hI
  show KO X YX7_layNight (cM (k_I X) q) 0 0 (k_Q k_ev X (cM (k_I X) q)) 0 [some (.ref (q 0)), some (.int x1), none] [] σ _
  unfold fX7_layNight
  refine k_iconst (pc := 0) (v := (nI 0)) dX7_layNight_0 (by decide) ?_
  refine k_ist2 (pc := 1) dX7_layNight_1 (Nat.le_of_ble_eq_true rfl) (fun v1 => ?_)
  exact kX7_layNight_c2 k_F σ x1 v1
-- TallTalesModel.ofNight(III)I
theorem ckX7_ofNight : k_Vok yX7_ofNight cX7_ofNight 4 (some .int) 3 := ⟨kwk_X7_ofNight, kwi_X7_ofNight, kwv_X7_ofNight, kwn_X7, by decide, by decide +kernel⟩
abbrev rmX7_ofNight : Room := { frames := 1, cells := 0, slots := 0, locals := 23 }
abbrev YX7_ofNight : k_Y := (rmX7_ofNight, cX7_ofNight, 4, RX7, (some .int))
noncomputable def fX7_ofNight (σ : k_S) (x1 x2 x3 : Int32) : Option (Int32 × k_S) := k_ob (fX7_isNight σ x1) fun r1 σ2 => (if r1 = 0 then some ((k_ng 1), σ2) else k_ob (fX7_isGuest σ2 x2) fun r3 σ4 => (if r3 = 0 then some ((k_ng 1), σ4) else k_ob (fX7_layNight σ4 x1) fun r5 σ6 => (if x3 = 0 then k_gd ((((nI 5) * x1) + x2)) 300 (some (σ6.2 9 (Int32.toNatClampNeg ((((nI 5) * x1) + x2))), σ6)) else (if x3 = (nI 1) then k_ob (fX7_placeOf σ6 x2) fun r7 σ8 => some (r7, σ8) else (if x3 = (nI 2) then k_gd (x2) 5 (some (σ6.2 14 (Int32.toNatClampNeg (x2)), σ6)) else some ((k_ng 2), σ6))))))
set_option maxRecDepth 100000 in
set_option maxHeartbeats 4000000 in
theorem kX7_ofNight {D : va_G} {cI : ClassId} {q : Nat → Nat} {σ : k_S} {x1 x2 x3 : Int32} {r : Int32} {τ : k_S} (h : fX7_ofNight σ x1 x2 x3 = some (r, τ)) : k_Ct k_ei yX7_ofNight cX7_ofNight 4 (some .int) rmX7_ofNight (cM cI q) D cI [.ref (q 0), .int x1, .int x2, .int x3] σ r τ := by
  refine k_met (Y := YX7_ofNight) (cM_same _ _) (by decide) rfl (Nat.le_of_ble_eq_true rfl) (List.forall_mem_cons.mpr ⟨rfl, List.forall_mem_cons.mpr ⟨rfl, List.forall_mem_cons.mpr ⟨rfl, List.forall_mem_cons.mpr ⟨rfl, fun _ h => absurd h List.not_mem_nil⟩⟩⟩⟩) (fun X hD hI => ?_) h
  subst hD hI
  show KO X YX7_ofNight (cM (k_I X) q) 0 0 (k_Q k_ei X (cM (k_I X) q)) 0 [some (.ref (q 0)), some (.int x1), some (.int x2), some (.int x3)] [] σ _
  unfold fX7_ofNight
  refine k_aload_n (pc := 0) dX7_ofNight_0 rfl ?_
  refine k_iload_n (pc := 1) dX7_ofNight_1 rfl ?_
  refine k_vi1 (pc := 2) (cM_same _ _) ckX7_isNight kwm_X7_158 cM_rv0 ⟨rfl, rfl⟩ ⟨Nat.le_of_ble_eq_true rfl, Nat.le_of_ble_eq_true rfl⟩ ⟨Nat.zero_le _, Nat.zero_le _⟩ (Nat.le_of_ble_eq_true rfl) dX7_ofNight_2 (fun _ _ hf => kX7_isNight hf) (fun r1 σ2 => ?_)
  refine k_if_eq (pc := 5) 16 dX7_ofNight_5 (by decide) ?_ ?_
  · refine k_iconst (pc := 16) (v := (k_ng 1)) dX7_ofNight_16 (by decide) ?_
    exact k_ireturn (pc := 17) rfl dX7_ofNight_17
  · refine k_aload_n (pc := 8) dX7_ofNight_8 rfl ?_
    refine k_iload_n (pc := 9) dX7_ofNight_9 rfl ?_
    refine k_vi1 (pc := 10) (cM_same _ _) ckX7_isGuest kwm_X7_145 cM_rv0 ⟨rfl, rfl⟩ ⟨Nat.le_of_ble_eq_true rfl, Nat.le_of_ble_eq_true rfl⟩ ⟨Nat.zero_le _, Nat.zero_le _⟩ (Nat.le_of_ble_eq_true rfl) dX7_ofNight_10 (fun _ _ hf => kX7_isGuest hf) (fun r3 σ4 => ?_)
    refine k_if_ne (pc := 13) 18 dX7_ofNight_13 (by decide) ?_ ?_
    · refine k_aload_n (pc := 18) dX7_ofNight_18 rfl ?_
      refine k_iload_n (pc := 19) dX7_ofNight_19 rfl ?_
      refine k_vv1 (pc := 20) (cM_same _ _) ckX7_layNight kwm_X7_161 cM_rv0 ⟨rfl, rfl⟩ ⟨Nat.le_of_ble_eq_true rfl, Nat.le_of_ble_eq_true rfl⟩ ⟨Nat.zero_le _, Nat.zero_le _⟩ (Nat.le_of_ble_eq_true rfl) dX7_ofNight_20 (fun _ _ hf => kX7_layNight hf) (fun r5 σ6 => ?_)
      refine k_iload_n (pc := 23) dX7_ofNight_23 rfl ?_
      refine k_if_ne (pc := 24) 40 dX7_ofNight_24 (by decide) ?_ ?_
      · refine k_iload_n (pc := 40) dX7_ofNight_40 rfl ?_
        refine k_iconst (pc := 41) (v := (nI 1)) dX7_ofNight_41 (by decide) ?_
        refine k_icmp_ne (pc := 42) 53 dX7_ofNight_42 (by decide) ?_ ?_
        · refine k_iload_n (pc := 53) dX7_ofNight_53 rfl ?_
          refine k_iconst (pc := 54) (v := (nI 2)) dX7_ofNight_54 (by decide) ?_
          refine k_icmp_ne (pc := 55) 67 dX7_ofNight_55 (by decide) ?_ ?_
          · refine k_bipush (pc := 67) (v := (k_ng 2)) dX7_ofNight_67 (by decide) ?_
            exact k_ireturn (pc := 69) rfl dX7_ofNight_69
          · refine k_aload_n (pc := 58) dX7_ofNight_58 rfl ?_
            refine k_gMX7_tall (pc := 59) kwf_X7_52 rfl dX7_ofNight_59 ?_
            refine k_iload_n (pc := 62) dX7_ofNight_62 rfl ?_
            refine k_lM15 (pc := 63) dX7_ofNight_63 ?_
            refine k_goto (pc := 64) 69 dX7_ofNight_64 (by decide) ?_
            exact k_ireturn (pc := 69) rfl dX7_ofNight_69
        · refine k_aload_n (pc := 45) dX7_ofNight_45 rfl ?_
          refine k_iload_n (pc := 46) dX7_ofNight_46 rfl ?_
          refine k_vi1 (pc := 47) (cM_same _ _) ckX7_placeOf kwm_X7_148 cM_rv0 ⟨rfl, rfl⟩ ⟨Nat.le_of_ble_eq_true rfl, Nat.le_of_ble_eq_true rfl⟩ ⟨Nat.zero_le _, Nat.zero_le _⟩ (Nat.le_of_ble_eq_true rfl) dX7_ofNight_47 (fun _ _ hf => kX7_placeOf hf) (fun r7 σ8 => ?_)
          refine k_goto (pc := 50) 69 dX7_ofNight_50 (by decide) ?_
          exact k_ireturn (pc := 69) rfl dX7_ofNight_69
      · refine k_aload_n (pc := 27) dX7_ofNight_27 rfl ?_
        refine k_gMX7_nightTold (pc := 28) kwf_X7_37 rfl dX7_ofNight_28 ?_
        refine k_iconst (pc := 31) (v := (nI 5)) dX7_ofNight_31 (by decide) ?_
        refine k_iload_n (pc := 32) dX7_ofNight_32 rfl ?_
        refine k_imul (pc := 33) dX7_ofNight_33 ?_
        refine k_iload_n (pc := 34) dX7_ofNight_34 rfl ?_
        refine k_iadd (pc := 35) dX7_ofNight_35 ?_
        refine k_lM10 (pc := 36) dX7_ofNight_36 ?_
        refine k_goto (pc := 37) 69 dX7_ofNight_37 (by decide) ?_
        exact k_ireturn (pc := 69) rfl dX7_ofNight_69
    · refine k_iconst (pc := 16) (v := (k_ng 1)) dX7_ofNight_16 (by decide) ?_
      exact k_ireturn (pc := 17) rfl dX7_ofNight_17
-- TallTalesModel.undo(I)I
theorem ckX7_undo : k_Vok yX7_undo cX7_undo 2 (some .int) 1 := ⟨kwk_X7_undo, kwi_X7_undo, kwv_X7_undo, kwn_X7, by decide, by decide +kernel⟩
abbrev rmX7_undo : Room := { frames := 1, cells := 0, slots := 0, locals := 22 }
abbrev YX7_undo : k_Y := (rmX7_undo, cX7_undo, 2, RX7, (some .int))
noncomputable def fX7_undo (σ : k_S) (x1 : Int32) : Option (Int32 × k_S) := k_ob (fX7_within σ x1 ((nI 0)) (σ.1 8)) fun r1 σ2 => (if r1 = 0 then some ((k_ng 2), σ2) else k_bn (k_sf σ2 8 ((σ2.1 8 - x1))) fun σ3 => k_ob (fX7_countTold σ3) fun r4 σ5 => k_ob (fX7_chooseNone σ5) fun r6 σ7 => some (σ7.1 8, σ7))
set_option maxRecDepth 100000 in
set_option maxHeartbeats 4000000 in
theorem kX7_undo {D : va_G} {cI : ClassId} {q : Nat → Nat} {σ : k_S} {x1 : Int32} {r : Int32} {τ : k_S} (h : fX7_undo σ x1 = some (r, τ)) : k_Ct k_ei yX7_undo cX7_undo 2 (some .int) rmX7_undo (cM cI q) D cI [.ref (q 0), .int x1] σ r τ := by
  refine k_met (Y := YX7_undo) (cM_same _ _) (by decide) rfl (Nat.le_of_ble_eq_true rfl) (List.forall_mem_cons.mpr ⟨rfl, List.forall_mem_cons.mpr ⟨rfl, fun _ h => absurd h List.not_mem_nil⟩⟩) (fun X hD hI => ?_) h
  subst hD hI
  show KO X YX7_undo (cM (k_I X) q) 0 0 (k_Q k_ei X (cM (k_I X) q)) 0 [some (.ref (q 0)), some (.int x1)] [] σ _
  unfold fX7_undo
  refine k_iload_n (pc := 0) dX7_undo_0 rfl ?_
  refine k_iconst (pc := 1) (v := (nI 0)) dX7_undo_1 (by decide) ?_
  refine k_aload_n (pc := 2) dX7_undo_2 rfl ?_
  refine k_gMX7_over (pc := 3) kwf_X7_113 rfl dX7_undo_3 ?_
  refine k_si3 (pc := 6) (cM_same _ _) ckX7_within kwm_X7_73 ⟨rfl, rfl⟩ ⟨Nat.le_of_ble_eq_true rfl, Nat.le_of_ble_eq_true rfl⟩ ⟨Nat.zero_le _, Nat.zero_le _⟩ (Nat.le_of_ble_eq_true rfl) dX7_undo_6 (fun _ _ hf => kX7_within hf) (fun r1 σ2 => ?_)
  refine k_if_ne (pc := 9) 15 dX7_undo_9 (by decide) ?_ ?_
  · refine k_aload_n (pc := 15) dX7_undo_15 rfl ?_
    refine k_dup (pc := 16) dX7_undo_16 rfl ?_
    refine k_gMX7_over (pc := 17) kwf_X7_113 rfl dX7_undo_17 ?_
    refine k_iload_n (pc := 20) dX7_undo_20 rfl ?_
    refine k_isub (pc := 21) dX7_undo_21 ?_
    refine k_pMX7_over (pc := 22) kwf_X7_113 rfl dX7_undo_22 (fun σ3 => ?_)
    refine k_aload_n (pc := 25) dX7_undo_25 rfl ?_
    refine k_vv0 (pc := 26) (cM_same _ _) ckX7_countTold kwm_X7_116 cM_rv0 ⟨rfl, rfl⟩ ⟨Nat.le_of_ble_eq_true rfl, Nat.le_of_ble_eq_true rfl⟩ ⟨Nat.zero_le _, Nat.zero_le _⟩ (Nat.le_of_ble_eq_true rfl) dX7_undo_26 (fun _ _ hf => kX7_countTold hf) (fun r4 σ5 => ?_)
    refine k_aload_n (pc := 29) dX7_undo_29 rfl ?_
    refine k_vv0 (pc := 30) (cM_same _ _) ckX7_chooseNone kwm_X7_119 cM_rv0 ⟨rfl, rfl⟩ ⟨Nat.le_of_ble_eq_true rfl, Nat.le_of_ble_eq_true rfl⟩ ⟨Nat.zero_le _, Nat.zero_le _⟩ (Nat.le_of_ble_eq_true rfl) dX7_undo_30 (fun _ _ hf => kX7_chooseNone hf) (fun r6 σ7 => ?_)
    refine k_aload_n (pc := 33) dX7_undo_33 rfl ?_
    refine k_gMX7_over (pc := 34) kwf_X7_113 rfl dX7_undo_34 ?_
    exact k_ireturn (pc := 37) rfl dX7_undo_37
  · refine k_bipush (pc := 12) (v := (k_ng 2)) dX7_undo_12 (by decide) ?_
    exact k_ireturn (pc := 14) rfl dX7_undo_14
-- TallTalesModel.lay(II)I
theorem ckX7_lay : k_Vok yX7_lay cX7_lay 5 (some .int) 2 := ⟨kwk_X7_lay, kwi_X7_lay, kwv_X7_lay, kwn_X7, by decide, by decide +kernel⟩
abbrev rmX7_lay : Room := { frames := 1, cells := 0, slots := 0, locals := 23 }
abbrev YX7_lay : k_Y := (rmX7_lay, cX7_lay, 5, RX7, (some .int))
noncomputable def fX7_lay_c53 (kh23 : k_S → Int32 → Int32 → Int32 → Int32 → Option (Int32 × k_S)) (σ : k_S) (l1 l2 l4 s0 s1 : Int32) : Option (Int32 × k_S) := k_bn ((s0 + s1)) fun v1 => k_bn (l4 + (nI 1)) fun v2 => kh23 σ l1 l2 v1 v2
set_option maxRecDepth 100000 in
set_option maxHeartbeats 4000000 in
theorem kX7_lay_c53 {X : k_C} {q : Nat → Nat} (kh23 : k_S → Int32 → Int32 → Int32 → Int32 → Option (Int32 × k_S)) (hk23 : ∀ (σ : k_S) (l1 l2 l3 l4 : Int32), KO X YX7_lay (cM (k_I X) q) 0 0 (k_Q k_ei X (cM (k_I X) q)) 23 [some (.ref (q 0)), some (.int l1), some (.int l2), some (.int l3), some (.int l4)] [] σ (kh23 σ l1 l2 l3 l4)) (σ : k_S) (l1 l2 l4 s0 s1 : Int32) : KO X YX7_lay (cM (k_I X) q) 0 0 (k_Q k_ei X (cM (k_I X) q)) 53 [some (.ref (q 0)), some (.int l1), some (.int l2), none, some (.int l4)] [.int s1, .int s0] σ (fX7_lay_c53 kh23 σ l1 l2 l4 s0 s1) := by
  unfold fX7_lay_c53
  refine k_iadd (pc := 53) dX7_lay_53 ?_
  refine k_ist3 (pc := 54) dX7_lay_54 (Nat.le_of_ble_eq_true rfl) (fun v1 => ?_)
  refine k_iinc4 (pc := 55) (w := (nI 1)) dX7_lay_55 rfl (by decide) (Nat.le_of_ble_eq_true rfl) (fun v2 => ?_)
  refine k_goto (pc := 58) 23 dX7_lay_58 (by decide) ?_
  exact hk23 σ l1 l2 v1 v2
noncomputable def fX7_lay_c23 : Nat → k_S → Int32 → Int32 → Int32 → Int32 → Option (Int32 × k_S)
  | 0, _, _, _, _, _ => none
  | n + 1, σ, l1, l2, l3, l4 => (if l4 < σ.1 8 then k_ob (fX7_layNight σ l4) fun r1 σ2 => k_ob (fX7_placeOf σ2 l1) fun r3 σ4 => (if r3 = l2 then fX7_lay_c53 (fX7_lay_c23 n) σ4 l1 l2 l4 l3 ((nI 1)) else fX7_lay_c53 (fX7_lay_c23 n) σ4 l1 l2 l4 l3 ((nI 0))) else some (l3, σ))
theorem fX7_lay_c23_s (n : Nat) (σ : k_S) (l1 l2 l3 l4 : Int32) : fX7_lay_c23 (n + 1) σ l1 l2 l3 l4 = (if l4 < σ.1 8 then k_ob (fX7_layNight σ l4) fun r1 σ2 => k_ob (fX7_placeOf σ2 l1) fun r3 σ4 => (if r3 = l2 then fX7_lay_c53 (fX7_lay_c23 n) σ4 l1 l2 l4 l3 ((nI 1)) else fX7_lay_c53 (fX7_lay_c23 n) σ4 l1 l2 l4 l3 ((nI 0))) else some (l3, σ)) := rfl
set_option maxRecDepth 100000 in
set_option maxHeartbeats 4000000 in
theorem kX7_lay_c23 {X : k_C} {q : Nat → Nat} : ∀ (n : Nat) (σ : k_S) (l1 l2 l3 l4 : Int32), KO X YX7_lay (cM (k_I X) q) 0 0 (k_Q k_ei X (cM (k_I X) q)) 23 [some (.ref (q 0)), some (.int l1), some (.int l2), some (.int l3), some (.int l4)] [] σ (fX7_lay_c23 n σ l1 l2 l3 l4) := by
  intro n
  induction n with
  | zero => intros; exact KO.nil
  | succ n ih =>
    intro σ l1 l2 l3 l4
    rw [fX7_lay_c23_s]
    refine k_iload (pc := 23) dX7_lay_23 rfl ?_
    refine k_aload_n (pc := 25) dX7_lay_25 rfl ?_
    refine k_gMX7_over (pc := 26) kwf_X7_113 rfl dX7_lay_26 ?_
    refine k_icmp_ge (pc := 29) 61 dX7_lay_29 (by decide) ?_ ?_
    · refine k_iload_n (pc := 61) dX7_lay_61 rfl ?_
      exact k_ireturn (pc := 62) rfl dX7_lay_62
    · refine k_aload_n (pc := 32) dX7_lay_32 rfl ?_
      refine k_iload (pc := 33) dX7_lay_33 rfl ?_
      refine k_vv1 (pc := 35) (cM_same _ _) ckX7_layNight kwm_X7_161 cM_rv0 ⟨rfl, rfl⟩ ⟨Nat.le_of_ble_eq_true rfl, Nat.le_of_ble_eq_true rfl⟩ ⟨Nat.zero_le _, Nat.zero_le _⟩ (Nat.le_of_ble_eq_true rfl) dX7_lay_35 (fun _ _ hf => kX7_layNight hf) (fun r1 σ2 => ?_)
      refine k_iload_n (pc := 38) dX7_lay_38 rfl ?_
      refine k_aload_n (pc := 39) dX7_lay_39 rfl ?_
      refine k_iload_n (pc := 40) dX7_lay_40 rfl ?_
      refine k_vi1 (pc := 41) (cM_same _ _) ckX7_placeOf kwm_X7_148 cM_rv0 ⟨rfl, rfl⟩ ⟨Nat.le_of_ble_eq_true rfl, Nat.le_of_ble_eq_true rfl⟩ ⟨Nat.zero_le _, Nat.zero_le _⟩ (Nat.le_of_ble_eq_true rfl) dX7_lay_41 (fun _ _ hf => kX7_placeOf hf) (fun r3 σ4 => ?_)
      refine k_iload_n (pc := 44) dX7_lay_44 rfl ?_
      refine k_icmp_ne (pc := 45) 52 dX7_lay_45 (by decide) ?_ ?_
      · refine k_iconst (pc := 52) (v := (nI 0)) dX7_lay_52 (by decide) ?_
        refine k_fg3 ?_
        exact kX7_lay_c53 (fX7_lay_c23 n) ih σ4 l1 l2 l4 l3 ((nI 0))
      · refine k_iconst (pc := 48) (v := (nI 1)) dX7_lay_48 (by decide) ?_
        refine k_goto (pc := 49) 53 dX7_lay_49 (by decide) ?_
        refine k_fg3 ?_
        exact kX7_lay_c53 (fX7_lay_c23 n) ih σ4 l1 l2 l4 l3 ((nI 1))
noncomputable def fX7_lay (σ : k_S) (x1 x2 : Int32) : Option (Int32 × k_S) := k_ob (fX7_isGuest σ x1) fun r1 σ2 => (if r1 = 0 then some ((k_ng 1), σ2) else k_ob (fX7_isGuest σ2 x2) fun r3 σ4 => (if r3 = 0 then some ((k_ng 1), σ4) else k_bn ((nI 0)) fun v5 => k_bn ((nI 0)) fun v6 => fX7_lay_c23 k_F σ4 x1 x2 v5 v6))
set_option maxRecDepth 100000 in
set_option maxHeartbeats 4000000 in
theorem kX7_lay {D : va_G} {cI : ClassId} {q : Nat → Nat} {σ : k_S} {x1 x2 : Int32} {r : Int32} {τ : k_S} (h : fX7_lay σ x1 x2 = some (r, τ)) : k_Ct k_ei yX7_lay cX7_lay 5 (some .int) rmX7_lay (cM cI q) D cI [.ref (q 0), .int x1, .int x2] σ r τ := by
  refine k_met (Y := YX7_lay) (cM_same _ _) (by decide) rfl (Nat.le_of_ble_eq_true rfl) (List.forall_mem_cons.mpr ⟨rfl, List.forall_mem_cons.mpr ⟨rfl, List.forall_mem_cons.mpr ⟨rfl, fun _ h => absurd h List.not_mem_nil⟩⟩⟩) (fun X hD hI => ?_) h
  subst hD hI
  show KO X YX7_lay (cM (k_I X) q) 0 0 (k_Q k_ei X (cM (k_I X) q)) 0 [some (.ref (q 0)), some (.int x1), some (.int x2), none, none] [] σ _
  unfold fX7_lay
  refine k_aload_n (pc := 0) dX7_lay_0 rfl ?_
  refine k_iload_n (pc := 1) dX7_lay_1 rfl ?_
  refine k_vi1 (pc := 2) (cM_same _ _) ckX7_isGuest kwm_X7_145 cM_rv0 ⟨rfl, rfl⟩ ⟨Nat.le_of_ble_eq_true rfl, Nat.le_of_ble_eq_true rfl⟩ ⟨Nat.zero_le _, Nat.zero_le _⟩ (Nat.le_of_ble_eq_true rfl) dX7_lay_2 (fun _ _ hf => kX7_isGuest hf) (fun r1 σ2 => ?_)
  refine k_if_eq (pc := 5) 16 dX7_lay_5 (by decide) ?_ ?_
  · refine k_iconst (pc := 16) (v := (k_ng 1)) dX7_lay_16 (by decide) ?_
    exact k_ireturn (pc := 17) rfl dX7_lay_17
  · refine k_aload_n (pc := 8) dX7_lay_8 rfl ?_
    refine k_iload_n (pc := 9) dX7_lay_9 rfl ?_
    refine k_vi1 (pc := 10) (cM_same _ _) ckX7_isGuest kwm_X7_145 cM_rv0 ⟨rfl, rfl⟩ ⟨Nat.le_of_ble_eq_true rfl, Nat.le_of_ble_eq_true rfl⟩ ⟨Nat.zero_le _, Nat.zero_le _⟩ (Nat.le_of_ble_eq_true rfl) dX7_lay_10 (fun _ _ hf => kX7_isGuest hf) (fun r3 σ4 => ?_)
    refine k_if_ne (pc := 13) 18 dX7_lay_13 (by decide) ?_ ?_
    · refine k_iconst (pc := 18) (v := (nI 0)) dX7_lay_18 (by decide) ?_
      refine k_ist3 (pc := 19) dX7_lay_19 (Nat.le_of_ble_eq_true rfl) (fun v5 => ?_)
      refine k_iconst (pc := 20) (v := (nI 0)) dX7_lay_20 (by decide) ?_
      refine k_ist4 (pc := 21) dX7_lay_21 (Nat.le_of_ble_eq_true rfl) (fun v6 => ?_)
      exact kX7_lay_c23 k_F σ4 x1 x2 v5 v6
    · refine k_iconst (pc := 16) (v := (k_ng 1)) dX7_lay_16 (by decide) ?_
      exact k_ireturn (pc := 17) rfl dX7_lay_17
-- TallTalesModel.need(I)I
theorem ckX7_need : k_Vok yX7_need cX7_need 5 (some .int) 1 := ⟨kwk_X7_need, kwi_X7_need, kwv_X7_need, kwn_X7, by decide, by decide +kernel⟩
abbrev rmX7_need : Room := { frames := 0, cells := 0, slots := 0, locals := 0 }
abbrev YX7_need : k_Y := (rmX7_need, cX7_need, 5, RX7, (some .int))
noncomputable def fX7_need_c63 (kh4 : k_S → Int32 → Int32 → Int32 → Option (Int32 × k_S)) (σ : k_S) (l1 l2 l3 : Int32) : Option (Int32 × k_S) := k_bn (l3 + (nI 1)) fun v1 => kh4 σ l1 l2 v1
set_option maxRecDepth 100000 in
set_option maxHeartbeats 4000000 in
theorem kX7_need_c63 {X : k_C} {q : Nat → Nat} (kh4 : k_S → Int32 → Int32 → Int32 → Option (Int32 × k_S)) (hk4 : ∀ (σ : k_S) (l1 l2 l3 : Int32), KO X YX7_need (cM (k_I X) q) 0 0 (k_Q k_ei X (cM (k_I X) q)) 4 [some (.ref (q 0)), some (.int l1), some (.int l2), some (.int l3), none] [] σ (kh4 σ l1 l2 l3)) (σ : k_S) (l1 l2 l3 : Int32) : KO X YX7_need (cM (k_I X) q) 0 0 (k_Q k_ei X (cM (k_I X) q)) 63 [some (.ref (q 0)), some (.int l1), some (.int l2), some (.int l3), none] [] σ (fX7_need_c63 kh4 σ l1 l2 l3) := by
  unfold fX7_need_c63
  refine k_iinc3 (pc := 63) (w := (nI 1)) dX7_need_63 rfl (by decide) (Nat.le_of_ble_eq_true rfl) (fun v1 => ?_)
  refine k_goto (pc := 66) 4 dX7_need_66 (by decide) ?_
  exact hk4 σ l1 l2 v1
noncomputable def fX7_need_c62 (kh4 : k_S → Int32 → Int32 → Int32 → Option (Int32 × k_S)) (σ : k_S) (l1 l3 s0 : Int32) : Option (Int32 × k_S) := k_bn (s0) fun v1 => fX7_need_c63 kh4 σ l1 v1 l3
set_option maxRecDepth 100000 in
set_option maxHeartbeats 4000000 in
theorem kX7_need_c62 {X : k_C} {q : Nat → Nat} (kh4 : k_S → Int32 → Int32 → Int32 → Option (Int32 × k_S)) (hk4 : ∀ (σ : k_S) (l1 l2 l3 : Int32), KO X YX7_need (cM (k_I X) q) 0 0 (k_Q k_ei X (cM (k_I X) q)) 4 [some (.ref (q 0)), some (.int l1), some (.int l2), some (.int l3), none] [] σ (kh4 σ l1 l2 l3)) (σ : k_S) (l1 l3 s0 : Int32) : KO X YX7_need (cM (k_I X) q) 0 0 (k_Q k_ei X (cM (k_I X) q)) 62 [some (.ref (q 0)), some (.int l1), none, some (.int l3), none] [.int s0] σ (fX7_need_c62 kh4 σ l1 l3 s0) := by
  unfold fX7_need_c62
  refine k_ist2 (pc := 62) dX7_need_62 (Nat.le_of_ble_eq_true rfl) (fun v1 => ?_)
  exact kX7_need_c63 kh4 hk4 σ l1 v1 l3
noncomputable def fX7_need_c48 (kh4 : k_S → Int32 → Int32 → Int32 → Option (Int32 × k_S)) (σ : k_S) (l1 l2 l3 s0 : Int32) : Option (Int32 × k_S) := k_bn (s0) fun v1 => (if l2 < v1 then fX7_need_c62 kh4 σ l1 l3 v1 else fX7_need_c62 kh4 σ l1 l3 l2)
set_option maxRecDepth 100000 in
set_option maxHeartbeats 4000000 in
theorem kX7_need_c48 {X : k_C} {q : Nat → Nat} (kh4 : k_S → Int32 → Int32 → Int32 → Option (Int32 × k_S)) (hk4 : ∀ (σ : k_S) (l1 l2 l3 : Int32), KO X YX7_need (cM (k_I X) q) 0 0 (k_Q k_ei X (cM (k_I X) q)) 4 [some (.ref (q 0)), some (.int l1), some (.int l2), some (.int l3), none] [] σ (kh4 σ l1 l2 l3)) (σ : k_S) (l1 l2 l3 s0 : Int32) : KO X YX7_need (cM (k_I X) q) 0 0 (k_Q k_ei X (cM (k_I X) q)) 48 [some (.ref (q 0)), some (.int l1), some (.int l2), some (.int l3), none] [.int s0] σ (fX7_need_c48 kh4 σ l1 l2 l3 s0) := by
  unfold fX7_need_c48
  refine k_ist4 (pc := 48) dX7_need_48 (Nat.le_of_ble_eq_true rfl) (fun v1 => ?_)
  refine k_iload (pc := 50) dX7_need_50 rfl ?_
  refine k_iload_n (pc := 52) dX7_need_52 rfl ?_
  refine k_icmp_le (pc := 53) 61 dX7_need_53 (by decide) ?_ ?_
  · refine k_iload_n (pc := 61) dX7_need_61 rfl ?_
    refine k_fg2 ?_
    refine k_fg4 ?_
    exact kX7_need_c62 kh4 hk4 σ l1 l3 l2
  · refine k_iload (pc := 56) dX7_need_56 rfl ?_
    refine k_goto (pc := 58) 62 dX7_need_58 (by decide) ?_
    refine k_fg2 ?_
    refine k_fg4 ?_
    exact kX7_need_c62 kh4 hk4 σ l1 l3 v1
noncomputable def fX7_need_c4 : Nat → k_S → Int32 → Int32 → Int32 → Option (Int32 × k_S)
  | 0, _, _, _, _ => none
  | n + 1, σ, l1, l2, l3 => (if l3 < σ.1 2 then (if l3 = l1 then fX7_need_c63 (fX7_need_c4 n) σ l1 l2 l3 else k_gd (l3) 5 ((if 0 < σ.2 14 (Int32.toNatClampNeg (l3)) then (if l3 < l1 then k_gd (l3) 5 (fX7_need_c48 (fX7_need_c4 n) σ l1 l2 l3 ((σ.2 14 (Int32.toNatClampNeg (l3)) + (nI 1)))) else k_gd (l3) 5 (fX7_need_c48 (fX7_need_c4 n) σ l1 l2 l3 (σ.2 14 (Int32.toNatClampNeg (l3))))) else fX7_need_c63 (fX7_need_c4 n) σ l1 l2 l3))) else some (l2, σ))
theorem fX7_need_c4_s (n : Nat) (σ : k_S) (l1 l2 l3 : Int32) : fX7_need_c4 (n + 1) σ l1 l2 l3 = (if l3 < σ.1 2 then (if l3 = l1 then fX7_need_c63 (fX7_need_c4 n) σ l1 l2 l3 else k_gd (l3) 5 ((if 0 < σ.2 14 (Int32.toNatClampNeg (l3)) then (if l3 < l1 then k_gd (l3) 5 (fX7_need_c48 (fX7_need_c4 n) σ l1 l2 l3 ((σ.2 14 (Int32.toNatClampNeg (l3)) + (nI 1)))) else k_gd (l3) 5 (fX7_need_c48 (fX7_need_c4 n) σ l1 l2 l3 (σ.2 14 (Int32.toNatClampNeg (l3))))) else fX7_need_c63 (fX7_need_c4 n) σ l1 l2 l3))) else some (l2, σ)) := rfl
set_option maxRecDepth 100000 in
set_option maxHeartbeats 4000000 in
theorem kX7_need_c4 {X : k_C} {q : Nat → Nat} : ∀ (n : Nat) (σ : k_S) (l1 l2 l3 : Int32), KO X YX7_need (cM (k_I X) q) 0 0 (k_Q k_ei X (cM (k_I X) q)) 4 [some (.ref (q 0)), some (.int l1), some (.int l2), some (.int l3), none] [] σ (fX7_need_c4 n σ l1 l2 l3) := by
  intro n
  induction n with
  | zero => intros; exact KO.nil
  | succ n ih =>
    intro σ l1 l2 l3
    rw [fX7_need_c4_s]
    refine k_iload_n (pc := 4) dX7_need_4 rfl ?_
    refine k_aload_n (pc := 5) dX7_need_5 rfl ?_
    refine k_gMX7_guests (pc := 6) kwf_X7_77 rfl dX7_need_6 ?_
    refine k_icmp_ge (pc := 9) 69 dX7_need_9 (by decide) ?_ ?_
    · refine k_iload_n (pc := 69) dX7_need_69 rfl ?_
      exact k_ireturn (pc := 70) rfl dX7_need_70
    · refine k_iload_n (pc := 12) dX7_need_12 rfl ?_
      refine k_iload_n (pc := 13) dX7_need_13 rfl ?_
      refine k_icmp_eq (pc := 14) 63 dX7_need_14 (by decide) ?_ ?_
      · exact kX7_need_c63 (fX7_need_c4 n) ih σ l1 l2 l3
      · refine k_aload_n (pc := 17) dX7_need_17 rfl ?_
        refine k_gMX7_tall (pc := 18) kwf_X7_52 rfl dX7_need_18 ?_
        refine k_iload_n (pc := 21) dX7_need_21 rfl ?_
        refine k_lM15 (pc := 22) dX7_need_22 ?_
        refine k_if_le (pc := 23) 63 dX7_need_23 (by decide) ?_ ?_
        · exact kX7_need_c63 (fX7_need_c4 n) ih σ l1 l2 l3
        · refine k_iload_n (pc := 26) dX7_need_26 rfl ?_
          refine k_iload_n (pc := 27) dX7_need_27 rfl ?_
          refine k_icmp_ge (pc := 28) 42 dX7_need_28 (by decide) ?_ ?_
          · refine k_aload_n (pc := 42) dX7_need_42 rfl ?_
            refine k_gMX7_tall (pc := 43) kwf_X7_52 rfl dX7_need_43 ?_
            refine k_iload_n (pc := 46) dX7_need_46 rfl ?_
            refine k_lM15 (pc := 47) dX7_need_47 ?_
            exact kX7_need_c48 (fX7_need_c4 n) ih σ l1 l2 l3 (σ.2 14 (Int32.toNatClampNeg (l3)))
          · refine k_aload_n (pc := 31) dX7_need_31 rfl ?_
            refine k_gMX7_tall (pc := 32) kwf_X7_52 rfl dX7_need_32 ?_
            refine k_iload_n (pc := 35) dX7_need_35 rfl ?_
            refine k_lM15 (pc := 36) dX7_need_36 ?_
            refine k_iconst (pc := 37) (v := (nI 1)) dX7_need_37 (by decide) ?_
            refine k_iadd (pc := 38) dX7_need_38 ?_
            refine k_goto (pc := 39) 48 dX7_need_39 (by decide) ?_
            exact kX7_need_c48 (fX7_need_c4 n) ih σ l1 l2 l3 ((σ.2 14 (Int32.toNatClampNeg (l3)) + (nI 1)))
noncomputable def fX7_need (σ : k_S) (x1 : Int32) : Option (Int32 × k_S) := k_bn ((nI 1)) fun v1 => k_bn ((nI 0)) fun v2 => fX7_need_c4 k_F σ x1 v1 v2
set_option maxRecDepth 100000 in
set_option maxHeartbeats 4000000 in
theorem kX7_need {D : va_G} {cI : ClassId} {q : Nat → Nat} {σ : k_S} {x1 : Int32} {r : Int32} {τ : k_S} (h : fX7_need σ x1 = some (r, τ)) : k_Ct k_ei yX7_need cX7_need 5 (some .int) rmX7_need (cM cI q) D cI [.ref (q 0), .int x1] σ r τ := by
  refine k_met (Y := YX7_need) (cM_same _ _) (by decide) rfl (Nat.le_of_ble_eq_true rfl) (List.forall_mem_cons.mpr ⟨rfl, List.forall_mem_cons.mpr ⟨rfl, fun _ h => absurd h List.not_mem_nil⟩⟩) (fun X hD hI => ?_) h
  subst hD hI
  show KO X YX7_need (cM (k_I X) q) 0 0 (k_Q k_ei X (cM (k_I X) q)) 0 [some (.ref (q 0)), some (.int x1), none, none, none] [] σ _
  unfold fX7_need
  refine k_iconst (pc := 0) (v := (nI 1)) dX7_need_0 (by decide) ?_
  refine k_ist2 (pc := 1) dX7_need_1 (Nat.le_of_ble_eq_true rfl) (fun v1 => ?_)
  refine k_iconst (pc := 2) (v := (nI 0)) dX7_need_2 (by decide) ?_
  refine k_ist3 (pc := 3) dX7_need_3 (Nat.le_of_ble_eq_true rfl) (fun v2 => ?_)
  exact kX7_need_c4 k_F σ x1 v1 v2
