/-! ===== T: methods as pure functions, and that the bytecode answers so (by program: wip/gen30/dec.py) ===== -/
-- TallTales.isSheet(I)Z
theorem ckX6_isSheet : k_Sok yX6_isSheet cX6_isSheet 1 (some .boolean) 1 := ⟨kwk_X6_isSheet, kws_X6_isSheet, kwn_X6, by decide, by decide +kernel⟩
abbrev rmX6_isSheet : Room := { frames := 0, cells := 0, slots := 0, locals := 0 }
abbrev YX6_isSheet : k_Y := (rmX6_isSheet, cX6_isSheet, 1, RX6, (some .boolean))
noncomputable def fX6_isSheet (σ : k_S) (x0 : Int32) : Option (Int32 × k_S) := (if x0 < 0 then k_z ((nI 0)) (some ((nI 0), σ)) else (if x0 < (nI 4) then k_z ((nI 1)) (some ((nI 1), σ)) else k_z ((nI 0)) (some ((nI 0), σ))))
set_option maxRecDepth 100000 in
set_option maxHeartbeats 4000000 in
theorem kX6_isSheet {D : va_G} {cI : ClassId} {q : Nat → Nat} {σ : k_S} {x0 : Int32} {r : Int32} {τ : k_S} (h : fX6_isSheet σ x0 = some (r, τ)) : k_Ct k_ei yX6_isSheet cX6_isSheet 1 (some .boolean) rmX6_isSheet (cT cI q) D cI [.int x0] σ r τ := by
  refine k_met (Y := YX6_isSheet) (cT_same _ _) (by decide) rfl (Nat.le_of_ble_eq_true rfl) (List.forall_mem_cons.mpr ⟨rfl, fun _ h => absurd h List.not_mem_nil⟩) (fun X hD hI => ?_) h
  subst hD hI
  show KO X YX6_isSheet (cT (k_I X) q) 0 0 (k_Q k_ei X (cT (k_I X) q)) 0 [some (.int x0)] [] σ _
  unfold fX6_isSheet
  refine k_iload_n (pc := 0) dX6_isSheet_0 rfl ?_
  refine k_if_lt (pc := 1) 13 dX6_isSheet_1 (by decide) ?_ ?_
  · refine k_iconst (pc := 13) (v := (nI 0)) dX6_isSheet_13 (by decide) ?_
    exact k_zreturn (pc := 14) rfl dX6_isSheet_14
  · refine k_iload_n (pc := 4) dX6_isSheet_4 rfl ?_
    refine k_iconst (pc := 5) (v := (nI 4)) dX6_isSheet_5 (by decide) ?_
    refine k_icmp_ge (pc := 6) 13 dX6_isSheet_6 (by decide) ?_ ?_
    · refine k_iconst (pc := 13) (v := (nI 0)) dX6_isSheet_13 (by decide) ?_
      exact k_zreturn (pc := 14) rfl dX6_isSheet_14
    · refine k_iconst (pc := 9) (v := (nI 1)) dX6_isSheet_9 (by decide) ?_
      refine k_goto (pc := 10) 14 dX6_isSheet_10 (by decide) ?_
      exact k_zreturn (pc := 14) rfl dX6_isSheet_14
-- TallTales.isSort(I)Z
theorem ckX6_isSort : k_Sok yX6_isSort cX6_isSort 1 (some .boolean) 1 := ⟨kwk_X6_isSort, kws_X6_isSort, kwn_X6, by decide, by decide +kernel⟩
abbrev rmX6_isSort : Room := { frames := 0, cells := 0, slots := 0, locals := 0 }
abbrev YX6_isSort : k_Y := (rmX6_isSort, cX6_isSort, 1, RX6, (some .boolean))
noncomputable def fX6_isSort (σ : k_S) (x0 : Int32) : Option (Int32 × k_S) := (if x0 < 0 then k_z ((nI 0)) (some ((nI 0), σ)) else (if (nI 2) < x0 then k_z ((nI 0)) (some ((nI 0), σ)) else k_z ((nI 1)) (some ((nI 1), σ))))
set_option maxRecDepth 100000 in
set_option maxHeartbeats 4000000 in
theorem kX6_isSort {D : va_G} {cI : ClassId} {q : Nat → Nat} {σ : k_S} {x0 : Int32} {r : Int32} {τ : k_S} (h : fX6_isSort σ x0 = some (r, τ)) : k_Ct k_ei yX6_isSort cX6_isSort 1 (some .boolean) rmX6_isSort (cT cI q) D cI [.int x0] σ r τ := by
  refine k_met (Y := YX6_isSort) (cT_same _ _) (by decide) rfl (Nat.le_of_ble_eq_true rfl) (List.forall_mem_cons.mpr ⟨rfl, fun _ h => absurd h List.not_mem_nil⟩) (fun X hD hI => ?_) h
  subst hD hI
  show KO X YX6_isSort (cT (k_I X) q) 0 0 (k_Q k_ei X (cT (k_I X) q)) 0 [some (.int x0)] [] σ _
  unfold fX6_isSort
  refine k_iload_n (pc := 0) dX6_isSort_0 rfl ?_
  refine k_if_lt (pc := 1) 13 dX6_isSort_1 (by decide) ?_ ?_
  · refine k_iconst (pc := 13) (v := (nI 0)) dX6_isSort_13 (by decide) ?_
    exact k_zreturn (pc := 14) rfl dX6_isSort_14
  · refine k_iload_n (pc := 4) dX6_isSort_4 rfl ?_
    refine k_iconst (pc := 5) (v := (nI 2)) dX6_isSort_5 (by decide) ?_
    refine k_icmp_gt (pc := 6) 13 dX6_isSort_6 (by decide) ?_ ?_
    · refine k_iconst (pc := 13) (v := (nI 0)) dX6_isSort_13 (by decide) ?_
      exact k_zreturn (pc := 14) rfl dX6_isSort_14
    · refine k_iconst (pc := 9) (v := (nI 1)) dX6_isSort_9 (by decide) ?_
      refine k_goto (pc := 10) 14 dX6_isSort_10 (by decide) ?_
      exact k_zreturn (pc := 14) rfl dX6_isSort_14
-- TallTales$Sheets.hasRow(I)Z
theorem ckX2_hasRow : k_Vok yX2_hasRow cX2_hasRow 2 (some .boolean) 1 := ⟨kwk_X2_hasRow, kwi_X2_hasRow, kwv_X2_hasRow, kwn_X2, by decide, by decide +kernel⟩
abbrev rmX2_hasRow : Room := { frames := 0, cells := 0, slots := 0, locals := 0 }
abbrev YX2_hasRow : k_Y := (rmX2_hasRow, cX2_hasRow, 2, RX2, (some .boolean))
noncomputable def fX2_hasRow (σ : k_S) (x1 : Int32) : Option (Int32 × k_S) := k_gd (x1) 4 ((if σ.2 3 (Int32.toNatClampNeg (x1)) = (k_ng 9) then k_z ((nI 0)) (some ((nI 0), σ)) else k_z ((nI 1)) (some ((nI 1), σ))))
set_option maxRecDepth 100000 in
set_option maxHeartbeats 4000000 in
theorem kX2_hasRow {D : va_G} {cI : ClassId} {q : Nat → Nat} {σ : k_S} {x1 : Int32} {r : Int32} {τ : k_S} (h : fX2_hasRow σ x1 = some (r, τ)) : k_Ct k_ei yX2_hasRow cX2_hasRow 2 (some .boolean) rmX2_hasRow (cT cI q) D cI [.ref (q 1), .int x1] σ r τ := by
  refine k_met (Y := YX2_hasRow) (cT_same _ _) (by decide) rfl (Nat.le_of_ble_eq_true rfl) (List.forall_mem_cons.mpr ⟨rfl, List.forall_mem_cons.mpr ⟨rfl, fun _ h => absurd h List.not_mem_nil⟩⟩) (fun X hD hI => ?_) h
  subst hD hI
  show KO X YX2_hasRow (cT (k_I X) q) 0 0 (k_Q k_ei X (cT (k_I X) q)) 0 [some (.ref (q 1)), some (.int x1)] [] σ _
  unfold fX2_hasRow
  refine k_aload_n (pc := 0) dX2_hasRow_0 rfl ?_
  refine k_gTX2_lengths (pc := 1) kwf_X2_18 rfl dX2_hasRow_1 ?_
  refine k_iload_n (pc := 4) dX2_hasRow_4 rfl ?_
  refine k_lT10 (pc := 5) dX2_hasRow_5 ?_
  refine k_bipush (pc := 6) (v := (k_ng 9)) dX2_hasRow_6 (by decide) ?_
  refine k_icmp_eq (pc := 8) 15 dX2_hasRow_8 (by decide) ?_ ?_
  · refine k_iconst (pc := 15) (v := (nI 0)) dX2_hasRow_15 (by decide) ?_
    exact k_zreturn (pc := 16) rfl dX2_hasRow_16
  · refine k_iconst (pc := 11) (v := (nI 1)) dX2_hasRow_11 (by decide) ?_
    refine k_goto (pc := 12) 16 dX2_hasRow_12 (by decide) ?_
    exact k_zreturn (pc := 16) rfl dX2_hasRow_16
-- TallTales$Sheets.hasCells(III)Z
theorem ckX2_hasCells : k_Vok yX2_hasCells cX2_hasCells 4 (some .boolean) 3 := ⟨kwk_X2_hasCells, kwi_X2_hasCells, kwv_X2_hasCells, kwn_X2, by decide, by decide +kernel⟩
abbrev rmX2_hasCells : Room := { frames := 0, cells := 0, slots := 0, locals := 0 }
abbrev YX2_hasCells : k_Y := (rmX2_hasCells, cX2_hasCells, 4, RX2, (some .boolean))
noncomputable def fX2_hasCells (σ : k_S) (x1 x2 x3 : Int32) : Option (Int32 × k_S) := (if x2 < 0 then k_z ((nI 0)) (some ((nI 0), σ)) else (if x3 < 0 then k_z ((nI 0)) (some ((nI 0), σ)) else k_gd (x1) 4 ((if σ.2 3 (Int32.toNatClampNeg (x1)) < x3 then k_z ((nI 0)) (some ((nI 0), σ)) else k_gd (x1) 4 ((if (σ.2 3 (Int32.toNatClampNeg (x1)) - x3) < x2 then k_z ((nI 0)) (some ((nI 0), σ)) else k_z ((nI 1)) (some ((nI 1), σ))))))))
set_option maxRecDepth 100000 in
set_option maxHeartbeats 4000000 in
theorem kX2_hasCells {D : va_G} {cI : ClassId} {q : Nat → Nat} {σ : k_S} {x1 x2 x3 : Int32} {r : Int32} {τ : k_S} (h : fX2_hasCells σ x1 x2 x3 = some (r, τ)) : k_Ct k_ei yX2_hasCells cX2_hasCells 4 (some .boolean) rmX2_hasCells (cT cI q) D cI [.ref (q 1), .int x1, .int x2, .int x3] σ r τ := by
  refine k_met (Y := YX2_hasCells) (cT_same _ _) (by decide) rfl (Nat.le_of_ble_eq_true rfl) (List.forall_mem_cons.mpr ⟨rfl, List.forall_mem_cons.mpr ⟨rfl, List.forall_mem_cons.mpr ⟨rfl, List.forall_mem_cons.mpr ⟨rfl, fun _ h => absurd h List.not_mem_nil⟩⟩⟩⟩) (fun X hD hI => ?_) h
  subst hD hI
  show KO X YX2_hasCells (cT (k_I X) q) 0 0 (k_Q k_ei X (cT (k_I X) q)) 0 [some (.ref (q 1)), some (.int x1), some (.int x2), some (.int x3)] [] σ _
  unfold fX2_hasCells
  refine k_iload_n (pc := 0) dX2_hasCells_0 rfl ?_
  refine k_if_lt (pc := 1) 34 dX2_hasCells_1 (by decide) ?_ ?_
  · refine k_iconst (pc := 34) (v := (nI 0)) dX2_hasCells_34 (by decide) ?_
    exact k_zreturn (pc := 35) rfl dX2_hasCells_35
  · refine k_iload_n (pc := 4) dX2_hasCells_4 rfl ?_
    refine k_if_lt (pc := 5) 34 dX2_hasCells_5 (by decide) ?_ ?_
    · refine k_iconst (pc := 34) (v := (nI 0)) dX2_hasCells_34 (by decide) ?_
      exact k_zreturn (pc := 35) rfl dX2_hasCells_35
    · refine k_iload_n (pc := 8) dX2_hasCells_8 rfl ?_
      refine k_aload_n (pc := 9) dX2_hasCells_9 rfl ?_
      refine k_gTX2_lengths (pc := 10) kwf_X2_18 rfl dX2_hasCells_10 ?_
      refine k_iload_n (pc := 13) dX2_hasCells_13 rfl ?_
      refine k_lT10 (pc := 14) dX2_hasCells_14 ?_
      refine k_icmp_gt (pc := 15) 34 dX2_hasCells_15 (by decide) ?_ ?_
      · refine k_iconst (pc := 34) (v := (nI 0)) dX2_hasCells_34 (by decide) ?_
        exact k_zreturn (pc := 35) rfl dX2_hasCells_35
      · refine k_iload_n (pc := 18) dX2_hasCells_18 rfl ?_
        refine k_aload_n (pc := 19) dX2_hasCells_19 rfl ?_
        refine k_gTX2_lengths (pc := 20) kwf_X2_18 rfl dX2_hasCells_20 ?_
        refine k_iload_n (pc := 23) dX2_hasCells_23 rfl ?_
        refine k_lT10 (pc := 24) dX2_hasCells_24 ?_
        refine k_iload_n (pc := 25) dX2_hasCells_25 rfl ?_
        refine k_isub (pc := 26) dX2_hasCells_26 ?_
        refine k_icmp_gt (pc := 27) 34 dX2_hasCells_27 (by decide) ?_ ?_
        · refine k_iconst (pc := 34) (v := (nI 0)) dX2_hasCells_34 (by decide) ?_
          exact k_zreturn (pc := 35) rfl dX2_hasCells_35
        · refine k_iconst (pc := 30) (v := (nI 1)) dX2_hasCells_30 (by decide) ?_
          refine k_goto (pc := 31) 35 dX2_hasCells_31 (by decide) ?_
          exact k_zreturn (pc := 35) rfl dX2_hasCells_35
-- TallTales$Sheets.faultOf(IIII)I
theorem ckX2_faultOf : k_Vok yX2_faultOf cX2_faultOf 5 (some .int) 4 := ⟨kwk_X2_faultOf, kwi_X2_faultOf, kwv_X2_faultOf, kwn_X2, by decide, by decide +kernel⟩
abbrev rmX2_faultOf : Room := { frames := 1, cells := 0, slots := 0, locals := 23 }
abbrev YX2_faultOf : k_Y := (rmX2_faultOf, cX2_faultOf, 5, RX2, (some .int))
noncomputable def fX2_faultOf (σ : k_S) (x1 x2 x3 x4 : Int32) : Option (Int32 × k_S) := k_ob (fX2_hasRow σ x1) fun r1 σ2 => (if r1 = 0 then some ((nI 1), σ2) else k_gd (x1) 4 ((if σ2.2 2 (Int32.toNatClampNeg (x1)) = x2 then (if x4 < 0 then some ((nI 4), σ2) else k_ob (fX2_hasCells σ2 x1 x3 x4) fun r3 σ4 => (if r3 = 0 then some ((nI 3), σ4) else some ((nI 0), σ4))) else some ((nI 2), σ2))))
set_option maxRecDepth 100000 in
set_option maxHeartbeats 4000000 in
theorem kX2_faultOf {D : va_G} {cI : ClassId} {q : Nat → Nat} {σ : k_S} {x1 x2 x3 x4 : Int32} {r : Int32} {τ : k_S} (h : fX2_faultOf σ x1 x2 x3 x4 = some (r, τ)) : k_Ct k_ei yX2_faultOf cX2_faultOf 5 (some .int) rmX2_faultOf (cT cI q) D cI [.ref (q 1), .int x1, .int x2, .int x3, .int x4] σ r τ := by
  refine k_met (Y := YX2_faultOf) (cT_same _ _) (by decide) rfl (Nat.le_of_ble_eq_true rfl) (List.forall_mem_cons.mpr ⟨rfl, List.forall_mem_cons.mpr ⟨rfl, List.forall_mem_cons.mpr ⟨rfl, List.forall_mem_cons.mpr ⟨rfl, List.forall_mem_cons.mpr ⟨rfl, fun _ h => absurd h List.not_mem_nil⟩⟩⟩⟩⟩) (fun X hD hI => ?_) h
  subst hD hI
  show KO X YX2_faultOf (cT (k_I X) q) 0 0 (k_Q k_ei X (cT (k_I X) q)) 0 [some (.ref (q 1)), some (.int x1), some (.int x2), some (.int x3), some (.int x4)] [] σ _
  unfold fX2_faultOf
  refine k_aload_n (pc := 0) dX2_faultOf_0 rfl ?_
  refine k_iload_n (pc := 1) dX2_faultOf_1 rfl ?_
  refine k_vi1 (pc := 2) (cT_same _ _) ckX2_hasRow kwm_X2_27 cT_rv1 ⟨rfl, rfl⟩ ⟨Nat.le_of_ble_eq_true rfl, Nat.le_of_ble_eq_true rfl⟩ ⟨Nat.zero_le _, Nat.zero_le _⟩ (Nat.le_of_ble_eq_true rfl) dX2_faultOf_2 (fun _ _ hf => kX2_hasRow hf) (fun r1 σ2 => ?_)
  refine k_if_ne (pc := 5) 10 dX2_faultOf_5 (by decide) ?_ ?_
  · refine k_aload_n (pc := 10) dX2_faultOf_10 rfl ?_
    refine k_gTX2_sorts (pc := 11) kwf_X2_15 rfl dX2_faultOf_11 ?_
    refine k_iload_n (pc := 14) dX2_faultOf_14 rfl ?_
    refine k_lT9 (pc := 15) dX2_faultOf_15 ?_
    refine k_iload_n (pc := 16) dX2_faultOf_16 rfl ?_
    refine k_icmp_eq (pc := 17) 22 dX2_faultOf_17 (by decide) ?_ ?_
    · refine k_iload (pc := 22) dX2_faultOf_22 rfl ?_
      refine k_if_ge (pc := 24) 29 dX2_faultOf_24 (by decide) ?_ ?_
      · refine k_aload_n (pc := 29) dX2_faultOf_29 rfl ?_
        refine k_iload_n (pc := 30) dX2_faultOf_30 rfl ?_
        refine k_iload_n (pc := 31) dX2_faultOf_31 rfl ?_
        refine k_iload (pc := 32) dX2_faultOf_32 rfl ?_
        refine k_vi3 (pc := 34) (cT_same _ _) ckX2_hasCells kwm_X2_31 cT_rv1 ⟨rfl, rfl⟩ ⟨Nat.le_of_ble_eq_true rfl, Nat.le_of_ble_eq_true rfl⟩ ⟨Nat.zero_le _, Nat.zero_le _⟩ (Nat.le_of_ble_eq_true rfl) dX2_faultOf_34 (fun _ _ hf => kX2_hasCells hf) (fun r3 σ4 => ?_)
        refine k_if_eq (pc := 37) 44 dX2_faultOf_37 (by decide) ?_ ?_
        · refine k_iconst (pc := 44) (v := (nI 3)) dX2_faultOf_44 (by decide) ?_
          exact k_ireturn (pc := 45) rfl dX2_faultOf_45
        · refine k_iconst (pc := 40) (v := (nI 0)) dX2_faultOf_40 (by decide) ?_
          refine k_goto (pc := 41) 45 dX2_faultOf_41 (by decide) ?_
          exact k_ireturn (pc := 45) rfl dX2_faultOf_45
      · refine k_iconst (pc := 27) (v := (nI 4)) dX2_faultOf_27 (by decide) ?_
        exact k_ireturn (pc := 28) rfl dX2_faultOf_28
    · refine k_iconst (pc := 20) (v := (nI 2)) dX2_faultOf_20 (by decide) ?_
      exact k_ireturn (pc := 21) rfl dX2_faultOf_21
  · refine k_iconst (pc := 8) (v := (nI 1)) dX2_faultOf_8 (by decide) ?_
    exact k_ireturn (pc := 9) rfl dX2_faultOf_9
-- TallTales.faulty(I)I
theorem ckX6_faulty : k_Vok yX6_faulty cX6_faulty 2 (some .int) 1 := ⟨kwk_X6_faulty, kwi_X6_faulty, kwv_X6_faulty, kwn_X6, by decide, by decide +kernel⟩
abbrev rmX6_faulty : Room := { frames := 0, cells := 0, slots := 0, locals := 0 }
abbrev YX6_faulty : k_Y := (rmX6_faulty, cX6_faulty, 2, RX6, (some .int))
noncomputable def fX6_faulty (σ : k_S) (x1 : Int32) : Option (Int32 × k_S) := k_bn (k_sf σ 1 (x1)) fun σ1 => some (((k_ng 10) - x1), σ1)
set_option maxRecDepth 100000 in
set_option maxHeartbeats 4000000 in
theorem kX6_faulty {D : va_G} {cI : ClassId} {q : Nat → Nat} {σ : k_S} {x1 : Int32} {r : Int32} {τ : k_S} (h : fX6_faulty σ x1 = some (r, τ)) : k_Ct k_ei yX6_faulty cX6_faulty 2 (some .int) rmX6_faulty (cT cI q) D cI [.ref (q 0), .int x1] σ r τ := by
  refine k_met (Y := YX6_faulty) (cT_same _ _) (by decide) rfl (Nat.le_of_ble_eq_true rfl) (List.forall_mem_cons.mpr ⟨rfl, List.forall_mem_cons.mpr ⟨rfl, fun _ h => absurd h List.not_mem_nil⟩⟩) (fun X hD hI => ?_) h
  subst hD hI
  show KO X YX6_faulty (cT (k_I X) q) 0 0 (k_Q k_ei X (cT (k_I X) q)) 0 [some (.ref (q 0)), some (.int x1)] [] σ _
  unfold fX6_faulty
  refine k_aload_n (pc := 0) dX6_faulty_0 rfl ?_
  refine k_iload_n (pc := 1) dX6_faulty_1 rfl ?_
  refine k_pTX6_fault (pc := 2) kwf_X6_61 rfl dX6_faulty_2 (fun σ1 => ?_)
  refine k_bipush (pc := 5) (v := (k_ng 10)) dX6_faulty_5 (by decide) ?_
  refine k_iload_n (pc := 7) dX6_faulty_7 rfl ?_
  refine k_isub (pc := 8) dX6_faulty_8 ?_
  exact k_ireturn (pc := 9) rfl dX6_faulty_9
-- TallTales$Sheets.take(III[I)V
theorem ckX2_take : k_Vok yX2_take cX2_take 5 none 4 := ⟨kwk_X2_take, kwi_X2_take, kwv_X2_take, kwn_X2, by decide, by decide +kernel⟩
abbrev rmX2_take_a11 : Room := { frames := 1, cells := 0, slots := 0, locals := 48 }
abbrev YX2_take_a11 : k_Y := (rmX2_take_a11, cX2_take, 5, RX2, none)
noncomputable def fX2_take_a11 (σ : k_S) (x1 x2 x3 : Int32) : Option (Unit × k_S) := k_gc (((x1 * (nI 60)) + x2)) ((nI 0)) (x3) 240 60 (k_bn (k_sc σ 1 4 (((x1 * (nI 60)) + x2)) ((nI 0)) (x3)) fun σ1 => some ((), σ1))
set_option maxRecDepth 100000 in
set_option maxHeartbeats 4000000 in
theorem kX2_take_a11 {D : va_G} {cI : ClassId} {q : Nat → Nat} {σ : k_S} {x1 x2 x3 : Int32} {r : Unit} {τ : k_S} (h : fX2_take_a11 σ x1 x2 x3 = some (r, τ)) : k_Ct k_ev yX2_take cX2_take 5 none rmX2_take_a11 (cT cI q) D cI [.ref (q 1), .int x1, .int x2, .int x3, .ref (q 11)] σ r τ := by
  refine k_met (Y := YX2_take_a11) (cT_same _ _) (by decide) rfl (Nat.le_of_ble_eq_true rfl) (List.forall_mem_cons.mpr ⟨rfl, List.forall_mem_cons.mpr ⟨rfl, List.forall_mem_cons.mpr ⟨rfl, List.forall_mem_cons.mpr ⟨rfl, List.forall_mem_cons.mpr ⟨rfl, fun _ h => absurd h List.not_mem_nil⟩⟩⟩⟩⟩) (fun X hD hI => ?_) h
  subst hD hI
  show KO X YX2_take_a11 (cT (k_I X) q) 0 0 (k_Q k_ev X (cT (k_I X) q)) 0 [some (.ref (q 1)), some (.int x1), some (.int x2), some (.int x3), some (.ref (q 11))] [] σ _
  unfold fX2_take_a11
  refine k_aload_n (pc := 0) dX2_take_0 rfl ?_
  refine k_gTX2_cells (pc := 1) kwf_X2_9 rfl dX2_take_1 ?_
  refine k_iload_n (pc := 4) dX2_take_4 rfl ?_
  refine k_bipush (pc := 5) (v := (nI 60)) dX2_take_5 (by decide) ?_
  refine k_imul (pc := 7) dX2_take_7 ?_
  refine k_iload_n (pc := 8) dX2_take_8 rfl ?_
  refine k_iadd (pc := 9) dX2_take_9 ?_
  refine k_aload (pc := 10) dX2_take_10 rfl ?_
  refine k_iconst (pc := 12) (v := (nI 0)) dX2_take_12 (by decide) ?_
  refine k_iload_n (pc := 13) dX2_take_13 rfl ?_
  refine k_cT_8_11 (pc := 14) kwm_X2_38 ⟨Nat.le_of_ble_eq_true rfl, Nat.le_of_ble_eq_true rfl⟩ dX2_take_14 (fun σ1 => ?_)
  exact k_return (pc := 17) rfl dX2_take_17
-- TallTales$Text.isDigit(I)Z
theorem ckX4_isDigit : k_Sok yX4_isDigit cX4_isDigit 1 (some .boolean) 1 := ⟨kwk_X4_isDigit, kws_X4_isDigit, kwn_X4, by decide, by decide +kernel⟩
abbrev rmX4_isDigit : Room := { frames := 0, cells := 0, slots := 0, locals := 0 }
abbrev YX4_isDigit : k_Y := (rmX4_isDigit, cX4_isDigit, 1, RX4, (some .boolean))
noncomputable def fX4_isDigit (σ : k_S) (x0 : Int32) : Option (Int32 × k_S) := (if x0 < (nI 48) then k_z ((nI 0)) (some ((nI 0), σ)) else (if (nI 57) < x0 then k_z ((nI 0)) (some ((nI 0), σ)) else k_z ((nI 1)) (some ((nI 1), σ))))
set_option maxRecDepth 100000 in
set_option maxHeartbeats 4000000 in
theorem kX4_isDigit {D : va_G} {cI : ClassId} {q : Nat → Nat} {σ : k_S} {x0 : Int32} {r : Int32} {τ : k_S} (h : fX4_isDigit σ x0 = some (r, τ)) : k_Ct k_ei yX4_isDigit cX4_isDigit 1 (some .boolean) rmX4_isDigit (cT cI q) D cI [.int x0] σ r τ := by
  refine k_met (Y := YX4_isDigit) (cT_same _ _) (by decide) rfl (Nat.le_of_ble_eq_true rfl) (List.forall_mem_cons.mpr ⟨rfl, fun _ h => absurd h List.not_mem_nil⟩) (fun X hD hI => ?_) h
  subst hD hI
  show KO X YX4_isDigit (cT (k_I X) q) 0 0 (k_Q k_ei X (cT (k_I X) q)) 0 [some (.int x0)] [] σ _
  unfold fX4_isDigit
  refine k_iload_n (pc := 0) dX4_isDigit_0 rfl ?_
  refine k_bipush (pc := 1) (v := (nI 48)) dX4_isDigit_1 (by decide) ?_
  refine k_icmp_lt (pc := 3) 16 dX4_isDigit_3 (by decide) ?_ ?_
  · refine k_iconst (pc := 16) (v := (nI 0)) dX4_isDigit_16 (by decide) ?_
    exact k_zreturn (pc := 17) rfl dX4_isDigit_17
  · refine k_iload_n (pc := 6) dX4_isDigit_6 rfl ?_
    refine k_bipush (pc := 7) (v := (nI 57)) dX4_isDigit_7 (by decide) ?_
    refine k_icmp_gt (pc := 9) 16 dX4_isDigit_9 (by decide) ?_ ?_
    · refine k_iconst (pc := 16) (v := (nI 0)) dX4_isDigit_16 (by decide) ?_
      exact k_zreturn (pc := 17) rfl dX4_isDigit_17
    · refine k_iconst (pc := 12) (v := (nI 1)) dX4_isDigit_12 (by decide) ?_
      refine k_goto (pc := 13) 17 dX4_isDigit_13 (by decide) ?_
      exact k_zreturn (pc := 17) rfl dX4_isDigit_17
-- TallTales$Text.goesOn(I)Z
theorem ckX4_goesOn : k_Vok yX4_goesOn cX4_goesOn 3 (some .boolean) 1 := ⟨kwk_X4_goesOn, kwi_X4_goesOn, kwv_X4_goesOn, kwn_X4, by decide, by decide +kernel⟩
abbrev rmX4_goesOn : Room := { frames := 1, cells := 0, slots := 0, locals := 20 }
abbrev YX4_goesOn : k_Y := (rmX4_goesOn, cX4_goesOn, 3, RX4, (some .boolean))
noncomputable def fX4_goesOn_c116 (σ : k_S) : Option (Int32 × k_S) := k_z ((nI 1)) (some ((nI 1), σ))
set_option maxRecDepth 100000 in
set_option maxHeartbeats 4000000 in
theorem kX4_goesOn_c116 {X : k_C} {q : Nat → Nat} (σ : k_S) : KO X YX4_goesOn (cT (k_I X) q) 0 0 (k_Q k_ei X (cT (k_I X) q)) 116 [some (.ref (q 2)), none, none] [] σ (fX4_goesOn_c116 σ) := by
  unfold fX4_goesOn_c116
  refine k_iconst (pc := 116) (v := (nI 1)) dX4_goesOn_116 (by decide) ?_
  refine k_goto (pc := 117) 121 dX4_goesOn_117 (by decide) ?_
  exact k_zreturn (pc := 121) rfl dX4_goesOn_121
noncomputable def fX4_goesOn_c180 (σ : k_S) : Option (Int32 × k_S) := k_z ((nI 1)) (some ((nI 1), σ))
set_option maxRecDepth 100000 in
set_option maxHeartbeats 4000000 in
theorem kX4_goesOn_c180 {X : k_C} {q : Nat → Nat} (σ : k_S) : KO X YX4_goesOn (cT (k_I X) q) 0 0 (k_Q k_ei X (cT (k_I X) q)) 180 [some (.ref (q 2)), none, none] [] σ (fX4_goesOn_c180 σ) := by
  unfold fX4_goesOn_c180
  refine k_iconst (pc := 180) (v := (nI 1)) dX4_goesOn_180 (by decide) ?_
  refine k_goto (pc := 181) 185 dX4_goesOn_181 (by decide) ?_
  exact k_zreturn (pc := 185) rfl dX4_goesOn_185
noncomputable def fX4_goesOn (σ : k_S) (x1 : Int32) : Option (Int32 × k_S) := k_gd (x1) 60 (k_bn (σ.2 4 (Int32.toNatClampNeg (x1))) fun v1 => (if x1 = 0 then (if v1 = (nI 105) then k_z ((nI 1)) (some ((nI 1), σ)) else k_z ((nI 0)) (some ((nI 0), σ))) else (if x1 = (nI 1) then (if v1 < (nI 50) then k_z ((nI 0)) (some ((nI 0), σ)) else (if (nI 53) < v1 then k_z ((nI 0)) (some ((nI 0), σ)) else k_z ((nI 1)) (some ((nI 1), σ)))) else (if ((x1 - (nI 2)) - (x1 - (nI 2)) / (nI 5) * (nI 5)) = (nI 0) then (if v1 = (nI 59) then (if x1 < (nI 52) then k_z ((nI 1)) (some ((nI 1), σ)) else k_z ((nI 0)) (some ((nI 0), σ))) else k_z ((nI 0)) (some ((nI 0), σ))) else (if ((x1 - (nI 2)) - (x1 - (nI 2)) / (nI 5) * (nI 5)) = (nI 1) then (if v1 = (nI 116) then fX4_goesOn_c116 σ else (if v1 = (nI 103) then fX4_goesOn_c116 σ else (if v1 = (nI 119) then fX4_goesOn_c116 σ else k_z ((nI 0)) (some ((nI 0), σ))))) else (if ((x1 - (nI 2)) - (x1 - (nI 2)) / (nI 5) * (nI 5)) = (nI 2) then (if v1 < (nI 48) then k_z ((nI 0)) (some ((nI 0), σ)) else k_gd ((nI 1)) 60 ((if v1 < σ.2 4 (Int32.toNatClampNeg ((nI 1))) then k_z ((nI 1)) (some ((nI 1), σ)) else k_z ((nI 0)) (some ((nI 0), σ))))) else (if ((x1 - (nI 2)) - (x1 - (nI 2)) / (nI 5) * (nI 5)) = (nI 3) then k_ob (fX4_isDigit σ v1) fun r3 σ4 => (if r3 = 0 then k_z ((nI 0)) (some ((nI 0), σ4)) else (if v1 = (nI 48) then (if (x1 + (nI 1)) < σ4.1 2 then k_gd ((x1 + (nI 1))) 60 ((if σ4.2 4 (Int32.toNatClampNeg ((x1 + (nI 1)))) = (nI 48) then k_z ((nI 0)) (some ((nI 0), σ4)) else fX4_goesOn_c180 σ4)) else fX4_goesOn_c180 σ4) else fX4_goesOn_c180 σ4)) else k_ob (fX4_isDigit σ v1) fun r5 σ6 => k_z (r5) (some (r5, σ6)))))))))
set_option maxRecDepth 100000 in
set_option maxHeartbeats 4000000 in
theorem kX4_goesOn {D : va_G} {cI : ClassId} {q : Nat → Nat} {σ : k_S} {x1 : Int32} {r : Int32} {τ : k_S} (h : fX4_goesOn σ x1 = some (r, τ)) : k_Ct k_ei yX4_goesOn cX4_goesOn 3 (some .boolean) rmX4_goesOn (cT cI q) D cI [.ref (q 2), .int x1] σ r τ := by
  refine k_met (Y := YX4_goesOn) (cT_same _ _) (by decide) rfl (Nat.le_of_ble_eq_true rfl) (List.forall_mem_cons.mpr ⟨rfl, List.forall_mem_cons.mpr ⟨rfl, fun _ h => absurd h List.not_mem_nil⟩⟩) (fun X hD hI => ?_) h
  subst hD hI
  show KO X YX4_goesOn (cT (k_I X) q) 0 0 (k_Q k_ei X (cT (k_I X) q)) 0 [some (.ref (q 2)), some (.int x1), none] [] σ _
  unfold fX4_goesOn
  refine k_aload_n (pc := 0) dX4_goesOn_0 rfl ?_
  refine k_gTX4_codes (pc := 1) kwf_X4_9 rfl dX4_goesOn_1 ?_
  refine k_iload_n (pc := 4) dX4_goesOn_4 rfl ?_
  refine k_lT11 (pc := 5) dX4_goesOn_5 ?_
  refine k_ist2 (pc := 6) dX4_goesOn_6 (Nat.le_of_ble_eq_true rfl) (fun v1 => ?_)
  refine k_iload_n (pc := 7) dX4_goesOn_7 rfl ?_
  refine k_if_ne (pc := 8) 23 dX4_goesOn_8 (by decide) ?_ ?_
  · refine k_iload_n (pc := 23) dX4_goesOn_23 rfl ?_
    refine k_iconst (pc := 24) (v := (nI 1)) dX4_goesOn_24 (by decide) ?_
    refine k_icmp_ne (pc := 25) 46 dX4_goesOn_25 (by decide) ?_ ?_
    · refine k_iload_n (pc := 46) dX4_goesOn_46 rfl ?_
      refine k_iconst (pc := 47) (v := (nI 2)) dX4_goesOn_47 (by decide) ?_
      refine k_isub (pc := 48) dX4_goesOn_48 ?_
      refine k_iconst (pc := 49) (v := (nI 5)) dX4_goesOn_49 (by decide) ?_
      refine k_irem (pc := 50) dX4_goesOn_50 (by decide) ?_
      refine KO.ite (c := ((x1 - (nI 2)) - (x1 - (nI 2)) / (nI 5) * (nI 5)) = (nI 0)) (fun hs2_0 => ?_) (fun hs2_0 => ?_)
      · refine k_tableIn (off := 29) (pc := 51) 80 dX4_goesOn_51 hs2_0 (by decide) (by decide) (by decide) (by decide) ?_
        refine k_iload_n (pc := 80) dX4_goesOn_80 rfl ?_
        refine k_bipush (pc := 81) (v := (nI 59)) dX4_goesOn_81 (by decide) ?_
        refine k_icmp_ne (pc := 83) 96 dX4_goesOn_83 (by decide) ?_ ?_
        · refine k_iconst (pc := 96) (v := (nI 0)) dX4_goesOn_96 (by decide) ?_
          exact k_zreturn (pc := 97) rfl dX4_goesOn_97
        · refine k_iload_n (pc := 86) dX4_goesOn_86 rfl ?_
          refine k_bipush (pc := 87) (v := (nI 52)) dX4_goesOn_87 (by decide) ?_
          refine k_icmp_ge (pc := 89) 96 dX4_goesOn_89 (by decide) ?_ ?_
          · refine k_iconst (pc := 96) (v := (nI 0)) dX4_goesOn_96 (by decide) ?_
            exact k_zreturn (pc := 97) rfl dX4_goesOn_97
          · refine k_iconst (pc := 92) (v := (nI 1)) dX4_goesOn_92 (by decide) ?_
            refine k_goto (pc := 93) 97 dX4_goesOn_93 (by decide) ?_
            exact k_zreturn (pc := 97) rfl dX4_goesOn_97
      · refine KO.ite (c := ((x1 - (nI 2)) - (x1 - (nI 2)) / (nI 5) * (nI 5)) = (nI 1)) (fun hs2_1 => ?_) (fun hs2_1 => ?_)
        · refine k_tableIn (off := 47) (pc := 51) 98 dX4_goesOn_51 hs2_1 (by decide) (by decide) (by decide) (by decide) ?_
          refine k_iload_n (pc := 98) dX4_goesOn_98 rfl ?_
          refine k_bipush (pc := 99) (v := (nI 116)) dX4_goesOn_99 (by decide) ?_
          refine k_icmp_eq (pc := 101) 116 dX4_goesOn_101 (by decide) ?_ ?_
          · refine k_fg1 ?_
            refine k_fg2 ?_
            exact kX4_goesOn_c116 σ
          · refine k_iload_n (pc := 104) dX4_goesOn_104 rfl ?_
            refine k_bipush (pc := 105) (v := (nI 103)) dX4_goesOn_105 (by decide) ?_
            refine k_icmp_eq (pc := 107) 116 dX4_goesOn_107 (by decide) ?_ ?_
            · refine k_fg1 ?_
              refine k_fg2 ?_
              exact kX4_goesOn_c116 σ
            · refine k_iload_n (pc := 110) dX4_goesOn_110 rfl ?_
              refine k_bipush (pc := 111) (v := (nI 119)) dX4_goesOn_111 (by decide) ?_
              refine k_icmp_ne (pc := 113) 120 dX4_goesOn_113 (by decide) ?_ ?_
              · refine k_iconst (pc := 120) (v := (nI 0)) dX4_goesOn_120 (by decide) ?_
                exact k_zreturn (pc := 121) rfl dX4_goesOn_121
              · refine k_fg1 ?_
                refine k_fg2 ?_
                exact kX4_goesOn_c116 σ
        · refine KO.ite (c := ((x1 - (nI 2)) - (x1 - (nI 2)) / (nI 5) * (nI 5)) = (nI 2)) (fun hs2_2 => ?_) (fun hs2_2 => ?_)
          · refine k_tableIn (off := 71) (pc := 51) 122 dX4_goesOn_51 hs2_2 (by decide) (by decide) (by decide) (by decide) ?_
            refine k_iload_n (pc := 122) dX4_goesOn_122 rfl ?_
            refine k_bipush (pc := 123) (v := (nI 48)) dX4_goesOn_123 (by decide) ?_
            refine k_icmp_lt (pc := 125) 142 dX4_goesOn_125 (by decide) ?_ ?_
            · refine k_iconst (pc := 142) (v := (nI 0)) dX4_goesOn_142 (by decide) ?_
              exact k_zreturn (pc := 143) rfl dX4_goesOn_143
            · refine k_iload_n (pc := 128) dX4_goesOn_128 rfl ?_
              refine k_aload_n (pc := 129) dX4_goesOn_129 rfl ?_
              refine k_gTX4_codes (pc := 130) kwf_X4_9 rfl dX4_goesOn_130 ?_
              refine k_iconst (pc := 133) (v := (nI 1)) dX4_goesOn_133 (by decide) ?_
              refine k_lT11 (pc := 134) dX4_goesOn_134 ?_
              refine k_icmp_ge (pc := 135) 142 dX4_goesOn_135 (by decide) ?_ ?_
              · refine k_iconst (pc := 142) (v := (nI 0)) dX4_goesOn_142 (by decide) ?_
                exact k_zreturn (pc := 143) rfl dX4_goesOn_143
              · refine k_iconst (pc := 138) (v := (nI 1)) dX4_goesOn_138 (by decide) ?_
                refine k_goto (pc := 139) 143 dX4_goesOn_139 (by decide) ?_
                exact k_zreturn (pc := 143) rfl dX4_goesOn_143
          · refine KO.ite (c := ((x1 - (nI 2)) - (x1 - (nI 2)) / (nI 5) * (nI 5)) = (nI 3)) (fun hs2_3 => ?_) (fun hs2_3 => ?_)
            · refine k_tableIn (off := 93) (pc := 51) 144 dX4_goesOn_51 hs2_3 (by decide) (by decide) (by decide) (by decide) ?_
              refine k_iload_n (pc := 144) dX4_goesOn_144 rfl ?_
              refine k_si1 (pc := 145) (cT_same _ _) ckX4_isDigit kwm_X4_23 ⟨rfl, rfl⟩ ⟨Nat.le_of_ble_eq_true rfl, Nat.le_of_ble_eq_true rfl⟩ ⟨Nat.zero_le _, Nat.zero_le _⟩ (Nat.le_of_ble_eq_true rfl) dX4_goesOn_145 (fun _ _ hf => kX4_isDigit hf) (fun r3 σ4 => ?_)
              refine k_if_eq (pc := 148) 184 dX4_goesOn_148 (by decide) ?_ ?_
              · refine k_iconst (pc := 184) (v := (nI 0)) dX4_goesOn_184 (by decide) ?_
                exact k_zreturn (pc := 185) rfl dX4_goesOn_185
              · refine k_iload_n (pc := 151) dX4_goesOn_151 rfl ?_
                refine k_bipush (pc := 152) (v := (nI 48)) dX4_goesOn_152 (by decide) ?_
                refine k_icmp_ne (pc := 154) 180 dX4_goesOn_154 (by decide) ?_ ?_
                · refine k_fg1 ?_
                  refine k_fg2 ?_
                  exact kX4_goesOn_c180 σ4
                · refine k_iload_n (pc := 157) dX4_goesOn_157 rfl ?_
                  refine k_iconst (pc := 158) (v := (nI 1)) dX4_goesOn_158 (by decide) ?_
                  refine k_iadd (pc := 159) dX4_goesOn_159 ?_
                  refine k_aload_n (pc := 160) dX4_goesOn_160 rfl ?_
                  refine k_gTX4_length (pc := 161) kwf_X4_15 rfl dX4_goesOn_161 ?_
                  refine k_icmp_ge (pc := 164) 180 dX4_goesOn_164 (by decide) ?_ ?_
                  · refine k_fg1 ?_
                    refine k_fg2 ?_
                    exact kX4_goesOn_c180 σ4
                  · refine k_aload_n (pc := 167) dX4_goesOn_167 rfl ?_
                    refine k_gTX4_codes (pc := 168) kwf_X4_9 rfl dX4_goesOn_168 ?_
                    refine k_iload_n (pc := 171) dX4_goesOn_171 rfl ?_
                    refine k_iconst (pc := 172) (v := (nI 1)) dX4_goesOn_172 (by decide) ?_
                    refine k_iadd (pc := 173) dX4_goesOn_173 ?_
                    refine k_lT11 (pc := 174) dX4_goesOn_174 ?_
                    refine k_bipush (pc := 175) (v := (nI 48)) dX4_goesOn_175 (by decide) ?_
                    refine k_icmp_eq (pc := 177) 184 dX4_goesOn_177 (by decide) ?_ ?_
                    · refine k_iconst (pc := 184) (v := (nI 0)) dX4_goesOn_184 (by decide) ?_
                      exact k_zreturn (pc := 185) rfl dX4_goesOn_185
                    · refine k_fg1 ?_
                      refine k_fg2 ?_
                      exact kX4_goesOn_c180 σ4
            · refine k_tableOut (pc := 51) 186 dX4_goesOn_51 (by have g0 := lv_neT (a := 0) hs2_0 (by decide); have g1 := lv_neT (a := 1) hs2_1 (by decide); have g2 := lv_neT (a := 2) hs2_2 (by decide); have g3 := lv_neT (a := 3) hs2_3 (by decide); omega) (by decide) ?_
              refine k_iload_n (pc := 186) dX4_goesOn_186 rfl ?_
              refine k_si1 (pc := 187) (cT_same _ _) ckX4_isDigit kwm_X4_23 ⟨rfl, rfl⟩ ⟨Nat.le_of_ble_eq_true rfl, Nat.le_of_ble_eq_true rfl⟩ ⟨Nat.zero_le _, Nat.zero_le _⟩ (Nat.le_of_ble_eq_true rfl) dX4_goesOn_187 (fun _ _ hf => kX4_isDigit hf) (fun r5 σ6 => ?_)
              exact k_zreturn (pc := 190) rfl dX4_goesOn_190
    · refine k_iload_n (pc := 28) dX4_goesOn_28 rfl ?_
      refine k_bipush (pc := 29) (v := (nI 50)) dX4_goesOn_29 (by decide) ?_
      refine k_icmp_lt (pc := 31) 44 dX4_goesOn_31 (by decide) ?_ ?_
      · refine k_iconst (pc := 44) (v := (nI 0)) dX4_goesOn_44 (by decide) ?_
        exact k_zreturn (pc := 45) rfl dX4_goesOn_45
      · refine k_iload_n (pc := 34) dX4_goesOn_34 rfl ?_
        refine k_bipush (pc := 35) (v := (nI 53)) dX4_goesOn_35 (by decide) ?_
        refine k_icmp_gt (pc := 37) 44 dX4_goesOn_37 (by decide) ?_ ?_
        · refine k_iconst (pc := 44) (v := (nI 0)) dX4_goesOn_44 (by decide) ?_
          exact k_zreturn (pc := 45) rfl dX4_goesOn_45
        · refine k_iconst (pc := 40) (v := (nI 1)) dX4_goesOn_40 (by decide) ?_
          refine k_goto (pc := 41) 45 dX4_goesOn_41 (by decide) ?_
          exact k_zreturn (pc := 45) rfl dX4_goesOn_45
  · refine k_iload_n (pc := 11) dX4_goesOn_11 rfl ?_
    refine k_bipush (pc := 12) (v := (nI 105)) dX4_goesOn_12 (by decide) ?_
    refine k_icmp_ne (pc := 14) 21 dX4_goesOn_14 (by decide) ?_ ?_
    · refine k_iconst (pc := 21) (v := (nI 0)) dX4_goesOn_21 (by decide) ?_
      exact k_zreturn (pc := 22) rfl dX4_goesOn_22
    · refine k_iconst (pc := 17) (v := (nI 1)) dX4_goesOn_17 (by decide) ?_
      refine k_goto (pc := 18) 22 dX4_goesOn_18 (by decide) ?_
      exact k_zreturn (pc := 22) rfl dX4_goesOn_22
-- TallTales$Text.firstFault()I
theorem ckX4_firstFault : k_Vok yX4_firstFault cX4_firstFault 2 (some .int) 0 := ⟨kwk_X4_firstFault, kwi_X4_firstFault, kwv_X4_firstFault, kwn_X4, by decide, by decide +kernel⟩
abbrev rmX4_firstFault : Room := { frames := 2, cells := 0, slots := 0, locals := 42 }
abbrev YX4_firstFault : k_Y := (rmX4_firstFault, cX4_firstFault, 2, RX4, (some .int))
noncomputable def fX4_firstFault_c50 (σ : k_S) (s0 : Int32) : Option (Int32 × k_S) := k_bn (s0) fun v1 => (if v1 = 0 then some (σ.1 2, σ) else some ((k_ng 1), σ))
set_option maxRecDepth 100000 in
set_option maxHeartbeats 4000000 in
theorem kX4_firstFault_c50 {X : k_C} {q : Nat → Nat} (σ : k_S) (s0 : Int32) : KO X YX4_firstFault (cT (k_I X) q) 0 0 (k_Q k_ei X (cT (k_I X) q)) 50 [some (.ref (q 2)), none] [.int s0] σ (fX4_firstFault_c50 σ s0) := by
  unfold fX4_firstFault_c50
  refine k_ist1 (pc := 50) dX4_firstFault_50 (Nat.le_of_ble_eq_true rfl) (fun v1 => ?_)
  refine k_iload_n (pc := 51) dX4_firstFault_51 rfl ?_
  refine k_if_eq (pc := 52) 59 dX4_firstFault_52 (by decide) ?_ ?_
  · refine k_aload_n (pc := 59) dX4_firstFault_59 rfl ?_
    refine k_gTX4_length (pc := 60) kwf_X4_15 rfl dX4_firstFault_60 ?_
    exact k_ireturn (pc := 63) rfl dX4_firstFault_63
  · refine k_iconst (pc := 55) (v := (k_ng 1)) dX4_firstFault_55 (by decide) ?_
    refine k_goto (pc := 56) 63 dX4_firstFault_56 (by decide) ?_
    exact k_ireturn (pc := 63) rfl dX4_firstFault_63
noncomputable def fX4_firstFault_c49 (σ : k_S) : Option (Int32 × k_S) := fX4_firstFault_c50 σ ((nI 0))
set_option maxRecDepth 100000 in
set_option maxHeartbeats 4000000 in
theorem kX4_firstFault_c49 {X : k_C} {q : Nat → Nat} (σ : k_S) : KO X YX4_firstFault (cT (k_I X) q) 0 0 (k_Q k_ei X (cT (k_I X) q)) 49 [some (.ref (q 2)), none] [] σ (fX4_firstFault_c49 σ) := by
  unfold fX4_firstFault_c49
  refine k_iconst (pc := 49) (v := (nI 0)) dX4_firstFault_49 (by decide) ?_
  exact kX4_firstFault_c50 σ ((nI 0))
noncomputable def fX4_firstFault_c2 : Nat → k_S → Int32 → Option (Int32 × k_S)
  | 0, _, _ => none
  | n + 1, σ, l1 => (if l1 < σ.1 2 then k_ob (fX4_goesOn σ l1) fun r1 σ2 => (if r1 = 0 then some (l1, σ2) else k_bn (l1 + (nI 1)) fun v3 => fX4_firstFault_c2 n σ2 v3) else (if (nI 2) < σ.1 2 then (if ((σ.1 2 - (nI 2)) - (σ.1 2 - (nI 2)) / (nI 5) * (nI 5)) = 0 then fX4_firstFault_c50 σ ((nI 1)) else fX4_firstFault_c49 σ) else fX4_firstFault_c49 σ))
theorem fX4_firstFault_c2_s (n : Nat) (σ : k_S) (l1 : Int32) : fX4_firstFault_c2 (n + 1) σ l1 = (if l1 < σ.1 2 then k_ob (fX4_goesOn σ l1) fun r1 σ2 => (if r1 = 0 then some (l1, σ2) else k_bn (l1 + (nI 1)) fun v3 => fX4_firstFault_c2 n σ2 v3) else (if (nI 2) < σ.1 2 then (if ((σ.1 2 - (nI 2)) - (σ.1 2 - (nI 2)) / (nI 5) * (nI 5)) = 0 then fX4_firstFault_c50 σ ((nI 1)) else fX4_firstFault_c49 σ) else fX4_firstFault_c49 σ)) := rfl
set_option maxRecDepth 100000 in
set_option maxHeartbeats 4000000 in
theorem kX4_firstFault_c2 {X : k_C} {q : Nat → Nat} : ∀ (n : Nat) (σ : k_S) (l1 : Int32), KO X YX4_firstFault (cT (k_I X) q) 0 0 (k_Q k_ei X (cT (k_I X) q)) 2 [some (.ref (q 2)), some (.int l1)] [] σ (fX4_firstFault_c2 n σ l1) := by
  intro n
  induction n with
  | zero => intros; exact KO.nil
  | succ n ih =>
    intro σ l1
    rw [fX4_firstFault_c2_s]
    refine k_iload_n (pc := 2) dX4_firstFault_2 rfl ?_
    refine k_aload_n (pc := 3) dX4_firstFault_3 rfl ?_
    refine k_gTX4_length (pc := 4) kwf_X4_15 rfl dX4_firstFault_4 ?_
    refine k_icmp_ge (pc := 7) 26 dX4_firstFault_7 (by decide) ?_ ?_
    · refine k_aload_n (pc := 26) dX4_firstFault_26 rfl ?_
      refine k_gTX4_length (pc := 27) kwf_X4_15 rfl dX4_firstFault_27 ?_
      refine k_iconst (pc := 30) (v := (nI 2)) dX4_firstFault_30 (by decide) ?_
      refine k_icmp_le (pc := 31) 49 dX4_firstFault_31 (by decide) ?_ ?_
      · refine k_fg1 ?_
        exact kX4_firstFault_c49 σ
      · refine k_aload_n (pc := 34) dX4_firstFault_34 rfl ?_
        refine k_gTX4_length (pc := 35) kwf_X4_15 rfl dX4_firstFault_35 ?_
        refine k_iconst (pc := 38) (v := (nI 2)) dX4_firstFault_38 (by decide) ?_
        refine k_isub (pc := 39) dX4_firstFault_39 ?_
        refine k_iconst (pc := 40) (v := (nI 5)) dX4_firstFault_40 (by decide) ?_
        refine k_irem (pc := 41) dX4_firstFault_41 (by decide) ?_
        refine k_if_ne (pc := 42) 49 dX4_firstFault_42 (by decide) ?_ ?_
        · refine k_fg1 ?_
          exact kX4_firstFault_c49 σ
        · refine k_iconst (pc := 45) (v := (nI 1)) dX4_firstFault_45 (by decide) ?_
          refine k_goto (pc := 46) 50 dX4_firstFault_46 (by decide) ?_
          refine k_fg1 ?_
          exact kX4_firstFault_c50 σ ((nI 1))
    · refine k_aload_n (pc := 10) dX4_firstFault_10 rfl ?_
      refine k_iload_n (pc := 11) dX4_firstFault_11 rfl ?_
      refine k_vi1 (pc := 12) (cT_same _ _) ckX4_goesOn kwm_X4_19 cT_rv2 ⟨rfl, rfl⟩ ⟨Nat.le_of_ble_eq_true rfl, Nat.le_of_ble_eq_true rfl⟩ ⟨Nat.zero_le _, Nat.zero_le _⟩ (Nat.le_of_ble_eq_true rfl) dX4_firstFault_12 (fun _ _ hf => kX4_goesOn hf) (fun r1 σ2 => ?_)
      refine k_if_ne (pc := 15) 20 dX4_firstFault_15 (by decide) ?_ ?_
      · refine k_iinc1 (pc := 20) (w := (nI 1)) dX4_firstFault_20 rfl (by decide) (Nat.le_of_ble_eq_true rfl) (fun v3 => ?_)
        refine k_goto (pc := 23) 2 dX4_firstFault_23 (by decide) ?_
        exact ih σ2 v3
      · refine k_iload_n (pc := 18) dX4_firstFault_18 rfl ?_
        exact k_ireturn (pc := 19) rfl dX4_firstFault_19
noncomputable def fX4_firstFault (σ : k_S) : Option (Int32 × k_S) := k_bn ((nI 0)) fun v1 => fX4_firstFault_c2 k_F σ v1
set_option maxRecDepth 100000 in
set_option maxHeartbeats 4000000 in
theorem kX4_firstFault {D : va_G} {cI : ClassId} {q : Nat → Nat} {σ : k_S} {r : Int32} {τ : k_S} (h : fX4_firstFault σ = some (r, τ)) : k_Ct k_ei yX4_firstFault cX4_firstFault 2 (some .int) rmX4_firstFault (cT cI q) D cI [.ref (q 2)] σ r τ := by
  refine k_met (Y := YX4_firstFault) (cT_same _ _) (by decide) rfl (Nat.le_of_ble_eq_true rfl) (List.forall_mem_cons.mpr ⟨rfl, fun _ h => absurd h List.not_mem_nil⟩) (fun X hD hI => ?_) h
  subst hD hI
  show KO X YX4_firstFault (cT (k_I X) q) 0 0 (k_Q k_ei X (cT (k_I X) q)) 0 [some (.ref (q 2)), none] [] σ _
  unfold fX4_firstFault
  refine k_iconst (pc := 0) (v := (nI 0)) dX4_firstFault_0 (by decide) ?_
  refine k_ist1 (pc := 1) dX4_firstFault_1 (Nat.le_of_ble_eq_true rfl) (fun v1 => ?_)
  exact kX4_firstFault_c2 k_F σ v1
-- TallTales$Text.guests()I
theorem ckX4_guests : k_Vok yX4_guests cX4_guests 1 (some .int) 0 := ⟨kwk_X4_guests, kwi_X4_guests, kwv_X4_guests, kwn_X4, by decide, by decide +kernel⟩
abbrev rmX4_guests : Room := { frames := 0, cells := 0, slots := 0, locals := 0 }
abbrev YX4_guests : k_Y := (rmX4_guests, cX4_guests, 1, RX4, (some .int))
noncomputable def fX4_guests (σ : k_S) : Option (Int32 × k_S) := k_gd ((nI 1)) 60 (some ((σ.2 4 (Int32.toNatClampNeg ((nI 1))) - (nI 48)), σ))
set_option maxRecDepth 100000 in
set_option maxHeartbeats 4000000 in
theorem kX4_guests {D : va_G} {cI : ClassId} {q : Nat → Nat} {σ : k_S} {r : Int32} {τ : k_S} (h : fX4_guests σ = some (r, τ)) : k_Ct k_ei yX4_guests cX4_guests 1 (some .int) rmX4_guests (cT cI q) D cI [.ref (q 2)] σ r τ := by
  refine k_met (Y := YX4_guests) (cT_same _ _) (by decide) rfl (Nat.le_of_ble_eq_true rfl) (List.forall_mem_cons.mpr ⟨rfl, fun _ h => absurd h List.not_mem_nil⟩) (fun X hD hI => ?_) h
  subst hD hI
  show KO X YX4_guests (cT (k_I X) q) 0 0 (k_Q k_ei X (cT (k_I X) q)) 0 [some (.ref (q 2))] [] σ _
  unfold fX4_guests
  refine k_aload_n (pc := 0) dX4_guests_0 rfl ?_
  refine k_gTX4_codes (pc := 1) kwf_X4_9 rfl dX4_guests_1 ?_
  refine k_iconst (pc := 4) (v := (nI 1)) dX4_guests_4 (by decide) ?_
  refine k_lT11 (pc := 5) dX4_guests_5 ?_
  refine k_bipush (pc := 6) (v := (nI 48)) dX4_guests_6 (by decide) ?_
  refine k_isub (pc := 8) dX4_guests_8 ?_
  exact k_ireturn (pc := 9) rfl dX4_guests_9
-- TallTales$Text.tales()I
theorem ckX4_tales : k_Vok yX4_tales cX4_tales 1 (some .int) 0 := ⟨kwk_X4_tales, kwi_X4_tales, kwv_X4_tales, kwn_X4, by decide, by decide +kernel⟩
abbrev rmX4_tales : Room := { frames := 0, cells := 0, slots := 0, locals := 0 }
abbrev YX4_tales : k_Y := (rmX4_tales, cX4_tales, 1, RX4, (some .int))
noncomputable def fX4_tales (σ : k_S) : Option (Int32 × k_S) := some (((σ.1 2 - (nI 2)) / (nI 5)), σ)
set_option maxRecDepth 100000 in
set_option maxHeartbeats 4000000 in
theorem kX4_tales {D : va_G} {cI : ClassId} {q : Nat → Nat} {σ : k_S} {r : Int32} {τ : k_S} (h : fX4_tales σ = some (r, τ)) : k_Ct k_ei yX4_tales cX4_tales 1 (some .int) rmX4_tales (cT cI q) D cI [.ref (q 2)] σ r τ := by
  refine k_met (Y := YX4_tales) (cT_same _ _) (by decide) rfl (Nat.le_of_ble_eq_true rfl) (List.forall_mem_cons.mpr ⟨rfl, fun _ h => absurd h List.not_mem_nil⟩) (fun X hD hI => ?_) h
  subst hD hI
  show KO X YX4_tales (cT (k_I X) q) 0 0 (k_Q k_ei X (cT (k_I X) q)) 0 [some (.ref (q 2))] [] σ _
  unfold fX4_tales
  refine k_aload_n (pc := 0) dX4_tales_0 rfl ?_
  refine k_gTX4_length (pc := 1) kwf_X4_15 rfl dX4_tales_1 ?_
  refine k_iconst (pc := 4) (v := (nI 2)) dX4_tales_4 (by decide) ?_
  refine k_isub (pc := 5) dX4_tales_5 ?_
  refine k_iconst (pc := 6) (v := (nI 5)) dX4_tales_6 (by decide) ?_
  refine k_idiv (pc := 7) dX4_tales_7 (by decide) ?_
  exact k_ireturn (pc := 8) rfl dX4_tales_8
-- TallTales$Text.kindOf(I)I
theorem ckX4_kindOf : k_Vok yX4_kindOf cX4_kindOf 3 (some .int) 1 := ⟨kwk_X4_kindOf, kwi_X4_kindOf, kwv_X4_kindOf, kwn_X4, by decide, by decide +kernel⟩
abbrev rmX4_kindOf : Room := { frames := 0, cells := 0, slots := 0, locals := 0 }
abbrev YX4_kindOf : k_Y := (rmX4_kindOf, cX4_kindOf, 3, RX4, (some .int))
noncomputable def fX4_kindOf (σ : k_S) (x1 : Int32) : Option (Int32 × k_S) := k_gd ((((nI 2) + (x1 * (nI 5))) + (nI 1))) 60 (k_bn (σ.2 4 (Int32.toNatClampNeg ((((nI 2) + (x1 * (nI 5))) + (nI 1))))) fun v1 => (if v1 = (nI 119) then some ((nI 2), σ) else (if v1 = (nI 103) then some ((nI 1), σ) else some ((nI 0), σ))))
set_option maxRecDepth 100000 in
set_option maxHeartbeats 4000000 in
theorem kX4_kindOf {D : va_G} {cI : ClassId} {q : Nat → Nat} {σ : k_S} {x1 : Int32} {r : Int32} {τ : k_S} (h : fX4_kindOf σ x1 = some (r, τ)) : k_Ct k_ei yX4_kindOf cX4_kindOf 3 (some .int) rmX4_kindOf (cT cI q) D cI [.ref (q 2), .int x1] σ r τ := by
  refine k_met (Y := YX4_kindOf) (cT_same _ _) (by decide) rfl (Nat.le_of_ble_eq_true rfl) (List.forall_mem_cons.mpr ⟨rfl, List.forall_mem_cons.mpr ⟨rfl, fun _ h => absurd h List.not_mem_nil⟩⟩) (fun X hD hI => ?_) h
  subst hD hI
  show KO X YX4_kindOf (cT (k_I X) q) 0 0 (k_Q k_ei X (cT (k_I X) q)) 0 [some (.ref (q 2)), some (.int x1), none] [] σ _
  unfold fX4_kindOf
  refine k_aload_n (pc := 0) dX4_kindOf_0 rfl ?_
  refine k_gTX4_codes (pc := 1) kwf_X4_9 rfl dX4_kindOf_1 ?_
  refine k_iconst (pc := 4) (v := (nI 2)) dX4_kindOf_4 (by decide) ?_
  refine k_iload_n (pc := 5) dX4_kindOf_5 rfl ?_
  refine k_iconst (pc := 6) (v := (nI 5)) dX4_kindOf_6 (by decide) ?_
  refine k_imul (pc := 7) dX4_kindOf_7 ?_
  refine k_iadd (pc := 8) dX4_kindOf_8 ?_
  refine k_iconst (pc := 9) (v := (nI 1)) dX4_kindOf_9 (by decide) ?_
  refine k_iadd (pc := 10) dX4_kindOf_10 ?_
  refine k_lT11 (pc := 11) dX4_kindOf_11 ?_
  refine k_ist2 (pc := 12) dX4_kindOf_12 (Nat.le_of_ble_eq_true rfl) (fun v1 => ?_)
  refine k_iload_n (pc := 13) dX4_kindOf_13 rfl ?_
  refine k_bipush (pc := 14) (v := (nI 119)) dX4_kindOf_14 (by decide) ?_
  refine k_icmp_ne (pc := 16) 23 dX4_kindOf_16 (by decide) ?_ ?_
  · refine k_iload_n (pc := 23) dX4_kindOf_23 rfl ?_
    refine k_bipush (pc := 24) (v := (nI 103)) dX4_kindOf_24 (by decide) ?_
    refine k_icmp_ne (pc := 26) 33 dX4_kindOf_26 (by decide) ?_ ?_
    · refine k_iconst (pc := 33) (v := (nI 0)) dX4_kindOf_33 (by decide) ?_
      exact k_ireturn (pc := 34) rfl dX4_kindOf_34
    · refine k_iconst (pc := 29) (v := (nI 1)) dX4_kindOf_29 (by decide) ?_
      refine k_goto (pc := 30) 34 dX4_kindOf_30 (by decide) ?_
      exact k_ireturn (pc := 34) rfl dX4_kindOf_34
  · refine k_iconst (pc := 19) (v := (nI 2)) dX4_kindOf_19 (by decide) ?_
    refine k_goto (pc := 20) 34 dX4_kindOf_20 (by decide) ?_
    exact k_ireturn (pc := 34) rfl dX4_kindOf_34
-- TallTales$Text.ownerOf(I)I
theorem ckX4_ownerOf : k_Vok yX4_ownerOf cX4_ownerOf 2 (some .int) 1 := ⟨kwk_X4_ownerOf, kwi_X4_ownerOf, kwv_X4_ownerOf, kwn_X4, by decide, by decide +kernel⟩
abbrev rmX4_ownerOf : Room := { frames := 0, cells := 0, slots := 0, locals := 0 }
abbrev YX4_ownerOf : k_Y := (rmX4_ownerOf, cX4_ownerOf, 2, RX4, (some .int))
noncomputable def fX4_ownerOf (σ : k_S) (x1 : Int32) : Option (Int32 × k_S) := k_gd ((((nI 2) + (x1 * (nI 5))) + (nI 2))) 60 (some ((σ.2 4 (Int32.toNatClampNeg ((((nI 2) + (x1 * (nI 5))) + (nI 2)))) - (nI 48)), σ))
set_option maxRecDepth 100000 in
set_option maxHeartbeats 4000000 in
theorem kX4_ownerOf {D : va_G} {cI : ClassId} {q : Nat → Nat} {σ : k_S} {x1 : Int32} {r : Int32} {τ : k_S} (h : fX4_ownerOf σ x1 = some (r, τ)) : k_Ct k_ei yX4_ownerOf cX4_ownerOf 2 (some .int) rmX4_ownerOf (cT cI q) D cI [.ref (q 2), .int x1] σ r τ := by
  refine k_met (Y := YX4_ownerOf) (cT_same _ _) (by decide) rfl (Nat.le_of_ble_eq_true rfl) (List.forall_mem_cons.mpr ⟨rfl, List.forall_mem_cons.mpr ⟨rfl, fun _ h => absurd h List.not_mem_nil⟩⟩) (fun X hD hI => ?_) h
  subst hD hI
  show KO X YX4_ownerOf (cT (k_I X) q) 0 0 (k_Q k_ei X (cT (k_I X) q)) 0 [some (.ref (q 2)), some (.int x1)] [] σ _
  unfold fX4_ownerOf
  refine k_aload_n (pc := 0) dX4_ownerOf_0 rfl ?_
  refine k_gTX4_codes (pc := 1) kwf_X4_9 rfl dX4_ownerOf_1 ?_
  refine k_iconst (pc := 4) (v := (nI 2)) dX4_ownerOf_4 (by decide) ?_
  refine k_iload_n (pc := 5) dX4_ownerOf_5 rfl ?_
  refine k_iconst (pc := 6) (v := (nI 5)) dX4_ownerOf_6 (by decide) ?_
  refine k_imul (pc := 7) dX4_ownerOf_7 ?_
  refine k_iadd (pc := 8) dX4_ownerOf_8 ?_
  refine k_iconst (pc := 9) (v := (nI 2)) dX4_ownerOf_9 (by decide) ?_
  refine k_iadd (pc := 10) dX4_ownerOf_10 ?_
  refine k_lT11 (pc := 11) dX4_ownerOf_11 ?_
  refine k_bipush (pc := 12) (v := (nI 48)) dX4_ownerOf_12 (by decide) ?_
  refine k_isub (pc := 14) dX4_ownerOf_14 ?_
  exact k_ireturn (pc := 15) rfl dX4_ownerOf_15
-- TallTales$Text.heightOf(I)I
theorem ckX4_heightOf : k_Vok yX4_heightOf cX4_heightOf 3 (some .int) 1 := ⟨kwk_X4_heightOf, kwi_X4_heightOf, kwv_X4_heightOf, kwn_X4, by decide, by decide +kernel⟩
abbrev rmX4_heightOf : Room := { frames := 0, cells := 0, slots := 0, locals := 0 }
abbrev YX4_heightOf : k_Y := (rmX4_heightOf, cX4_heightOf, 3, RX4, (some .int))
noncomputable def fX4_heightOf (σ : k_S) (x1 : Int32) : Option (Int32 × k_S) := k_bn ((((nI 2) + (x1 * (nI 5))) + (nI 3))) fun v1 => k_gd (v1) 60 (k_gd ((v1 + (nI 1))) 60 (some (((((σ.2 4 (Int32.toNatClampNeg (v1)) - (nI 48)) * (nI 10)) + σ.2 4 (Int32.toNatClampNeg ((v1 + (nI 1))))) - (nI 48)), σ)))
set_option maxRecDepth 100000 in
set_option maxHeartbeats 4000000 in
theorem kX4_heightOf {D : va_G} {cI : ClassId} {q : Nat → Nat} {σ : k_S} {x1 : Int32} {r : Int32} {τ : k_S} (h : fX4_heightOf σ x1 = some (r, τ)) : k_Ct k_ei yX4_heightOf cX4_heightOf 3 (some .int) rmX4_heightOf (cT cI q) D cI [.ref (q 2), .int x1] σ r τ := by
  refine k_met (Y := YX4_heightOf) (cT_same _ _) (by decide) rfl (Nat.le_of_ble_eq_true rfl) (List.forall_mem_cons.mpr ⟨rfl, List.forall_mem_cons.mpr ⟨rfl, fun _ h => absurd h List.not_mem_nil⟩⟩) (fun X hD hI => ?_) h
  subst hD hI
  show KO X YX4_heightOf (cT (k_I X) q) 0 0 (k_Q k_ei X (cT (k_I X) q)) 0 [some (.ref (q 2)), some (.int x1), none] [] σ _
  unfold fX4_heightOf
  refine k_iconst (pc := 0) (v := (nI 2)) dX4_heightOf_0 (by decide) ?_
  refine k_iload_n (pc := 1) dX4_heightOf_1 rfl ?_
  refine k_iconst (pc := 2) (v := (nI 5)) dX4_heightOf_2 (by decide) ?_
  refine k_imul (pc := 3) dX4_heightOf_3 ?_
  refine k_iadd (pc := 4) dX4_heightOf_4 ?_
  refine k_iconst (pc := 5) (v := (nI 3)) dX4_heightOf_5 (by decide) ?_
  refine k_iadd (pc := 6) dX4_heightOf_6 ?_
  refine k_ist2 (pc := 7) dX4_heightOf_7 (Nat.le_of_ble_eq_true rfl) (fun v1 => ?_)
  refine k_aload_n (pc := 8) dX4_heightOf_8 rfl ?_
  refine k_gTX4_codes (pc := 9) kwf_X4_9 rfl dX4_heightOf_9 ?_
  refine k_iload_n (pc := 12) dX4_heightOf_12 rfl ?_
  refine k_lT11 (pc := 13) dX4_heightOf_13 ?_
  refine k_bipush (pc := 14) (v := (nI 48)) dX4_heightOf_14 (by decide) ?_
  refine k_isub (pc := 16) dX4_heightOf_16 ?_
  refine k_bipush (pc := 17) (v := (nI 10)) dX4_heightOf_17 (by decide) ?_
  refine k_imul (pc := 19) dX4_heightOf_19 ?_
  refine k_aload_n (pc := 20) dX4_heightOf_20 rfl ?_
  refine k_gTX4_codes (pc := 21) kwf_X4_9 rfl dX4_heightOf_21 ?_
  refine k_iload_n (pc := 24) dX4_heightOf_24 rfl ?_
  refine k_iconst (pc := 25) (v := (nI 1)) dX4_heightOf_25 (by decide) ?_
  refine k_iadd (pc := 26) dX4_heightOf_26 ?_
  refine k_lT11 (pc := 27) dX4_heightOf_27 ?_
  refine k_iadd (pc := 28) dX4_heightOf_28 ?_
  refine k_bipush (pc := 29) (v := (nI 48)) dX4_heightOf_29 (by decide) ?_
  refine k_isub (pc := 31) dX4_heightOf_31 ?_
  exact k_ireturn (pc := 32) rfl dX4_heightOf_32
-- TallTales$House.hasTale(I)Z
theorem ckX0_hasTale : k_Vok yX0_hasTale cX0_hasTale 2 (some .boolean) 1 := ⟨kwk_X0_hasTale, kwi_X0_hasTale, kwv_X0_hasTale, kwn_X0, by decide, by decide +kernel⟩
abbrev rmX0_hasTale : Room := { frames := 0, cells := 0, slots := 0, locals := 0 }
abbrev YX0_hasTale : k_Y := (rmX0_hasTale, cX0_hasTale, 2, RX0, (some .boolean))
noncomputable def fX0_hasTale (σ : k_S) (x1 : Int32) : Option (Int32 × k_S) := (if x1 < 0 then k_z ((nI 0)) (some ((nI 0), σ)) else (if x1 < σ.1 4 then k_z ((nI 1)) (some ((nI 1), σ)) else k_z ((nI 0)) (some ((nI 0), σ))))
set_option maxRecDepth 100000 in
set_option maxHeartbeats 4000000 in
theorem kX0_hasTale {D : va_G} {cI : ClassId} {q : Nat → Nat} {σ : k_S} {x1 : Int32} {r : Int32} {τ : k_S} (h : fX0_hasTale σ x1 = some (r, τ)) : k_Ct k_ei yX0_hasTale cX0_hasTale 2 (some .boolean) rmX0_hasTale (cT cI q) D cI [.ref (q 3), .int x1] σ r τ := by
  refine k_met (Y := YX0_hasTale) (cT_same _ _) (by decide) rfl (Nat.le_of_ble_eq_true rfl) (List.forall_mem_cons.mpr ⟨rfl, List.forall_mem_cons.mpr ⟨rfl, fun _ h => absurd h List.not_mem_nil⟩⟩) (fun X hD hI => ?_) h
  subst hD hI
  show KO X YX0_hasTale (cT (k_I X) q) 0 0 (k_Q k_ei X (cT (k_I X) q)) 0 [some (.ref (q 3)), some (.int x1)] [] σ _
  unfold fX0_hasTale
  refine k_iload_n (pc := 0) dX0_hasTale_0 rfl ?_
  refine k_if_lt (pc := 1) 16 dX0_hasTale_1 (by decide) ?_ ?_
  · refine k_iconst (pc := 16) (v := (nI 0)) dX0_hasTale_16 (by decide) ?_
    exact k_zreturn (pc := 17) rfl dX0_hasTale_17
  · refine k_iload_n (pc := 4) dX0_hasTale_4 rfl ?_
    refine k_aload_n (pc := 5) dX0_hasTale_5 rfl ?_
    refine k_gTX0_tales (pc := 6) kwf_X0_51 rfl dX0_hasTale_6 ?_
    refine k_icmp_ge (pc := 9) 16 dX0_hasTale_9 (by decide) ?_ ?_
    · refine k_iconst (pc := 16) (v := (nI 0)) dX0_hasTale_16 (by decide) ?_
      exact k_zreturn (pc := 17) rfl dX0_hasTale_17
    · refine k_iconst (pc := 12) (v := (nI 1)) dX0_hasTale_12 (by decide) ?_
      refine k_goto (pc := 13) 17 dX0_hasTale_13 (by decide) ?_
      exact k_zreturn (pc := 17) rfl dX0_hasTale_17
-- TallTales$House.keepTold(II)V
theorem ckX0_keepTold : k_Vok yX0_keepTold cX0_keepTold 3 none 2 := ⟨kwk_X0_keepTold, kwi_X0_keepTold, kwv_X0_keepTold, kwn_X0, by decide, by decide +kernel⟩
abbrev rmX0_keepTold : Room := { frames := 1, cells := 0, slots := 0, locals := 21 }
abbrev YX0_keepTold : k_Y := (rmX0_keepTold, cX0_keepTold, 3, RX0, none)
noncomputable def fX0_keepTold (σ : k_S) (x1 x2 : Int32) : Option (Unit × k_S) := k_ob (fX0_hasTale σ x1) fun r1 σ2 => (if r1 = 0 then some ((), σ2) else k_gd (x1) 10 (k_gd (x1) 10 (k_bn (k_sa σ2 8 (x1) ((σ2.2 8 (Int32.toNatClampNeg (x1)) + (nI 1)))) fun σ3 => k_gd (x1) 10 (k_bn (k_sa σ3 9 (x1) (x2)) fun σ4 => some ((), σ4)))))
set_option maxRecDepth 100000 in
set_option maxHeartbeats 4000000 in
theorem kX0_keepTold {D : va_G} {cI : ClassId} {q : Nat → Nat} {σ : k_S} {x1 x2 : Int32} {r : Unit} {τ : k_S} (h : fX0_keepTold σ x1 x2 = some (r, τ)) : k_Ct k_ev yX0_keepTold cX0_keepTold 3 none rmX0_keepTold (cT cI q) D cI [.ref (q 3), .int x1, .int x2] σ r τ := by
  refine k_met (Y := YX0_keepTold) (cT_same _ _) (by decide) rfl (Nat.le_of_ble_eq_true rfl) (List.forall_mem_cons.mpr ⟨rfl, List.forall_mem_cons.mpr ⟨rfl, List.forall_mem_cons.mpr ⟨rfl, fun _ h => absurd h List.not_mem_nil⟩⟩⟩) (fun X hD hI => ?_) h
  subst hD hI
  show KO X YX0_keepTold (cT (k_I X) q) 0 0 (k_Q k_ev X (cT (k_I X) q)) 0 [some (.ref (q 3)), some (.int x1), some (.int x2)] [] σ _
  unfold fX0_keepTold
  refine k_aload_n (pc := 0) dX0_keepTold_0 rfl ?_
  refine k_iload_n (pc := 1) dX0_keepTold_1 rfl ?_
  refine k_vi1 (pc := 2) (cT_same _ _) ckX0_hasTale kwm_X0_91 cT_rv3 ⟨rfl, rfl⟩ ⟨Nat.le_of_ble_eq_true rfl, Nat.le_of_ble_eq_true rfl⟩ ⟨Nat.zero_le _, Nat.zero_le _⟩ (Nat.le_of_ble_eq_true rfl) dX0_keepTold_2 (fun _ _ hf => kX0_hasTale hf) (fun r1 σ2 => ?_)
  refine k_if_ne (pc := 5) 9 dX0_keepTold_5 (by decide) ?_ ?_
  · refine k_aload_n (pc := 9) dX0_keepTold_9 rfl ?_
    refine k_gTX0_told (pc := 10) kwf_X0_21 rfl dX0_keepTold_10 ?_
    refine k_iload_n (pc := 13) dX0_keepTold_13 rfl ?_
    refine k_dup2 (pc := 14) dX0_keepTold_14 rfl rfl ?_
    refine k_lT15 (pc := 15) dX0_keepTold_15 ?_
    refine k_iconst (pc := 16) (v := (nI 1)) dX0_keepTold_16 (by decide) ?_
    refine k_iadd (pc := 17) dX0_keepTold_17 ?_
    refine k_sT15 (pc := 18) dX0_keepTold_18 (fun σ3 => ?_)
    refine k_aload_n (pc := 19) dX0_keepTold_19 rfl ?_
    refine k_gTX0_last (pc := 20) kwf_X0_24 rfl dX0_keepTold_20 ?_
    refine k_iload_n (pc := 23) dX0_keepTold_23 rfl ?_
    refine k_iload_n (pc := 24) dX0_keepTold_24 rfl ?_
    refine k_sT16 (pc := 25) dX0_keepTold_25 (fun σ4 => ?_)
    exact k_return (pc := 26) rfl dX0_keepTold_26
  · exact k_return (pc := 8) rfl dX0_keepTold_8
-- TallTales$House.goBack(I)V
theorem ckX0_goBack : k_Vok yX0_goBack cX0_goBack 4 none 1 := ⟨kwk_X0_goBack, kwi_X0_goBack, kwv_X0_goBack, kwn_X0, by decide, by decide +kernel⟩
abbrev rmX0_goBack : Room := { frames := 2, cells := 0, slots := 0, locals := 60 }
abbrev YX0_goBack : k_Y := (rmX0_goBack, cX0_goBack, 4, RX0, none)
noncomputable def fX0_goBack_c48 (kh38 : k_S → Int32 → Option (Unit × k_S)) : Nat → k_S → Int32 → Int32 → Option (Unit × k_S)
  | 0, _, _, _ => none
  | n + 1, σ, l2, l3 => (if l3 < σ.1 3 then k_gd (((l2 * (nI 5)) + l3)) 300 (k_ob (fX0_keepTold σ (σ.2 11 (Int32.toNatClampNeg (((l2 * (nI 5)) + l3)))) l2) fun r2 σ3 => k_bn (l3 + (nI 1)) fun v4 => fX0_goBack_c48 kh38 n σ3 l2 v4) else k_bn (l2 + (nI 1)) fun v1 => kh38 σ v1)
theorem fX0_goBack_c48_s (kh38 : k_S → Int32 → Option (Unit × k_S)) (n : Nat) (σ : k_S) (l2 l3 : Int32) : fX0_goBack_c48 kh38 (n + 1) σ l2 l3 = (if l3 < σ.1 3 then k_gd (((l2 * (nI 5)) + l3)) 300 (k_ob (fX0_keepTold σ (σ.2 11 (Int32.toNatClampNeg (((l2 * (nI 5)) + l3)))) l2) fun r2 σ3 => k_bn (l3 + (nI 1)) fun v4 => fX0_goBack_c48 kh38 n σ3 l2 v4) else k_bn (l2 + (nI 1)) fun v1 => kh38 σ v1) := rfl
set_option maxRecDepth 100000 in
set_option maxHeartbeats 4000000 in
theorem kX0_goBack_c48 {X : k_C} {q : Nat → Nat} (kh38 : k_S → Int32 → Option (Unit × k_S)) (hk38 : ∀ (σ : k_S) (l2 : Int32), KO X YX0_goBack (cT (k_I X) q) 0 0 (k_Q k_ev X (cT (k_I X) q)) 38 [some (.ref (q 3)), none, some (.int l2), none] [] σ (kh38 σ l2)) : ∀ (n : Nat) (σ : k_S) (l2 l3 : Int32), KO X YX0_goBack (cT (k_I X) q) 0 0 (k_Q k_ev X (cT (k_I X) q)) 48 [some (.ref (q 3)), none, some (.int l2), some (.int l3)] [] σ (fX0_goBack_c48 kh38 n σ l2 l3) := by
  intro n
  induction n with
  | zero => intros; exact KO.nil
  | succ n ih =>
    intro σ l2 l3
    rw [fX0_goBack_c48_s]
    refine k_iload_n (pc := 48) dX0_goBack_48 rfl ?_
    refine k_aload_n (pc := 49) dX0_goBack_49 rfl ?_
    refine k_gTX0_guests (pc := 50) kwf_X0_45 rfl dX0_goBack_50 ?_
    refine k_icmp_ge (pc := 53) 77 dX0_goBack_53 (by decide) ?_ ?_
    · refine k_iinc2 (pc := 77) (w := (nI 1)) dX0_goBack_77 rfl (by decide) (Nat.le_of_ble_eq_true rfl) (fun v1 => ?_)
      refine k_goto (pc := 80) 38 dX0_goBack_80 (by decide) ?_
      refine k_fg3 ?_
      exact hk38 σ v1
    · refine k_aload_n (pc := 56) dX0_goBack_56 rfl ?_
      refine k_aload_n (pc := 57) dX0_goBack_57 rfl ?_
      refine k_gTX0_nightTale (pc := 58) kwf_X0_30 rfl dX0_goBack_58 ?_
      refine k_iload_n (pc := 61) dX0_goBack_61 rfl ?_
      refine k_iconst (pc := 62) (v := (nI 5)) dX0_goBack_62 (by decide) ?_
      refine k_imul (pc := 63) dX0_goBack_63 ?_
      refine k_iload_n (pc := 64) dX0_goBack_64 rfl ?_
      refine k_iadd (pc := 65) dX0_goBack_65 ?_
      refine k_lT18 (pc := 66) dX0_goBack_66 ?_
      refine k_iload_n (pc := 67) dX0_goBack_67 rfl ?_
      refine k_vv2 (pc := 68) (cT_same _ _) ckX0_keepTold kwm_X0_100 cT_rv3 ⟨rfl, rfl⟩ ⟨Nat.le_of_ble_eq_true rfl, Nat.le_of_ble_eq_true rfl⟩ ⟨Nat.zero_le _, Nat.zero_le _⟩ (Nat.le_of_ble_eq_true rfl) dX0_goBack_68 (fun _ _ hf => kX0_keepTold hf) (fun r2 σ3 => ?_)
      refine k_iinc3 (pc := 71) (w := (nI 1)) dX0_goBack_71 rfl (by decide) (Nat.le_of_ble_eq_true rfl) (fun v4 => ?_)
      refine k_goto (pc := 74) 48 dX0_goBack_74 (by decide) ?_
      exact ih σ3 l2 v4
noncomputable def fX0_goBack_c38 : Nat → k_S → Int32 → Option (Unit × k_S)
  | 0, _, _ => none
  | n + 1, σ, l2 => (if l2 < σ.1 6 then k_bn ((nI 0)) fun v1 => fX0_goBack_c48 (fX0_goBack_c38 n) k_F σ l2 v1 else some ((), σ))
theorem fX0_goBack_c38_s (n : Nat) (σ : k_S) (l2 : Int32) : fX0_goBack_c38 (n + 1) σ l2 = (if l2 < σ.1 6 then k_bn ((nI 0)) fun v1 => fX0_goBack_c48 (fX0_goBack_c38 n) k_F σ l2 v1 else some ((), σ)) := rfl
set_option maxRecDepth 100000 in
set_option maxHeartbeats 4000000 in
theorem kX0_goBack_c38 {X : k_C} {q : Nat → Nat} : ∀ (n : Nat) (σ : k_S) (l2 : Int32), KO X YX0_goBack (cT (k_I X) q) 0 0 (k_Q k_ev X (cT (k_I X) q)) 38 [some (.ref (q 3)), none, some (.int l2), none] [] σ (fX0_goBack_c38 n σ l2) := by
  intro n
  induction n with
  | zero => intros; exact KO.nil
  | succ n ih =>
    intro σ l2
    rw [fX0_goBack_c38_s]
    refine k_iload_n (pc := 38) dX0_goBack_38 rfl ?_
    refine k_aload_n (pc := 39) dX0_goBack_39 rfl ?_
    refine k_gTX0_nights (pc := 40) kwf_X0_66 rfl dX0_goBack_40 ?_
    refine k_icmp_ge (pc := 43) 83 dX0_goBack_43 (by decide) ?_ ?_
    · exact k_return (pc := 83) rfl dX0_goBack_83
    · refine k_iconst (pc := 46) (v := (nI 0)) dX0_goBack_46 (by decide) ?_
      refine k_ist3 (pc := 47) dX0_goBack_47 (Nat.le_of_ble_eq_true rfl) (fun v1 => ?_)
      exact kX0_goBack_c48 (fX0_goBack_c38 n) ih k_F σ l2 v1
noncomputable def fX0_goBack (σ : k_S) (x1 : Int32) : Option (Unit × k_S) := k_bn (k_sf σ 6 ((σ.1 6 - x1))) fun σ1 => k_bn (k_sA σ1 10 (k_fl (σ1.2 10) 0 5 ((k_ng 9)))) fun σ2 => k_bn (k_sA σ2 8 (k_fl (σ2.2 8) 0 10 ((nI 0)))) fun σ3 => k_bn (k_sA σ3 9 (k_fl (σ3.2 9) 0 10 ((k_ng 9)))) fun σ4 => k_bn ((nI 0)) fun v5 => fX0_goBack_c38 k_F σ4 v5
set_option maxRecDepth 100000 in
set_option maxHeartbeats 4000000 in
theorem kX0_goBack {D : va_G} {cI : ClassId} {q : Nat → Nat} {σ : k_S} {x1 : Int32} {r : Unit} {τ : k_S} (h : fX0_goBack σ x1 = some (r, τ)) : k_Ct k_ev yX0_goBack cX0_goBack 4 none rmX0_goBack (cT cI q) D cI [.ref (q 3), .int x1] σ r τ := by
  refine k_met (Y := YX0_goBack) (cT_same _ _) (by decide) rfl (Nat.le_of_ble_eq_true rfl) (List.forall_mem_cons.mpr ⟨rfl, List.forall_mem_cons.mpr ⟨rfl, fun _ h => absurd h List.not_mem_nil⟩⟩) (fun X hD hI => ?_) h
  subst hD hI
  show KO X YX0_goBack (cT (k_I X) q) 0 0 (k_Q k_ev X (cT (k_I X) q)) 0 [some (.ref (q 3)), some (.int x1), none, none] [] σ _
  unfold fX0_goBack
  refine k_aload_n (pc := 0) dX0_goBack_0 rfl ?_
  refine k_dup (pc := 1) dX0_goBack_1 rfl ?_
  refine k_gTX0_nights (pc := 2) kwf_X0_66 rfl dX0_goBack_2 ?_
  refine k_iload_n (pc := 5) dX0_goBack_5 rfl ?_
  refine k_isub (pc := 6) dX0_goBack_6 ?_
  refine k_pTX0_nights (pc := 7) kwf_X0_66 rfl dX0_goBack_7 (fun σ1 => ?_)
  refine k_aload_n (pc := 10) dX0_goBack_10 rfl ?_
  refine k_gTX0_chosen (pc := 11) kwf_X0_27 rfl dX0_goBack_11 ?_
  refine k_bipush (pc := 14) (v := (k_ng 9)) dX0_goBack_14 (by decide) ?_
  refine k_fT2_17 (pc := 16) kwm_X0_104 ⟨Nat.le_of_ble_eq_true rfl, Nat.le_of_ble_eq_true rfl⟩ dX0_goBack_16 (fun σ2 => ?_)
  refine k_aload_n (pc := 19) dX0_goBack_19 rfl ?_
  refine k_gTX0_told (pc := 20) kwf_X0_21 rfl dX0_goBack_20 ?_
  refine k_iconst (pc := 23) (v := (nI 0)) dX0_goBack_23 (by decide) ?_
  refine k_fT2_15 (pc := 24) kwm_X0_104 ⟨Nat.le_of_ble_eq_true rfl, Nat.le_of_ble_eq_true rfl⟩ dX0_goBack_24 (fun σ3 => ?_)
  refine k_aload_n (pc := 27) dX0_goBack_27 rfl ?_
  refine k_gTX0_last (pc := 28) kwf_X0_24 rfl dX0_goBack_28 ?_
  refine k_bipush (pc := 31) (v := (k_ng 9)) dX0_goBack_31 (by decide) ?_
  refine k_fT2_16 (pc := 33) kwm_X0_104 ⟨Nat.le_of_ble_eq_true rfl, Nat.le_of_ble_eq_true rfl⟩ dX0_goBack_33 (fun σ4 => ?_)
  refine k_iconst (pc := 36) (v := (nI 0)) dX0_goBack_36 (by decide) ?_
  refine k_ist2 (pc := 37) dX0_goBack_37 (Nat.le_of_ble_eq_true rfl) (fun v5 => ?_)
  refine k_fg1 ?_
  exact kX0_goBack_c38 k_F σ4 v5
-- TallTales$House.open(LTallTales$Text;)V
theorem ckX0_open : k_Vok yX0_open cX0_open 3 none 1 := ⟨kwk_X0_open, kwi_X0_open, kwv_X0_open, kwn_X0, by decide, by decide +kernel⟩
abbrev rmX0_open : Room := { frames := 3, cells := 0, slots := 0, locals := 83 }
abbrev YX0_open : k_Y := (rmX0_open, cX0_open, 3, RX0, none)
noncomputable def fX0_open_c18 : Nat → k_S → Int32 → Option (Unit × k_S)
  | 0, _, _ => none
  | n + 1, σ, l2 => (if l2 < σ.1 4 then k_ob (fX4_kindOf σ l2) fun r4 σ5 => k_gd (l2) 10 (k_bn (k_sa σ5 5 (l2) (r4)) fun σ6 => k_ob (fX4_ownerOf σ6 l2) fun r7 σ8 => k_gd (l2) 10 (k_bn (k_sa σ8 6 (l2) (r7)) fun σ9 => k_ob (fX4_heightOf σ9 l2) fun r10 σ11 => k_gd (l2) 10 (k_bn (k_sa σ11 7 (l2) (r10)) fun σ12 => k_bn (l2 + (nI 1)) fun v13 => fX0_open_c18 n σ12 v13))) else k_bn (k_sf σ 5 ((nI 99))) fun σ1 => k_ob (fX0_goBack σ1 (σ1.1 6)) fun r2 σ3 => some ((), σ3))
theorem fX0_open_c18_s (n : Nat) (σ : k_S) (l2 : Int32) : fX0_open_c18 (n + 1) σ l2 = (if l2 < σ.1 4 then k_ob (fX4_kindOf σ l2) fun r4 σ5 => k_gd (l2) 10 (k_bn (k_sa σ5 5 (l2) (r4)) fun σ6 => k_ob (fX4_ownerOf σ6 l2) fun r7 σ8 => k_gd (l2) 10 (k_bn (k_sa σ8 6 (l2) (r7)) fun σ9 => k_ob (fX4_heightOf σ9 l2) fun r10 σ11 => k_gd (l2) 10 (k_bn (k_sa σ11 7 (l2) (r10)) fun σ12 => k_bn (l2 + (nI 1)) fun v13 => fX0_open_c18 n σ12 v13))) else k_bn (k_sf σ 5 ((nI 99))) fun σ1 => k_ob (fX0_goBack σ1 (σ1.1 6)) fun r2 σ3 => some ((), σ3)) := rfl
set_option maxRecDepth 100000 in
set_option maxHeartbeats 4000000 in
theorem kX0_open_c18 {X : k_C} {q : Nat → Nat} : ∀ (n : Nat) (σ : k_S) (l2 : Int32), KO X YX0_open (cT (k_I X) q) 0 0 (k_Q k_ev X (cT (k_I X) q)) 18 [some (.ref (q 3)), some (.ref (q 2)), some (.int l2)] [] σ (fX0_open_c18 n σ l2) := by
  intro n
  induction n with
  | zero => intros; exact KO.nil
  | succ n ih =>
    intro σ l2
    rw [fX0_open_c18_s]
    refine k_iload_n (pc := 18) dX0_open_18 rfl ?_
    refine k_aload_n (pc := 19) dX0_open_19 rfl ?_
    refine k_gTX0_tales (pc := 20) kwf_X0_51 rfl dX0_open_20 ?_
    refine k_icmp_ge (pc := 23) 65 dX0_open_23 (by decide) ?_ ?_
    · refine k_aload_n (pc := 65) dX0_open_65 rfl ?_
      refine k_bipush (pc := 66) (v := (nI 99)) dX0_open_66 (by decide) ?_
      refine k_pTX0_memory (pc := 68) kwf_X0_63 rfl dX0_open_68 (fun σ1 => ?_)
      refine k_aload_n (pc := 71) dX0_open_71 rfl ?_
      refine k_aload_n (pc := 72) dX0_open_72 rfl ?_
      refine k_gTX0_nights (pc := 73) kwf_X0_66 rfl dX0_open_73 ?_
      refine k_vv1 (pc := 76) (cT_same _ _) ckX0_goBack kwm_X0_69 cT_rv3 ⟨rfl, rfl⟩ ⟨Nat.le_of_ble_eq_true rfl, Nat.le_of_ble_eq_true rfl⟩ ⟨Nat.zero_le _, Nat.zero_le _⟩ (Nat.le_of_ble_eq_true rfl) dX0_open_76 (fun _ _ hf => kX0_goBack hf) (fun r2 σ3 => ?_)
      exact k_return (pc := 79) rfl dX0_open_79
    · refine k_aload_n (pc := 26) dX0_open_26 rfl ?_
      refine k_gTX0_kinds (pc := 27) kwf_X0_9 rfl dX0_open_27 ?_
      refine k_iload_n (pc := 30) dX0_open_30 rfl ?_
      refine k_aload_n (pc := 31) dX0_open_31 rfl ?_
      refine k_iload_n (pc := 32) dX0_open_32 rfl ?_
      refine k_vi1 (pc := 33) (cT_same _ _) ckX4_kindOf kwm_X0_53 cT_rv2 ⟨rfl, rfl⟩ ⟨Nat.le_of_ble_eq_true rfl, Nat.le_of_ble_eq_true rfl⟩ ⟨Nat.zero_le _, Nat.zero_le _⟩ (Nat.le_of_ble_eq_true rfl) dX0_open_33 (fun _ _ hf => kX4_kindOf hf) (fun r4 σ5 => ?_)
      refine k_sT12 (pc := 36) dX0_open_36 (fun σ6 => ?_)
      refine k_aload_n (pc := 37) dX0_open_37 rfl ?_
      refine k_gTX0_owners (pc := 38) kwf_X0_15 rfl dX0_open_38 ?_
      refine k_iload_n (pc := 41) dX0_open_41 rfl ?_
      refine k_aload_n (pc := 42) dX0_open_42 rfl ?_
      refine k_iload_n (pc := 43) dX0_open_43 rfl ?_
      refine k_vi1 (pc := 44) (cT_same _ _) ckX4_ownerOf kwm_X0_57 cT_rv2 ⟨rfl, rfl⟩ ⟨Nat.le_of_ble_eq_true rfl, Nat.le_of_ble_eq_true rfl⟩ ⟨Nat.zero_le _, Nat.zero_le _⟩ (Nat.le_of_ble_eq_true rfl) dX0_open_44 (fun _ _ hf => kX4_ownerOf hf) (fun r7 σ8 => ?_)
      refine k_sT13 (pc := 47) dX0_open_47 (fun σ9 => ?_)
      refine k_aload_n (pc := 48) dX0_open_48 rfl ?_
      refine k_gTX0_heights (pc := 49) kwf_X0_18 rfl dX0_open_49 ?_
      refine k_iload_n (pc := 52) dX0_open_52 rfl ?_
      refine k_aload_n (pc := 53) dX0_open_53 rfl ?_
      refine k_iload_n (pc := 54) dX0_open_54 rfl ?_
      refine k_vi1 (pc := 55) (cT_same _ _) ckX4_heightOf kwm_X0_60 cT_rv2 ⟨rfl, rfl⟩ ⟨Nat.le_of_ble_eq_true rfl, Nat.le_of_ble_eq_true rfl⟩ ⟨Nat.zero_le _, Nat.zero_le _⟩ (Nat.le_of_ble_eq_true rfl) dX0_open_55 (fun _ _ hf => kX4_heightOf hf) (fun r10 σ11 => ?_)
      refine k_sT14 (pc := 58) dX0_open_58 (fun σ12 => ?_)
      refine k_iinc2 (pc := 59) (w := (nI 1)) dX0_open_59 rfl (by decide) (Nat.le_of_ble_eq_true rfl) (fun v13 => ?_)
      refine k_goto (pc := 62) 18 dX0_open_62 (by decide) ?_
      exact ih σ12 v13
noncomputable def fX0_open (σ : k_S) : Option (Unit × k_S) := k_ob (fX4_guests σ) fun r1 σ2 => k_bn (k_sf σ2 3 (r1)) fun σ3 => k_ob (fX4_tales σ3) fun r4 σ5 => k_bn (k_sf σ5 4 (r4)) fun σ6 => k_bn ((nI 0)) fun v7 => fX0_open_c18 k_F σ6 v7
set_option maxRecDepth 100000 in
set_option maxHeartbeats 4000000 in
theorem kX0_open {D : va_G} {cI : ClassId} {q : Nat → Nat} {σ : k_S} {r : Unit} {τ : k_S} (h : fX0_open σ = some (r, τ)) : k_Ct k_ev yX0_open cX0_open 3 none rmX0_open (cT cI q) D cI [.ref (q 3), .ref (q 2)] σ r τ := by
  refine k_met (Y := YX0_open) (cT_same _ _) (by decide) rfl (Nat.le_of_ble_eq_true rfl) (List.forall_mem_cons.mpr ⟨rfl, List.forall_mem_cons.mpr ⟨rfl, fun _ h => absurd h List.not_mem_nil⟩⟩) (fun X hD hI => ?_) h
  subst hD hI
  show KO X YX0_open (cT (k_I X) q) 0 0 (k_Q k_ev X (cT (k_I X) q)) 0 [some (.ref (q 3)), some (.ref (q 2)), none] [] σ _
  unfold fX0_open
  refine k_aload_n (pc := 0) dX0_open_0 rfl ?_
  refine k_aload_n (pc := 1) dX0_open_1 rfl ?_
  refine k_vi0 (pc := 2) (cT_same _ _) ckX4_guests kwm_X0_39 cT_rv2 ⟨rfl, rfl⟩ ⟨Nat.le_of_ble_eq_true rfl, Nat.le_of_ble_eq_true rfl⟩ ⟨Nat.zero_le _, Nat.zero_le _⟩ (Nat.le_of_ble_eq_true rfl) dX0_open_2 (fun _ _ hf => kX4_guests hf) (fun r1 σ2 => ?_)
  refine k_pTX0_guests (pc := 5) kwf_X0_45 rfl dX0_open_5 (fun σ3 => ?_)
  refine k_aload_n (pc := 8) dX0_open_8 rfl ?_
  refine k_aload_n (pc := 9) dX0_open_9 rfl ?_
  refine k_vi0 (pc := 10) (cT_same _ _) ckX4_tales kwm_X0_48 cT_rv2 ⟨rfl, rfl⟩ ⟨Nat.le_of_ble_eq_true rfl, Nat.le_of_ble_eq_true rfl⟩ ⟨Nat.zero_le _, Nat.zero_le _⟩ (Nat.le_of_ble_eq_true rfl) dX0_open_10 (fun _ _ hf => kX4_tales hf) (fun r4 σ5 => ?_)
  refine k_pTX0_tales (pc := 13) kwf_X0_51 rfl dX0_open_13 (fun σ6 => ?_)
  refine k_iconst (pc := 16) (v := (nI 0)) dX0_open_16 (by decide) ?_
  refine k_ist2 (pc := 17) dX0_open_17 (Nat.le_of_ble_eq_true rfl) (fun v7 => ?_)
  exact kX0_open_c18 k_F σ6 v7
-- TallTales.inn(IIII)I
theorem ckX6_inn : k_Vok yX6_inn cX6_inn 7 (some .int) 4 := ⟨kwk_X6_inn, kwi_X6_inn, kwv_X6_inn, kwn_X6, by decide, by decide +kernel⟩
abbrev rmX6_inn : Room := { frames := 4, cells := 0, slots := 0, locals := 105 }
abbrev YX6_inn : k_Y := (rmX6_inn, cX6_inn, 7, RX6, (some .int))
noncomputable def fX6_inn (σ : k_S) (x1 x2 x3 x4 : Int32) : Option (Int32 × k_S) := k_bn (k_sf σ 1 ((nI 0))) fun σ1 => k_ob (fX6_isSheet σ1 x1) fun r2 σ3 => (if r2 = 0 then some ((k_ng 1), σ3) else k_ob (fX6_isSort σ3 x2) fun r4 σ5 => (if r4 = 0 then some ((k_ng 2), σ5) else k_ob (fX2_faultOf σ5 x1 x2 x3 x4) fun r6 σ7 => k_bn (r6) fun v8 => (if v8 = 0 then k_bn (k_sf σ7 2 (x4)) fun σ9 => k_ob (fX2_take_a11 σ9 x1 x3 x4) fun r10 σ11 => k_ob (fX4_firstFault σ11) fun r12 σ13 => k_bn (r12) fun v14 => (if v14 = (k_ng 1) then k_ob (fX0_open σ13) fun r15 σ16 => some (σ16.1 4, σ16) else some (((k_ng 100) - v14), σ13)) else k_ob (fX6_faulty σ7 v8) fun r17 σ18 => some (r17, σ18))))
set_option maxRecDepth 100000 in
set_option maxHeartbeats 4000000 in
theorem kX6_inn {D : va_G} {cI : ClassId} {q : Nat → Nat} {σ : k_S} {x1 x2 x3 x4 : Int32} {r : Int32} {τ : k_S} (h : fX6_inn σ x1 x2 x3 x4 = some (r, τ)) : k_Ct k_ei yX6_inn cX6_inn 7 (some .int) rmX6_inn (cT cI q) D cI [.ref (q 0), .int x1, .int x2, .int x3, .int x4] σ r τ := by
  refine k_met (Y := YX6_inn) (cT_same _ _) (by decide) rfl (Nat.le_of_ble_eq_true rfl) (List.forall_mem_cons.mpr ⟨rfl, List.forall_mem_cons.mpr ⟨rfl, List.forall_mem_cons.mpr ⟨rfl, List.forall_mem_cons.mpr ⟨rfl, List.forall_mem_cons.mpr ⟨rfl, fun _ h => absurd h List.not_mem_nil⟩⟩⟩⟩⟩) (fun X hD hI => ?_) h
  subst hD hI
  show KO X YX6_inn (cT (k_I X) q) 0 0 (k_Q k_ei X (cT (k_I X) q)) 0 [some (.ref (q 0)), some (.int x1), some (.int x2), some (.int x3), some (.int x4), none, none] [] σ _
  unfold fX6_inn
  refine k_aload_n (pc := 0) dX6_inn_0 rfl ?_
  refine k_iconst (pc := 1) (v := (nI 0)) dX6_inn_1 (by decide) ?_
  refine k_pTX6_fault (pc := 2) kwf_X6_61 rfl dX6_inn_2 (fun σ1 => ?_)
  refine k_iload_n (pc := 5) dX6_inn_5 rfl ?_
  refine k_si1 (pc := 6) (cT_same _ _) ckX6_isSheet kwm_X6_65 ⟨rfl, rfl⟩ ⟨Nat.le_of_ble_eq_true rfl, Nat.le_of_ble_eq_true rfl⟩ ⟨Nat.zero_le _, Nat.zero_le _⟩ (Nat.le_of_ble_eq_true rfl) dX6_inn_6 (fun _ _ hf => kX6_isSheet hf) (fun r2 σ3 => ?_)
  refine k_if_ne (pc := 9) 14 dX6_inn_9 (by decide) ?_ ?_
  · refine k_iload_n (pc := 14) dX6_inn_14 rfl ?_
    refine k_si1 (pc := 15) (cT_same _ _) ckX6_isSort kwm_X6_69 ⟨rfl, rfl⟩ ⟨Nat.le_of_ble_eq_true rfl, Nat.le_of_ble_eq_true rfl⟩ ⟨Nat.zero_le _, Nat.zero_le _⟩ (Nat.le_of_ble_eq_true rfl) dX6_inn_15 (fun _ _ hf => kX6_isSort hf) (fun r4 σ5 => ?_)
    refine k_if_ne (pc := 18) 24 dX6_inn_18 (by decide) ?_ ?_
    · refine k_aload_n (pc := 24) dX6_inn_24 rfl ?_
      refine k_gTX6_sheets (pc := 25) kwf_X6_12 rfl dX6_inn_25 ?_
      refine k_iload_n (pc := 28) dX6_inn_28 rfl ?_
      refine k_iload_n (pc := 29) dX6_inn_29 rfl ?_
      refine k_iload_n (pc := 30) dX6_inn_30 rfl ?_
      refine k_iload (pc := 31) dX6_inn_31 rfl ?_
      refine k_vi4 (pc := 33) (cT_same _ _) ckX2_faultOf kwm_X6_72 cT_rv1 ⟨rfl, rfl⟩ ⟨Nat.le_of_ble_eq_true rfl, Nat.le_of_ble_eq_true rfl⟩ ⟨Nat.zero_le _, Nat.zero_le _⟩ (Nat.le_of_ble_eq_true rfl) dX6_inn_33 (fun _ _ hf => kX2_faultOf hf) (fun r6 σ7 => ?_)
      refine k_ist5 (pc := 36) dX6_inn_36 (Nat.le_of_ble_eq_true rfl) (fun v8 => ?_)
      refine k_iload (pc := 38) dX6_inn_38 rfl ?_
      refine k_if_eq (pc := 40) 50 dX6_inn_40 (by decide) ?_ ?_
      · refine k_aload_n (pc := 50) dX6_inn_50 rfl ?_
        refine k_gTX6_text (pc := 51) kwf_X6_21 rfl dX6_inn_51 ?_
        refine k_iload (pc := 54) dX6_inn_54 rfl ?_
        refine k_pTX4_length (pc := 56) kwf_X6_80 rfl dX6_inn_56 (fun σ9 => ?_)
        refine k_aload_n (pc := 59) dX6_inn_59 rfl ?_
        refine k_gTX6_sheets (pc := 60) kwf_X6_12 rfl dX6_inn_60 ?_
        refine k_iload_n (pc := 63) dX6_inn_63 rfl ?_
        refine k_iload_n (pc := 64) dX6_inn_64 rfl ?_
        refine k_iload (pc := 65) dX6_inn_65 rfl ?_
        refine k_aload_n (pc := 67) dX6_inn_67 rfl ?_
        refine k_gTX6_text (pc := 68) kwf_X6_21 rfl dX6_inn_68 ?_
        refine k_gTX4_codes (pc := 71) kwf_X6_83 rfl dX6_inn_71 ?_
        refine k_vv4 (pc := 74) (cT_same _ _) ckX2_take kwm_X6_86 cT_rv1 ⟨rfl, rfl⟩ ⟨Nat.le_of_ble_eq_true rfl, Nat.le_of_ble_eq_true rfl⟩ ⟨Nat.zero_le _, Nat.zero_le _⟩ (Nat.le_of_ble_eq_true rfl) dX6_inn_74 (fun _ _ hf => kX2_take_a11 hf) (fun r10 σ11 => ?_)
        refine k_aload_n (pc := 77) dX6_inn_77 rfl ?_
        refine k_gTX6_text (pc := 78) kwf_X6_21 rfl dX6_inn_78 ?_
        refine k_vi0 (pc := 81) (cT_same _ _) ckX4_firstFault kwm_X6_90 cT_rv2 ⟨rfl, rfl⟩ ⟨Nat.le_of_ble_eq_true rfl, Nat.le_of_ble_eq_true rfl⟩ ⟨Nat.zero_le _, Nat.zero_le _⟩ (Nat.le_of_ble_eq_true rfl) dX6_inn_81 (fun _ _ hf => kX4_firstFault hf) (fun r12 σ13 => ?_)
        refine k_ist6 (pc := 84) dX6_inn_84 (Nat.le_of_ble_eq_true rfl) (fun v14 => ?_)
        refine k_iload (pc := 86) dX6_inn_86 rfl ?_
        refine k_iconst (pc := 88) (v := (k_ng 1)) dX6_inn_88 (by decide) ?_
        refine k_icmp_eq (pc := 89) 98 dX6_inn_89 (by decide) ?_ ?_
        · refine k_aload_n (pc := 98) dX6_inn_98 rfl ?_
          refine k_gTX6_house (pc := 99) kwf_X6_28 rfl dX6_inn_99 ?_
          refine k_aload_n (pc := 102) dX6_inn_102 rfl ?_
          refine k_gTX6_text (pc := 103) kwf_X6_21 rfl dX6_inn_103 ?_
          refine k_vv1 (pc := 106) (cT_same _ _) ckX0_open kwm_X6_94 cT_rv3 ⟨rfl, rfl⟩ ⟨Nat.le_of_ble_eq_true rfl, Nat.le_of_ble_eq_true rfl⟩ ⟨Nat.zero_le _, Nat.zero_le _⟩ (Nat.le_of_ble_eq_true rfl) dX6_inn_106 (fun _ _ hf => kX0_open hf) (fun r15 σ16 => ?_)
          refine k_aload_n (pc := 109) dX6_inn_109 rfl ?_
          refine k_gTX6_house (pc := 110) kwf_X6_28 rfl dX6_inn_110 ?_
          refine k_gTX0_tales (pc := 113) kwf_X6_98 rfl dX6_inn_113 ?_
          exact k_ireturn (pc := 116) rfl dX6_inn_116
        · refine k_bipush (pc := 92) (v := (k_ng 100)) dX6_inn_92 (by decide) ?_
          refine k_iload (pc := 94) dX6_inn_94 rfl ?_
          refine k_isub (pc := 96) dX6_inn_96 ?_
          exact k_ireturn (pc := 97) rfl dX6_inn_97
      · refine k_aload_n (pc := 43) dX6_inn_43 rfl ?_
        refine k_iload (pc := 44) dX6_inn_44 rfl ?_
        refine k_vi1 (pc := 46) (cT_same _ _) ckX6_faulty kwm_X6_76 cT_rv0 ⟨rfl, rfl⟩ ⟨Nat.le_of_ble_eq_true rfl, Nat.le_of_ble_eq_true rfl⟩ ⟨Nat.zero_le _, Nat.zero_le _⟩ (Nat.le_of_ble_eq_true rfl) dX6_inn_46 (fun _ _ hf => kX6_faulty hf) (fun r17 σ18 => ?_)
        exact k_ireturn (pc := 49) rfl dX6_inn_49
    · refine k_bipush (pc := 21) (v := (k_ng 2)) dX6_inn_21 (by decide) ?_
      exact k_ireturn (pc := 23) rfl dX6_inn_23
  · refine k_iconst (pc := 12) (v := (k_ng 1)) dX6_inn_12 (by decide) ?_
    exact k_ireturn (pc := 13) rfl dX6_inn_13
-- TallTales$House.tallWhenTold(II)I
theorem ckX0_tallWhenTold : k_Vok yX0_tallWhenTold cX0_tallWhenTold 3 (some .int) 2 := ⟨kwk_X0_tallWhenTold, kwi_X0_tallWhenTold, kwv_X0_tallWhenTold, kwn_X0, by decide, by decide +kernel⟩
abbrev rmX0_tallWhenTold : Room := { frames := 0, cells := 0, slots := 0, locals := 0 }
abbrev YX0_tallWhenTold : k_Y := (rmX0_tallWhenTold, cX0_tallWhenTold, 3, RX0, (some .int))
noncomputable def fX0_tallWhenTold (σ : k_S) (x1 x2 : Int32) : Option (Int32 × k_S) := k_gd (x1) 10 ((if σ.2 5 (Int32.toNatClampNeg (x1)) = (nI 1) then k_gd (x1) 10 (some ((σ.2 7 (Int32.toNatClampNeg (x1)) + ((nI 10) * x2)), σ)) else (if σ.2 5 (Int32.toNatClampNeg (x1)) = (nI 2) then k_gd (x1) 10 (some ((σ.2 7 (Int32.toNatClampNeg (x1)) + (nI 900)), σ)) else k_gd (x1) 10 (some (σ.2 7 (Int32.toNatClampNeg (x1)), σ)))))
set_option maxRecDepth 100000 in
set_option maxHeartbeats 4000000 in
theorem kX0_tallWhenTold {D : va_G} {cI : ClassId} {q : Nat → Nat} {σ : k_S} {x1 x2 : Int32} {r : Int32} {τ : k_S} (h : fX0_tallWhenTold σ x1 x2 = some (r, τ)) : k_Ct k_ei yX0_tallWhenTold cX0_tallWhenTold 3 (some .int) rmX0_tallWhenTold (cT cI q) D cI [.ref (q 3), .int x1, .int x2] σ r τ := by
  refine k_met (Y := YX0_tallWhenTold) (cT_same _ _) (by decide) rfl (Nat.le_of_ble_eq_true rfl) (List.forall_mem_cons.mpr ⟨rfl, List.forall_mem_cons.mpr ⟨rfl, List.forall_mem_cons.mpr ⟨rfl, fun _ h => absurd h List.not_mem_nil⟩⟩⟩) (fun X hD hI => ?_) h
  subst hD hI
  show KO X YX0_tallWhenTold (cT (k_I X) q) 0 0 (k_Q k_ei X (cT (k_I X) q)) 0 [some (.ref (q 3)), some (.int x1), some (.int x2)] [] σ _
  unfold fX0_tallWhenTold
  refine k_aload_n (pc := 0) dX0_tallWhenTold_0 rfl ?_
  refine k_gTX0_kinds (pc := 1) kwf_X0_9 rfl dX0_tallWhenTold_1 ?_
  refine k_iload_n (pc := 4) dX0_tallWhenTold_4 rfl ?_
  refine k_lT12 (pc := 5) dX0_tallWhenTold_5 ?_
  refine KO.ite (c := σ.2 5 (Int32.toNatClampNeg (x1)) = (nI 1)) (fun hs1_0 => ?_) (fun hs1_0 => ?_)
  · refine k_lookup (off := 26) (pc := 6) 32 dX0_tallWhenTold_6 (by decide) (by rw [hs1_0]; decide) (by decide) ?_
    refine k_aload_n (pc := 32) dX0_tallWhenTold_32 rfl ?_
    refine k_gTX0_heights (pc := 33) kwf_X0_18 rfl dX0_tallWhenTold_33 ?_
    refine k_iload_n (pc := 36) dX0_tallWhenTold_36 rfl ?_
    refine k_lT14 (pc := 37) dX0_tallWhenTold_37 ?_
    refine k_bipush (pc := 38) (v := (nI 10)) dX0_tallWhenTold_38 (by decide) ?_
    refine k_iload_n (pc := 40) dX0_tallWhenTold_40 rfl ?_
    refine k_imul (pc := 41) dX0_tallWhenTold_41 ?_
    refine k_iadd (pc := 42) dX0_tallWhenTold_42 ?_
    exact k_ireturn (pc := 43) rfl dX0_tallWhenTold_43
  · refine KO.ite (c := σ.2 5 (Int32.toNatClampNeg (x1)) = (nI 2)) (fun hs1_1 => ?_) (fun hs1_1 => ?_)
    · refine k_lookup (off := 38) (pc := 6) 44 dX0_tallWhenTold_6 (by decide) (by rw [hs1_1]; decide) (by decide) ?_
      refine k_aload_n (pc := 44) dX0_tallWhenTold_44 rfl ?_
      refine k_gTX0_heights (pc := 45) kwf_X0_18 rfl dX0_tallWhenTold_45 ?_
      refine k_iload_n (pc := 48) dX0_tallWhenTold_48 rfl ?_
      refine k_lT14 (pc := 49) dX0_tallWhenTold_49 ?_
      refine k_sipush (pc := 50) (v := (nI 900)) dX0_tallWhenTold_50 (by decide) ?_
      refine k_iadd (pc := 53) dX0_tallWhenTold_53 ?_
      exact k_ireturn (pc := 54) rfl dX0_tallWhenTold_54
    · refine k_lookup (off := 49) (pc := 6) 55 dX0_tallWhenTold_6 (by decide) (by refine (lv_osw hs1_0 rfl).trans ?_; refine (lv_osw hs1_1 rfl).trans ?_; rfl) (by decide) ?_
      refine k_aload_n (pc := 55) dX0_tallWhenTold_55 rfl ?_
      refine k_gTX0_heights (pc := 56) kwf_X0_18 rfl dX0_tallWhenTold_56 ?_
      refine k_iload_n (pc := 59) dX0_tallWhenTold_59 rfl ?_
      refine k_lT14 (pc := 60) dX0_tallWhenTold_60 ?_
      exact k_ireturn (pc := 61) rfl dX0_tallWhenTold_61
-- TallTales$House.tallOf(I)I
theorem ckX0_tallOf : k_Vok yX0_tallOf cX0_tallOf 2 (some .int) 1 := ⟨kwk_X0_tallOf, kwi_X0_tallOf, kwv_X0_tallOf, kwn_X0, by decide, by decide +kernel⟩
abbrev rmX0_tallOf : Room := { frames := 1, cells := 0, slots := 0, locals := 22 }
abbrev YX0_tallOf : k_Y := (rmX0_tallOf, cX0_tallOf, 2, RX0, (some .int))
noncomputable def fX0_tallOf (σ : k_S) (x1 : Int32) : Option (Int32 × k_S) := k_gd (x1) 10 (k_ob (fX0_tallWhenTold σ x1 (σ.2 8 (Int32.toNatClampNeg (x1)))) fun r1 σ2 => some (r1, σ2))
set_option maxRecDepth 100000 in
set_option maxHeartbeats 4000000 in
theorem kX0_tallOf {D : va_G} {cI : ClassId} {q : Nat → Nat} {σ : k_S} {x1 : Int32} {r : Int32} {τ : k_S} (h : fX0_tallOf σ x1 = some (r, τ)) : k_Ct k_ei yX0_tallOf cX0_tallOf 2 (some .int) rmX0_tallOf (cT cI q) D cI [.ref (q 3), .int x1] σ r τ := by
  refine k_met (Y := YX0_tallOf) (cT_same _ _) (by decide) rfl (Nat.le_of_ble_eq_true rfl) (List.forall_mem_cons.mpr ⟨rfl, List.forall_mem_cons.mpr ⟨rfl, fun _ h => absurd h List.not_mem_nil⟩⟩) (fun X hD hI => ?_) h
  subst hD hI
  show KO X YX0_tallOf (cT (k_I X) q) 0 0 (k_Q k_ei X (cT (k_I X) q)) 0 [some (.ref (q 3)), some (.int x1)] [] σ _
  unfold fX0_tallOf
  refine k_aload_n (pc := 0) dX0_tallOf_0 rfl ?_
  refine k_iload_n (pc := 1) dX0_tallOf_1 rfl ?_
  refine k_aload_n (pc := 2) dX0_tallOf_2 rfl ?_
  refine k_gTX0_told (pc := 3) kwf_X0_21 rfl dX0_tallOf_3 ?_
  refine k_iload_n (pc := 6) dX0_tallOf_6 rfl ?_
  refine k_lT15 (pc := 7) dX0_tallOf_7 ?_
  refine k_vi2 (pc := 8) (cT_same _ _) ckX0_tallWhenTold kwm_X0_77 cT_rv3 ⟨rfl, rfl⟩ ⟨Nat.le_of_ble_eq_true rfl, Nat.le_of_ble_eq_true rfl⟩ ⟨Nat.zero_le _, Nat.zero_le _⟩ (Nat.le_of_ble_eq_true rfl) dX0_tallOf_8 (fun _ _ hf => kX0_tallWhenTold hf) (fun r1 σ2 => ?_)
  exact k_ireturn (pc := 11) rfl dX0_tallOf_11
-- TallTales$House.mayBeTold(IIII)Z
theorem ckX0_mayBeTold : k_Vok yX0_mayBeTold cX0_mayBeTold 5 (some .boolean) 4 := ⟨kwk_X0_mayBeTold, kwi_X0_mayBeTold, kwv_X0_mayBeTold, kwn_X0, by decide, by decide +kernel⟩
abbrev rmX0_mayBeTold : Room := { frames := 0, cells := 0, slots := 0, locals := 0 }
abbrev YX0_mayBeTold : k_Y := (rmX0_mayBeTold, cX0_mayBeTold, 5, RX0, (some .boolean))
noncomputable def fX0_mayBeTold (σ : k_S) (x1 x2 x3 x4 : Int32) : Option (Int32 × k_S) := (if x2 = 0 then k_z ((nI 1)) (some ((nI 1), σ)) else k_gd (x1) 10 ((if σ.2 5 (Int32.toNatClampNeg (x1)) = (nI 1) then (if x3 = (x4 - (nI 1)) then k_z ((nI 0)) (some ((nI 0), σ)) else k_z ((nI 1)) (some ((nI 1), σ))) else (if σ.2 5 (Int32.toNatClampNeg (x1)) = (nI 2) then k_z ((nI 0)) (some ((nI 0), σ)) else (if x4 < ((x3 + (nI 1)) + σ.1 5) then k_z ((nI 0)) (some ((nI 0), σ)) else k_z ((nI 1)) (some ((nI 1), σ)))))))
set_option maxRecDepth 100000 in
set_option maxHeartbeats 4000000 in
theorem kX0_mayBeTold {D : va_G} {cI : ClassId} {q : Nat → Nat} {σ : k_S} {x1 x2 x3 x4 : Int32} {r : Int32} {τ : k_S} (h : fX0_mayBeTold σ x1 x2 x3 x4 = some (r, τ)) : k_Ct k_ei yX0_mayBeTold cX0_mayBeTold 5 (some .boolean) rmX0_mayBeTold (cT cI q) D cI [.ref (q 3), .int x1, .int x2, .int x3, .int x4] σ r τ := by
  refine k_met (Y := YX0_mayBeTold) (cT_same _ _) (by decide) rfl (Nat.le_of_ble_eq_true rfl) (List.forall_mem_cons.mpr ⟨rfl, List.forall_mem_cons.mpr ⟨rfl, List.forall_mem_cons.mpr ⟨rfl, List.forall_mem_cons.mpr ⟨rfl, List.forall_mem_cons.mpr ⟨rfl, fun _ h => absurd h List.not_mem_nil⟩⟩⟩⟩⟩) (fun X hD hI => ?_) h
  subst hD hI
  show KO X YX0_mayBeTold (cT (k_I X) q) 0 0 (k_Q k_ei X (cT (k_I X) q)) 0 [some (.ref (q 3)), some (.int x1), some (.int x2), some (.int x3), some (.int x4)] [] σ _
  unfold fX0_mayBeTold
  refine k_iload_n (pc := 0) dX0_mayBeTold_0 rfl ?_
  refine k_if_ne (pc := 1) 6 dX0_mayBeTold_1 (by decide) ?_ ?_
  · refine k_aload_n (pc := 6) dX0_mayBeTold_6 rfl ?_
    refine k_gTX0_kinds (pc := 7) kwf_X0_9 rfl dX0_mayBeTold_7 ?_
    refine k_iload_n (pc := 10) dX0_mayBeTold_10 rfl ?_
    refine k_lT12 (pc := 11) dX0_mayBeTold_11 ?_
    refine KO.ite (c := σ.2 5 (Int32.toNatClampNeg (x1)) = (nI 1)) (fun hs1_0 => ?_) (fun hs1_0 => ?_)
    · refine k_lookup (off := 28) (pc := 12) 40 dX0_mayBeTold_12 (by decide) (by rw [hs1_0]; decide) (by decide) ?_
      refine k_iload_n (pc := 40) dX0_mayBeTold_40 rfl ?_
      refine k_iload (pc := 41) dX0_mayBeTold_41 rfl ?_
      refine k_iconst (pc := 43) (v := (nI 1)) dX0_mayBeTold_43 (by decide) ?_
      refine k_isub (pc := 44) dX0_mayBeTold_44 ?_
      refine k_icmp_eq (pc := 45) 52 dX0_mayBeTold_45 (by decide) ?_ ?_
      · refine k_iconst (pc := 52) (v := (nI 0)) dX0_mayBeTold_52 (by decide) ?_
        exact k_zreturn (pc := 53) rfl dX0_mayBeTold_53
      · refine k_iconst (pc := 48) (v := (nI 1)) dX0_mayBeTold_48 (by decide) ?_
        refine k_goto (pc := 49) 53 dX0_mayBeTold_49 (by decide) ?_
        exact k_zreturn (pc := 53) rfl dX0_mayBeTold_53
    · refine KO.ite (c := σ.2 5 (Int32.toNatClampNeg (x1)) = (nI 2)) (fun hs1_1 => ?_) (fun hs1_1 => ?_)
      · refine k_lookup (off := 42) (pc := 12) 54 dX0_mayBeTold_12 (by decide) (by rw [hs1_1]; decide) (by decide) ?_
        refine k_iconst (pc := 54) (v := (nI 0)) dX0_mayBeTold_54 (by decide) ?_
        exact k_zreturn (pc := 55) rfl dX0_mayBeTold_55
      · refine k_lookup (off := 44) (pc := 12) 56 dX0_mayBeTold_12 (by decide) (by refine (lv_osw hs1_0 rfl).trans ?_; refine (lv_osw hs1_1 rfl).trans ?_; rfl) (by decide) ?_
        refine k_iload (pc := 56) dX0_mayBeTold_56 rfl ?_
        refine k_iload_n (pc := 58) dX0_mayBeTold_58 rfl ?_
        refine k_iconst (pc := 59) (v := (nI 1)) dX0_mayBeTold_59 (by decide) ?_
        refine k_iadd (pc := 60) dX0_mayBeTold_60 ?_
        refine k_aload_n (pc := 61) dX0_mayBeTold_61 rfl ?_
        refine k_gTX0_memory (pc := 62) kwf_X0_63 rfl dX0_mayBeTold_62 ?_
        refine k_iadd (pc := 65) dX0_mayBeTold_65 ?_
        refine k_icmp_lt (pc := 66) 73 dX0_mayBeTold_66 (by decide) ?_ ?_
        · refine k_iconst (pc := 73) (v := (nI 0)) dX0_mayBeTold_73 (by decide) ?_
          exact k_zreturn (pc := 74) rfl dX0_mayBeTold_74
        · refine k_iconst (pc := 69) (v := (nI 1)) dX0_mayBeTold_69 (by decide) ?_
          refine k_goto (pc := 70) 74 dX0_mayBeTold_70 (by decide) ?_
          exact k_zreturn (pc := 74) rfl dX0_mayBeTold_74
  · refine k_iconst (pc := 4) (v := (nI 1)) dX0_mayBeTold_4 (by decide) ?_
    exact k_zreturn (pc := 5) rfl dX0_mayBeTold_5
-- TallTales$House.isTellable(I)Z
theorem ckX0_isTellable : k_Vok yX0_isTellable cX0_isTellable 2 (some .boolean) 1 := ⟨kwk_X0_isTellable, kwi_X0_isTellable, kwv_X0_isTellable, kwn_X0, by decide, by decide +kernel⟩
abbrev rmX0_isTellable : Room := { frames := 1, cells := 0, slots := 0, locals := 24 }
abbrev YX0_isTellable : k_Y := (rmX0_isTellable, cX0_isTellable, 2, RX0, (some .boolean))
noncomputable def fX0_isTellable (σ : k_S) (x1 : Int32) : Option (Int32 × k_S) := k_gd (x1) 10 (k_gd (x1) 10 (k_ob (fX0_mayBeTold σ x1 (σ.2 8 (Int32.toNatClampNeg (x1))) (σ.2 9 (Int32.toNatClampNeg (x1))) (σ.1 6)) fun r1 σ2 => k_z (r1) (some (r1, σ2))))
set_option maxRecDepth 100000 in
set_option maxHeartbeats 4000000 in
theorem kX0_isTellable {D : va_G} {cI : ClassId} {q : Nat → Nat} {σ : k_S} {x1 : Int32} {r : Int32} {τ : k_S} (h : fX0_isTellable σ x1 = some (r, τ)) : k_Ct k_ei yX0_isTellable cX0_isTellable 2 (some .boolean) rmX0_isTellable (cT cI q) D cI [.ref (q 3), .int x1] σ r τ := by
  refine k_met (Y := YX0_isTellable) (cT_same _ _) (by decide) rfl (Nat.le_of_ble_eq_true rfl) (List.forall_mem_cons.mpr ⟨rfl, List.forall_mem_cons.mpr ⟨rfl, fun _ h => absurd h List.not_mem_nil⟩⟩) (fun X hD hI => ?_) h
  subst hD hI
  show KO X YX0_isTellable (cT (k_I X) q) 0 0 (k_Q k_ei X (cT (k_I X) q)) 0 [some (.ref (q 3)), some (.int x1)] [] σ _
  unfold fX0_isTellable
  refine k_aload_n (pc := 0) dX0_isTellable_0 rfl ?_
  refine k_iload_n (pc := 1) dX0_isTellable_1 rfl ?_
  refine k_aload_n (pc := 2) dX0_isTellable_2 rfl ?_
  refine k_gTX0_told (pc := 3) kwf_X0_21 rfl dX0_isTellable_3 ?_
  refine k_iload_n (pc := 6) dX0_isTellable_6 rfl ?_
  refine k_lT15 (pc := 7) dX0_isTellable_7 ?_
  refine k_aload_n (pc := 8) dX0_isTellable_8 rfl ?_
  refine k_gTX0_last (pc := 9) kwf_X0_24 rfl dX0_isTellable_9 ?_
  refine k_iload_n (pc := 12) dX0_isTellable_12 rfl ?_
  refine k_lT16 (pc := 13) dX0_isTellable_13 ?_
  refine k_aload_n (pc := 14) dX0_isTellable_14 rfl ?_
  refine k_gTX0_nights (pc := 15) kwf_X0_66 rfl dX0_isTellable_15 ?_
  refine k_vi4 (pc := 18) (cT_same _ _) ckX0_mayBeTold kwm_X0_73 cT_rv3 ⟨rfl, rfl⟩ ⟨Nat.le_of_ble_eq_true rfl, Nat.le_of_ble_eq_true rfl⟩ ⟨Nat.zero_le _, Nat.zero_le _⟩ (Nat.le_of_ble_eq_true rfl) dX0_isTellable_18 (fun _ _ hf => kX0_mayBeTold hf) (fun r1 σ2 => ?_)
  exact k_zreturn (pc := 21) rfl dX0_isTellable_21
-- TallTales.ofTale(II)I
theorem ckX6_ofTale : k_Vok yX6_ofTale cX6_ofTale 3 (some .int) 2 := ⟨kwk_X6_ofTale, kwi_X6_ofTale, kwv_X6_ofTale, kwn_X6, by decide, by decide +kernel⟩
abbrev rmX6_ofTale : Room := { frames := 2, cells := 0, slots := 0, locals := 45 }
abbrev YX6_ofTale : k_Y := (rmX6_ofTale, cX6_ofTale, 3, RX6, (some .int))
noncomputable def fX6_ofTale (σ : k_S) (x1 x2 : Int32) : Option (Int32 × k_S) := k_ob (fX0_hasTale σ x1) fun r1 σ2 => (if r1 = 0 then some ((k_ng 1), σ2) else (if x2 = (nI 0) then k_gd (x1) 10 (some (σ2.2 5 (Int32.toNatClampNeg (x1)), σ2)) else (if x2 = (nI 1) then k_gd (x1) 10 (some (σ2.2 6 (Int32.toNatClampNeg (x1)), σ2)) else (if x2 = (nI 2) then k_gd (x1) 10 (some (σ2.2 7 (Int32.toNatClampNeg (x1)), σ2)) else (if x2 = (nI 3) then k_gd (x1) 10 (some (σ2.2 8 (Int32.toNatClampNeg (x1)), σ2)) else (if x2 = (nI 4) then k_gd (x1) 10 (some (σ2.2 9 (Int32.toNatClampNeg (x1)), σ2)) else (if x2 = (nI 5) then k_ob (fX0_isTellable σ2 x1) fun r4 σ5 => (if r4 = 0 then some ((nI 0), σ5) else some ((nI 1), σ5)) else (if x2 = (nI 6) then k_ob (fX0_tallOf σ2 x1) fun r6 σ7 => some (r6, σ7) else some ((k_ng 2), σ2)))))))))
set_option maxRecDepth 100000 in
set_option maxHeartbeats 4000000 in
theorem kX6_ofTale {D : va_G} {cI : ClassId} {q : Nat → Nat} {σ : k_S} {x1 x2 : Int32} {r : Int32} {τ : k_S} (h : fX6_ofTale σ x1 x2 = some (r, τ)) : k_Ct k_ei yX6_ofTale cX6_ofTale 3 (some .int) rmX6_ofTale (cT cI q) D cI [.ref (q 0), .int x1, .int x2] σ r τ := by
  refine k_met (Y := YX6_ofTale) (cT_same _ _) (by decide) rfl (Nat.le_of_ble_eq_true rfl) (List.forall_mem_cons.mpr ⟨rfl, List.forall_mem_cons.mpr ⟨rfl, List.forall_mem_cons.mpr ⟨rfl, fun _ h => absurd h List.not_mem_nil⟩⟩⟩) (fun X hD hI => ?_) h
  subst hD hI
  show KO X YX6_ofTale (cT (k_I X) q) 0 0 (k_Q k_ei X (cT (k_I X) q)) 0 [some (.ref (q 0)), some (.int x1), some (.int x2)] [] σ _
  unfold fX6_ofTale
  refine k_aload_n (pc := 0) dX6_ofTale_0 rfl ?_
  refine k_gTX6_house (pc := 1) kwf_X6_28 rfl dX6_ofTale_1 ?_
  refine k_iload_n (pc := 4) dX6_ofTale_4 rfl ?_
  refine k_vi1 (pc := 5) (cT_same _ _) ckX0_hasTale kwm_X6_101 cT_rv3 ⟨rfl, rfl⟩ ⟨Nat.le_of_ble_eq_true rfl, Nat.le_of_ble_eq_true rfl⟩ ⟨Nat.zero_le _, Nat.zero_le _⟩ (Nat.le_of_ble_eq_true rfl) dX6_ofTale_5 (fun _ _ hf => kX0_hasTale hf) (fun r1 σ2 => ?_)
  refine k_if_ne (pc := 8) 13 dX6_ofTale_8 (by decide) ?_ ?_
  · refine k_iload_n (pc := 13) dX6_ofTale_13 rfl ?_
    refine KO.ite (c := x2 = (nI 0)) (fun hs3_0 => ?_) (fun hs3_0 => ?_)
    · refine k_tableIn (off := 42) (pc := 14) 56 dX6_ofTale_14 hs3_0 (by decide) (by decide) (by decide) (by decide) ?_
      refine k_aload_n (pc := 56) dX6_ofTale_56 rfl ?_
      refine k_gTX6_house (pc := 57) kwf_X6_28 rfl dX6_ofTale_57 ?_
      refine k_gTX0_kinds (pc := 60) kwf_X6_104 rfl dX6_ofTale_60 ?_
      refine k_iload_n (pc := 63) dX6_ofTale_63 rfl ?_
      refine k_lT12 (pc := 64) dX6_ofTale_64 ?_
      exact k_ireturn (pc := 65) rfl dX6_ofTale_65
    · refine KO.ite (c := x2 = (nI 1)) (fun hs3_1 => ?_) (fun hs3_1 => ?_)
      · refine k_tableIn (off := 52) (pc := 14) 66 dX6_ofTale_14 hs3_1 (by decide) (by decide) (by decide) (by decide) ?_
        refine k_aload_n (pc := 66) dX6_ofTale_66 rfl ?_
        refine k_gTX6_house (pc := 67) kwf_X6_28 rfl dX6_ofTale_67 ?_
        refine k_gTX0_owners (pc := 70) kwf_X6_107 rfl dX6_ofTale_70 ?_
        refine k_iload_n (pc := 73) dX6_ofTale_73 rfl ?_
        refine k_lT13 (pc := 74) dX6_ofTale_74 ?_
        exact k_ireturn (pc := 75) rfl dX6_ofTale_75
      · refine KO.ite (c := x2 = (nI 2)) (fun hs3_2 => ?_) (fun hs3_2 => ?_)
        · refine k_tableIn (off := 62) (pc := 14) 76 dX6_ofTale_14 hs3_2 (by decide) (by decide) (by decide) (by decide) ?_
          refine k_aload_n (pc := 76) dX6_ofTale_76 rfl ?_
          refine k_gTX6_house (pc := 77) kwf_X6_28 rfl dX6_ofTale_77 ?_
          refine k_gTX0_heights (pc := 80) kwf_X6_110 rfl dX6_ofTale_80 ?_
          refine k_iload_n (pc := 83) dX6_ofTale_83 rfl ?_
          refine k_lT14 (pc := 84) dX6_ofTale_84 ?_
          exact k_ireturn (pc := 85) rfl dX6_ofTale_85
        · refine KO.ite (c := x2 = (nI 3)) (fun hs3_3 => ?_) (fun hs3_3 => ?_)
          · refine k_tableIn (off := 72) (pc := 14) 86 dX6_ofTale_14 hs3_3 (by decide) (by decide) (by decide) (by decide) ?_
            refine k_aload_n (pc := 86) dX6_ofTale_86 rfl ?_
            refine k_gTX6_house (pc := 87) kwf_X6_28 rfl dX6_ofTale_87 ?_
            refine k_gTX0_told (pc := 90) kwf_X6_113 rfl dX6_ofTale_90 ?_
            refine k_iload_n (pc := 93) dX6_ofTale_93 rfl ?_
            refine k_lT15 (pc := 94) dX6_ofTale_94 ?_
            exact k_ireturn (pc := 95) rfl dX6_ofTale_95
          · refine KO.ite (c := x2 = (nI 4)) (fun hs3_4 => ?_) (fun hs3_4 => ?_)
            · refine k_tableIn (off := 82) (pc := 14) 96 dX6_ofTale_14 hs3_4 (by decide) (by decide) (by decide) (by decide) ?_
              refine k_aload_n (pc := 96) dX6_ofTale_96 rfl ?_
              refine k_gTX6_house (pc := 97) kwf_X6_28 rfl dX6_ofTale_97 ?_
              refine k_gTX0_last (pc := 100) kwf_X6_116 rfl dX6_ofTale_100 ?_
              refine k_iload_n (pc := 103) dX6_ofTale_103 rfl ?_
              refine k_lT16 (pc := 104) dX6_ofTale_104 ?_
              exact k_ireturn (pc := 105) rfl dX6_ofTale_105
            · refine KO.ite (c := x2 = (nI 5)) (fun hs3_5 => ?_) (fun hs3_5 => ?_)
              · refine k_tableIn (off := 92) (pc := 14) 106 dX6_ofTale_14 hs3_5 (by decide) (by decide) (by decide) (by decide) ?_
                refine k_aload_n (pc := 106) dX6_ofTale_106 rfl ?_
                refine k_gTX6_house (pc := 107) kwf_X6_28 rfl dX6_ofTale_107 ?_
                refine k_iload_n (pc := 110) dX6_ofTale_110 rfl ?_
                refine k_vi1 (pc := 111) (cT_same _ _) ckX0_isTellable kwm_X6_119 cT_rv3 ⟨rfl, rfl⟩ ⟨Nat.le_of_ble_eq_true rfl, Nat.le_of_ble_eq_true rfl⟩ ⟨Nat.zero_le _, Nat.zero_le _⟩ (Nat.le_of_ble_eq_true rfl) dX6_ofTale_111 (fun _ _ hf => kX0_isTellable hf) (fun r4 σ5 => ?_)
                refine k_if_eq (pc := 114) 121 dX6_ofTale_114 (by decide) ?_ ?_
                · refine k_iconst (pc := 121) (v := (nI 0)) dX6_ofTale_121 (by decide) ?_
                  exact k_ireturn (pc := 122) rfl dX6_ofTale_122
                · refine k_iconst (pc := 117) (v := (nI 1)) dX6_ofTale_117 (by decide) ?_
                  refine k_goto (pc := 118) 122 dX6_ofTale_118 (by decide) ?_
                  exact k_ireturn (pc := 122) rfl dX6_ofTale_122
              · refine KO.ite (c := x2 = (nI 6)) (fun hs3_6 => ?_) (fun hs3_6 => ?_)
                · refine k_tableIn (off := 109) (pc := 14) 123 dX6_ofTale_14 hs3_6 (by decide) (by decide) (by decide) (by decide) ?_
                  refine k_aload_n (pc := 123) dX6_ofTale_123 rfl ?_
                  refine k_gTX6_house (pc := 124) kwf_X6_28 rfl dX6_ofTale_124 ?_
                  refine k_iload_n (pc := 127) dX6_ofTale_127 rfl ?_
                  refine k_vi1 (pc := 128) (cT_same _ _) ckX0_tallOf kwm_X6_122 cT_rv3 ⟨rfl, rfl⟩ ⟨Nat.le_of_ble_eq_true rfl, Nat.le_of_ble_eq_true rfl⟩ ⟨Nat.zero_le _, Nat.zero_le _⟩ (Nat.le_of_ble_eq_true rfl) dX6_ofTale_128 (fun _ _ hf => kX0_tallOf hf) (fun r6 σ7 => ?_)
                  exact k_ireturn (pc := 131) rfl dX6_ofTale_131
                · refine k_tableOut (pc := 14) 132 dX6_ofTale_14 (by have g0 := lv_neT (a := 0) hs3_0 (by decide); have g1 := lv_neT (a := 1) hs3_1 (by decide); have g2 := lv_neT (a := 2) hs3_2 (by decide); have g3 := lv_neT (a := 3) hs3_3 (by decide); have g4 := lv_neT (a := 4) hs3_4 (by decide); have g5 := lv_neT (a := 5) hs3_5 (by decide); have g6 := lv_neT (a := 6) hs3_6 (by decide); omega) (by decide) ?_
                  refine k_bipush (pc := 132) (v := (k_ng 2)) dX6_ofTale_132 (by decide) ?_
                  exact k_ireturn (pc := 134) rfl dX6_ofTale_134
  · refine k_iconst (pc := 11) (v := (k_ng 1)) dX6_ofTale_11 (by decide) ?_
    exact k_ireturn (pc := 12) rfl dX6_ofTale_12
-- TallTales$House.isOpen()Z
theorem ckX0_isOpen : k_Vok yX0_isOpen cX0_isOpen 1 (some .boolean) 0 := ⟨kwk_X0_isOpen, kwi_X0_isOpen, kwv_X0_isOpen, kwn_X0, by decide, by decide +kernel⟩
abbrev rmX0_isOpen : Room := { frames := 0, cells := 0, slots := 0, locals := 0 }
abbrev YX0_isOpen : k_Y := (rmX0_isOpen, cX0_isOpen, 1, RX0, (some .boolean))
noncomputable def fX0_isOpen (σ : k_S) : Option (Int32 × k_S) := (if 0 < σ.1 3 then k_z ((nI 1)) (some ((nI 1), σ)) else k_z ((nI 0)) (some ((nI 0), σ)))
set_option maxRecDepth 100000 in
set_option maxHeartbeats 4000000 in
theorem kX0_isOpen {D : va_G} {cI : ClassId} {q : Nat → Nat} {σ : k_S} {r : Int32} {τ : k_S} (h : fX0_isOpen σ = some (r, τ)) : k_Ct k_ei yX0_isOpen cX0_isOpen 1 (some .boolean) rmX0_isOpen (cT cI q) D cI [.ref (q 3)] σ r τ := by
  refine k_met (Y := YX0_isOpen) (cT_same _ _) (by decide) rfl (Nat.le_of_ble_eq_true rfl) (List.forall_mem_cons.mpr ⟨rfl, fun _ h => absurd h List.not_mem_nil⟩) (fun X hD hI => ?_) h
  subst hD hI
  show KO X YX0_isOpen (cT (k_I X) q) 0 0 (k_Q k_ei X (cT (k_I X) q)) 0 [some (.ref (q 3))] [] σ _
  unfold fX0_isOpen
  refine k_aload_n (pc := 0) dX0_isOpen_0 rfl ?_
  refine k_gTX0_guests (pc := 1) kwf_X0_45 rfl dX0_isOpen_1 ?_
  refine k_if_le (pc := 4) 11 dX0_isOpen_4 (by decide) ?_ ?_
  · refine k_iconst (pc := 11) (v := (nI 0)) dX0_isOpen_11 (by decide) ?_
    exact k_zreturn (pc := 12) rfl dX0_isOpen_12
  · refine k_iconst (pc := 7) (v := (nI 1)) dX0_isOpen_7 (by decide) ?_
    refine k_goto (pc := 8) 12 dX0_isOpen_8 (by decide) ?_
    exact k_zreturn (pc := 12) rfl dX0_isOpen_12
-- TallTales.memory(I)I
theorem ckX6_memory : k_Vok yX6_memory cX6_memory 3 (some .int) 1 := ⟨kwk_X6_memory, kwi_X6_memory, kwv_X6_memory, kwn_X6, by decide, by decide +kernel⟩
abbrev rmX6_memory : Room := { frames := 1, cells := 0, slots := 0, locals := 20 }
abbrev YX6_memory : k_Y := (rmX6_memory, cX6_memory, 3, RX6, (some .int))
noncomputable def fX6_memory (σ : k_S) (x1 : Int32) : Option (Int32 × k_S) := (if x1 < 0 then some ((k_ng 2), σ) else (if (nI 99) < x1 then some ((k_ng 2), σ) else k_ob (fX0_isOpen σ) fun r1 σ2 => (if r1 = 0 then some ((k_ng 3), σ2) else k_bn (σ2.1 5) fun v3 => k_bn (k_sf σ2 5 (x1)) fun σ4 => some (v3, σ4))))
set_option maxRecDepth 100000 in
set_option maxHeartbeats 4000000 in
theorem kX6_memory {D : va_G} {cI : ClassId} {q : Nat → Nat} {σ : k_S} {x1 : Int32} {r : Int32} {τ : k_S} (h : fX6_memory σ x1 = some (r, τ)) : k_Ct k_ei yX6_memory cX6_memory 3 (some .int) rmX6_memory (cT cI q) D cI [.ref (q 0), .int x1] σ r τ := by
  refine k_met (Y := YX6_memory) (cT_same _ _) (by decide) rfl (Nat.le_of_ble_eq_true rfl) (List.forall_mem_cons.mpr ⟨rfl, List.forall_mem_cons.mpr ⟨rfl, fun _ h => absurd h List.not_mem_nil⟩⟩) (fun X hD hI => ?_) h
  subst hD hI
  show KO X YX6_memory (cT (k_I X) q) 0 0 (k_Q k_ei X (cT (k_I X) q)) 0 [some (.ref (q 0)), some (.int x1), none] [] σ _
  unfold fX6_memory
  refine k_iload_n (pc := 0) dX6_memory_0 rfl ?_
  refine k_if_lt (pc := 1) 10 dX6_memory_1 (by decide) ?_ ?_
  · refine k_bipush (pc := 10) (v := (k_ng 2)) dX6_memory_10 (by decide) ?_
    exact k_ireturn (pc := 12) rfl dX6_memory_12
  · refine k_iload_n (pc := 4) dX6_memory_4 rfl ?_
    refine k_bipush (pc := 5) (v := (nI 99)) dX6_memory_5 (by decide) ?_
    refine k_icmp_le (pc := 7) 13 dX6_memory_7 (by decide) ?_ ?_
    · refine k_aload_n (pc := 13) dX6_memory_13 rfl ?_
      refine k_gTX6_house (pc := 14) kwf_X6_28 rfl dX6_memory_14 ?_
      refine k_vi0 (pc := 17) (cT_same _ _) ckX0_isOpen kwm_X6_125 cT_rv3 ⟨rfl, rfl⟩ ⟨Nat.le_of_ble_eq_true rfl, Nat.le_of_ble_eq_true rfl⟩ ⟨Nat.zero_le _, Nat.zero_le _⟩ (Nat.le_of_ble_eq_true rfl) dX6_memory_17 (fun _ _ hf => kX0_isOpen hf) (fun r1 σ2 => ?_)
      refine k_if_ne (pc := 20) 26 dX6_memory_20 (by decide) ?_ ?_
      · refine k_aload_n (pc := 26) dX6_memory_26 rfl ?_
        refine k_gTX6_house (pc := 27) kwf_X6_28 rfl dX6_memory_27 ?_
        refine k_gTX0_memory (pc := 30) kwf_X6_129 rfl dX6_memory_30 ?_
        refine k_ist2 (pc := 33) dX6_memory_33 (Nat.le_of_ble_eq_true rfl) (fun v3 => ?_)
        refine k_aload_n (pc := 34) dX6_memory_34 rfl ?_
        refine k_gTX6_house (pc := 35) kwf_X6_28 rfl dX6_memory_35 ?_
        refine k_iload_n (pc := 38) dX6_memory_38 rfl ?_
        refine k_pTX0_memory (pc := 39) kwf_X6_129 rfl dX6_memory_39 (fun σ4 => ?_)
        refine k_iload_n (pc := 42) dX6_memory_42 rfl ?_
        exact k_ireturn (pc := 43) rfl dX6_memory_43
      · refine k_bipush (pc := 23) (v := (k_ng 3)) dX6_memory_23 (by decide) ?_
        exact k_ireturn (pc := 25) rfl dX6_memory_25
    · refine k_bipush (pc := 10) (v := (k_ng 2)) dX6_memory_10 (by decide) ?_
      exact k_ireturn (pc := 12) rfl dX6_memory_12
-- TallTales$House.hasGuest(I)Z
theorem ckX0_hasGuest : k_Vok yX0_hasGuest cX0_hasGuest 2 (some .boolean) 1 := ⟨kwk_X0_hasGuest, kwi_X0_hasGuest, kwv_X0_hasGuest, kwn_X0, by decide, by decide +kernel⟩
abbrev rmX0_hasGuest : Room := { frames := 0, cells := 0, slots := 0, locals := 0 }
abbrev YX0_hasGuest : k_Y := (rmX0_hasGuest, cX0_hasGuest, 2, RX0, (some .boolean))
noncomputable def fX0_hasGuest (σ : k_S) (x1 : Int32) : Option (Int32 × k_S) := (if x1 < 0 then k_z ((nI 0)) (some ((nI 0), σ)) else (if x1 < σ.1 3 then k_z ((nI 1)) (some ((nI 1), σ)) else k_z ((nI 0)) (some ((nI 0), σ))))
set_option maxRecDepth 100000 in
set_option maxHeartbeats 4000000 in
theorem kX0_hasGuest {D : va_G} {cI : ClassId} {q : Nat → Nat} {σ : k_S} {x1 : Int32} {r : Int32} {τ : k_S} (h : fX0_hasGuest σ x1 = some (r, τ)) : k_Ct k_ei yX0_hasGuest cX0_hasGuest 2 (some .boolean) rmX0_hasGuest (cT cI q) D cI [.ref (q 3), .int x1] σ r τ := by
  refine k_met (Y := YX0_hasGuest) (cT_same _ _) (by decide) rfl (Nat.le_of_ble_eq_true rfl) (List.forall_mem_cons.mpr ⟨rfl, List.forall_mem_cons.mpr ⟨rfl, fun _ h => absurd h List.not_mem_nil⟩⟩) (fun X hD hI => ?_) h
  subst hD hI
  show KO X YX0_hasGuest (cT (k_I X) q) 0 0 (k_Q k_ei X (cT (k_I X) q)) 0 [some (.ref (q 3)), some (.int x1)] [] σ _
  unfold fX0_hasGuest
  refine k_iload_n (pc := 0) dX0_hasGuest_0 rfl ?_
  refine k_if_lt (pc := 1) 16 dX0_hasGuest_1 (by decide) ?_ ?_
  · refine k_iconst (pc := 16) (v := (nI 0)) dX0_hasGuest_16 (by decide) ?_
    exact k_zreturn (pc := 17) rfl dX0_hasGuest_17
  · refine k_iload_n (pc := 4) dX0_hasGuest_4 rfl ?_
    refine k_aload_n (pc := 5) dX0_hasGuest_5 rfl ?_
    refine k_gTX0_guests (pc := 6) kwf_X0_45 rfl dX0_hasGuest_6 ?_
    refine k_icmp_ge (pc := 9) 16 dX0_hasGuest_9 (by decide) ?_ ?_
    · refine k_iconst (pc := 16) (v := (nI 0)) dX0_hasGuest_16 (by decide) ?_
      exact k_zreturn (pc := 17) rfl dX0_hasGuest_17
    · refine k_iconst (pc := 12) (v := (nI 1)) dX0_hasGuest_12 (by decide) ?_
      refine k_goto (pc := 13) 17 dX0_hasGuest_13 (by decide) ?_
      exact k_zreturn (pc := 17) rfl dX0_hasGuest_17
-- TallTales.choose(II)I
theorem ckX6_choose : k_Vok yX6_choose cX6_choose 4 (some .int) 2 := ⟨kwk_X6_choose, kwi_X6_choose, kwv_X6_choose, kwn_X6, by decide, by decide +kernel⟩
abbrev rmX6_choose : Room := { frames := 2, cells := 0, slots := 0, locals := 45 }
abbrev YX6_choose : k_Y := (rmX6_choose, cX6_choose, 4, RX6, (some .int))
noncomputable def fX6_choose_c59 (σ : k_S) (l1 l2 : Int32) : Option (Int32 × k_S) := k_gd (l1) 5 (k_bn (σ.2 10 (Int32.toNatClampNeg (l1))) fun v1 => k_gd (l1) 5 (k_bn (k_sa σ 10 (l1) (l2)) fun σ2 => some (v1, σ2)))
set_option maxRecDepth 100000 in
set_option maxHeartbeats 4000000 in
theorem kX6_choose_c59 {X : k_C} {q : Nat → Nat} (σ : k_S) (l1 l2 : Int32) : KO X YX6_choose (cT (k_I X) q) 0 0 (k_Q k_ei X (cT (k_I X) q)) 59 [some (.ref (q 0)), some (.int l1), some (.int l2), none] [] σ (fX6_choose_c59 σ l1 l2) := by
  unfold fX6_choose_c59
  refine k_aload_n (pc := 59) dX6_choose_59 rfl ?_
  refine k_gTX6_house (pc := 60) kwf_X6_28 rfl dX6_choose_60 ?_
  refine k_gTX0_chosen (pc := 63) kwf_X6_135 rfl dX6_choose_63 ?_
  refine k_iload_n (pc := 66) dX6_choose_66 rfl ?_
  refine k_lT17 (pc := 67) dX6_choose_67 ?_
  refine k_ist3 (pc := 68) dX6_choose_68 (Nat.le_of_ble_eq_true rfl) (fun v1 => ?_)
  refine k_aload_n (pc := 69) dX6_choose_69 rfl ?_
  refine k_gTX6_house (pc := 70) kwf_X6_28 rfl dX6_choose_70 ?_
  refine k_gTX0_chosen (pc := 73) kwf_X6_135 rfl dX6_choose_73 ?_
  refine k_iload_n (pc := 76) dX6_choose_76 rfl ?_
  refine k_iload_n (pc := 77) dX6_choose_77 rfl ?_
  refine k_sT17 (pc := 78) dX6_choose_78 (fun σ2 => ?_)
  refine k_iload_n (pc := 79) dX6_choose_79 rfl ?_
  exact k_ireturn (pc := 80) rfl dX6_choose_80
noncomputable def fX6_choose (σ : k_S) (x1 x2 : Int32) : Option (Int32 × k_S) := k_ob (fX0_hasGuest σ x1) fun r1 σ2 => (if r1 = 0 then some ((k_ng 1), σ2) else (if x2 = (k_ng 9) then fX6_choose_c59 σ2 x1 x2 else k_ob (fX0_hasTale σ2 x2) fun r3 σ4 => (if r3 = 0 then some ((k_ng 1), σ4) else k_gd (x2) 10 ((if σ4.2 6 (Int32.toNatClampNeg (x2)) = x1 then k_ob (fX0_isTellable σ4 x2) fun r5 σ6 => (if r5 = 0 then some ((k_ng 3), σ6) else fX6_choose_c59 σ6 x1 x2) else some ((k_ng 3), σ4))))))
set_option maxRecDepth 100000 in
set_option maxHeartbeats 4000000 in
theorem kX6_choose {D : va_G} {cI : ClassId} {q : Nat → Nat} {σ : k_S} {x1 x2 : Int32} {r : Int32} {τ : k_S} (h : fX6_choose σ x1 x2 = some (r, τ)) : k_Ct k_ei yX6_choose cX6_choose 4 (some .int) rmX6_choose (cT cI q) D cI [.ref (q 0), .int x1, .int x2] σ r τ := by
  refine k_met (Y := YX6_choose) (cT_same _ _) (by decide) rfl (Nat.le_of_ble_eq_true rfl) (List.forall_mem_cons.mpr ⟨rfl, List.forall_mem_cons.mpr ⟨rfl, List.forall_mem_cons.mpr ⟨rfl, fun _ h => absurd h List.not_mem_nil⟩⟩⟩) (fun X hD hI => ?_) h
  subst hD hI
  show KO X YX6_choose (cT (k_I X) q) 0 0 (k_Q k_ei X (cT (k_I X) q)) 0 [some (.ref (q 0)), some (.int x1), some (.int x2), none] [] σ _
  unfold fX6_choose
  refine k_aload_n (pc := 0) dX6_choose_0 rfl ?_
  refine k_gTX6_house (pc := 1) kwf_X6_28 rfl dX6_choose_1 ?_
  refine k_iload_n (pc := 4) dX6_choose_4 rfl ?_
  refine k_vi1 (pc := 5) (cT_same _ _) ckX0_hasGuest kwm_X6_132 cT_rv3 ⟨rfl, rfl⟩ ⟨Nat.le_of_ble_eq_true rfl, Nat.le_of_ble_eq_true rfl⟩ ⟨Nat.zero_le _, Nat.zero_le _⟩ (Nat.le_of_ble_eq_true rfl) dX6_choose_5 (fun _ _ hf => kX0_hasGuest hf) (fun r1 σ2 => ?_)
  refine k_if_ne (pc := 8) 13 dX6_choose_8 (by decide) ?_ ?_
  · refine k_iload_n (pc := 13) dX6_choose_13 rfl ?_
    refine k_bipush (pc := 14) (v := (k_ng 9)) dX6_choose_14 (by decide) ?_
    refine k_icmp_eq (pc := 16) 59 dX6_choose_16 (by decide) ?_ ?_
    · exact kX6_choose_c59 σ2 x1 x2
    · refine k_aload_n (pc := 19) dX6_choose_19 rfl ?_
      refine k_gTX6_house (pc := 20) kwf_X6_28 rfl dX6_choose_20 ?_
      refine k_iload_n (pc := 23) dX6_choose_23 rfl ?_
      refine k_vi1 (pc := 24) (cT_same _ _) ckX0_hasTale kwm_X6_101 cT_rv3 ⟨rfl, rfl⟩ ⟨Nat.le_of_ble_eq_true rfl, Nat.le_of_ble_eq_true rfl⟩ ⟨Nat.zero_le _, Nat.zero_le _⟩ (Nat.le_of_ble_eq_true rfl) dX6_choose_24 (fun _ _ hf => kX0_hasTale hf) (fun r3 σ4 => ?_)
      refine k_if_ne (pc := 27) 32 dX6_choose_27 (by decide) ?_ ?_
      · refine k_aload_n (pc := 32) dX6_choose_32 rfl ?_
        refine k_gTX6_house (pc := 33) kwf_X6_28 rfl dX6_choose_33 ?_
        refine k_gTX0_owners (pc := 36) kwf_X6_107 rfl dX6_choose_36 ?_
        refine k_iload_n (pc := 39) dX6_choose_39 rfl ?_
        refine k_lT13 (pc := 40) dX6_choose_40 ?_
        refine k_iload_n (pc := 41) dX6_choose_41 rfl ?_
        refine k_icmp_ne (pc := 42) 56 dX6_choose_42 (by decide) ?_ ?_
        · refine k_bipush (pc := 56) (v := (k_ng 3)) dX6_choose_56 (by decide) ?_
          exact k_ireturn (pc := 58) rfl dX6_choose_58
        · refine k_aload_n (pc := 45) dX6_choose_45 rfl ?_
          refine k_gTX6_house (pc := 46) kwf_X6_28 rfl dX6_choose_46 ?_
          refine k_iload_n (pc := 49) dX6_choose_49 rfl ?_
          refine k_vi1 (pc := 50) (cT_same _ _) ckX0_isTellable kwm_X6_119 cT_rv3 ⟨rfl, rfl⟩ ⟨Nat.le_of_ble_eq_true rfl, Nat.le_of_ble_eq_true rfl⟩ ⟨Nat.zero_le _, Nat.zero_le _⟩ (Nat.le_of_ble_eq_true rfl) dX6_choose_50 (fun _ _ hf => kX0_isTellable hf) (fun r5 σ6 => ?_)
          refine k_if_ne (pc := 53) 59 dX6_choose_53 (by decide) ?_ ?_
          · exact kX6_choose_c59 σ6 x1 x2
          · refine k_bipush (pc := 56) (v := (k_ng 3)) dX6_choose_56 (by decide) ?_
            exact k_ireturn (pc := 58) rfl dX6_choose_58
      · refine k_iconst (pc := 30) (v := (k_ng 1)) dX6_choose_30 (by decide) ?_
        exact k_ireturn (pc := 31) rfl dX6_choose_31
  · refine k_iconst (pc := 11) (v := (k_ng 1)) dX6_choose_11 (by decide) ?_
    exact k_ireturn (pc := 12) rfl dX6_choose_12
-- TallTales$House.tallsAsChosen(LTallTales$Talls;)V
theorem ckX0_tallsAsChosen : k_Vok yX0_tallsAsChosen cX0_tallsAsChosen 3 none 1 := ⟨kwk_X0_tallsAsChosen, kwi_X0_tallsAsChosen, kwv_X0_tallsAsChosen, kwn_X0, by decide, by decide +kernel⟩
abbrev rmX0_tallsAsChosen : Room := { frames := 2, cells := 0, slots := 0, locals := 43 }
abbrev YX0_tallsAsChosen : k_Y := (rmX0_tallsAsChosen, cX0_tallsAsChosen, 3, RX0, none)
noncomputable def fX0_tallsAsChosen_c50 (kh10 : k_S → Int32 → Option (Unit × k_S)) (σ : k_S) (l2 s1 s2 : Int32) : Option (Unit × k_S) := k_gd (s1) 5 (k_bn (k_sa σ 14 (s1) (s2)) fun σ1 => k_bn (l2 + (nI 1)) fun v2 => kh10 σ1 v2)
set_option maxRecDepth 100000 in
set_option maxHeartbeats 4000000 in
theorem kX0_tallsAsChosen_c50 {X : k_C} {q : Nat → Nat} (kh10 : k_S → Int32 → Option (Unit × k_S)) (hk10 : ∀ (σ : k_S) (l2 : Int32), KO X YX0_tallsAsChosen (cT (k_I X) q) 0 0 (k_Q k_ev X (cT (k_I X) q)) 10 [some (.ref (q 3)), some (.ref (q 4)), some (.int l2)] [] σ (kh10 σ l2)) (σ : k_S) (l2 s1 s2 : Int32) : KO X YX0_tallsAsChosen (cT (k_I X) q) 0 0 (k_Q k_ev X (cT (k_I X) q)) 50 [some (.ref (q 3)), some (.ref (q 4)), some (.int l2)] [.int s2, .int s1, .ref (q 21)] σ (fX0_tallsAsChosen_c50 kh10 σ l2 s1 s2) := by
  unfold fX0_tallsAsChosen_c50
  refine k_sT21 (pc := 50) dX0_tallsAsChosen_50 (fun σ1 => ?_)
  refine k_iinc2 (pc := 51) (w := (nI 1)) dX0_tallsAsChosen_51 rfl (by decide) (Nat.le_of_ble_eq_true rfl) (fun v2 => ?_)
  refine k_goto (pc := 54) 10 dX0_tallsAsChosen_54 (by decide) ?_
  exact hk10 σ1 v2
noncomputable def fX0_tallsAsChosen_c10 : Nat → k_S → Int32 → Option (Unit × k_S)
  | 0, _, _ => none
  | n + 1, σ, l2 => (if l2 < σ.1 3 then k_gd (l2) 5 (k_ob (fX0_hasTale σ (σ.2 10 (Int32.toNatClampNeg (l2)))) fun r1 σ2 => (if r1 = 0 then fX0_tallsAsChosen_c50 (fX0_tallsAsChosen_c10 n) σ2 l2 l2 ((nI 0)) else k_gd (l2) 5 (k_ob (fX0_tallOf σ2 (σ2.2 10 (Int32.toNatClampNeg (l2)))) fun r3 σ4 => fX0_tallsAsChosen_c50 (fX0_tallsAsChosen_c10 n) σ4 l2 l2 r3))) else some ((), σ))
theorem fX0_tallsAsChosen_c10_s (n : Nat) (σ : k_S) (l2 : Int32) : fX0_tallsAsChosen_c10 (n + 1) σ l2 = (if l2 < σ.1 3 then k_gd (l2) 5 (k_ob (fX0_hasTale σ (σ.2 10 (Int32.toNatClampNeg (l2)))) fun r1 σ2 => (if r1 = 0 then fX0_tallsAsChosen_c50 (fX0_tallsAsChosen_c10 n) σ2 l2 l2 ((nI 0)) else k_gd (l2) 5 (k_ob (fX0_tallOf σ2 (σ2.2 10 (Int32.toNatClampNeg (l2)))) fun r3 σ4 => fX0_tallsAsChosen_c50 (fX0_tallsAsChosen_c10 n) σ4 l2 l2 r3))) else some ((), σ)) := rfl
set_option maxRecDepth 100000 in
set_option maxHeartbeats 4000000 in
theorem kX0_tallsAsChosen_c10 {X : k_C} {q : Nat → Nat} : ∀ (n : Nat) (σ : k_S) (l2 : Int32), KO X YX0_tallsAsChosen (cT (k_I X) q) 0 0 (k_Q k_ev X (cT (k_I X) q)) 10 [some (.ref (q 3)), some (.ref (q 4)), some (.int l2)] [] σ (fX0_tallsAsChosen_c10 n σ l2) := by
  intro n
  induction n with
  | zero => intros; exact KO.nil
  | succ n ih =>
    intro σ l2
    rw [fX0_tallsAsChosen_c10_s]
    refine k_iload_n (pc := 10) dX0_tallsAsChosen_10 rfl ?_
    refine k_aload_n (pc := 11) dX0_tallsAsChosen_11 rfl ?_
    refine k_gTX0_guests (pc := 12) kwf_X0_45 rfl dX0_tallsAsChosen_12 ?_
    refine k_icmp_ge (pc := 15) 57 dX0_tallsAsChosen_15 (by decide) ?_ ?_
    · exact k_return (pc := 57) rfl dX0_tallsAsChosen_57
    · refine k_aload_n (pc := 18) dX0_tallsAsChosen_18 rfl ?_
      refine k_gTX3_of (pc := 19) kwf_X0_88 rfl dX0_tallsAsChosen_19 ?_
      refine k_iload_n (pc := 22) dX0_tallsAsChosen_22 rfl ?_
      refine k_aload_n (pc := 23) dX0_tallsAsChosen_23 rfl ?_
      refine k_aload_n (pc := 24) dX0_tallsAsChosen_24 rfl ?_
      refine k_gTX0_chosen (pc := 25) kwf_X0_27 rfl dX0_tallsAsChosen_25 ?_
      refine k_iload_n (pc := 28) dX0_tallsAsChosen_28 rfl ?_
      refine k_lT17 (pc := 29) dX0_tallsAsChosen_29 ?_
      refine k_vi1 (pc := 30) (cT_same _ _) ckX0_hasTale kwm_X0_91 cT_rv3 ⟨rfl, rfl⟩ ⟨Nat.le_of_ble_eq_true rfl, Nat.le_of_ble_eq_true rfl⟩ ⟨Nat.zero_le _, Nat.zero_le _⟩ (Nat.le_of_ble_eq_true rfl) dX0_tallsAsChosen_30 (fun _ _ hf => kX0_hasTale hf) (fun r1 σ2 => ?_)
      refine k_if_eq (pc := 33) 49 dX0_tallsAsChosen_33 (by decide) ?_ ?_
      · refine k_iconst (pc := 49) (v := (nI 0)) dX0_tallsAsChosen_49 (by decide) ?_
        exact kX0_tallsAsChosen_c50 (fX0_tallsAsChosen_c10 n) ih σ2 l2 l2 ((nI 0))
      · refine k_aload_n (pc := 36) dX0_tallsAsChosen_36 rfl ?_
        refine k_aload_n (pc := 37) dX0_tallsAsChosen_37 rfl ?_
        refine k_gTX0_chosen (pc := 38) kwf_X0_27 rfl dX0_tallsAsChosen_38 ?_
        refine k_iload_n (pc := 41) dX0_tallsAsChosen_41 rfl ?_
        refine k_lT17 (pc := 42) dX0_tallsAsChosen_42 ?_
        refine k_vi1 (pc := 43) (cT_same _ _) ckX0_tallOf kwm_X0_94 cT_rv3 ⟨rfl, rfl⟩ ⟨Nat.le_of_ble_eq_true rfl, Nat.le_of_ble_eq_true rfl⟩ ⟨Nat.zero_le _, Nat.zero_le _⟩ (Nat.le_of_ble_eq_true rfl) dX0_tallsAsChosen_43 (fun _ _ hf => kX0_tallOf hf) (fun r3 σ4 => ?_)
        refine k_goto (pc := 46) 50 dX0_tallsAsChosen_46 (by decide) ?_
        exact kX0_tallsAsChosen_c50 (fX0_tallsAsChosen_c10 n) ih σ4 l2 l2 r3
noncomputable def fX0_tallsAsChosen (σ : k_S) : Option (Unit × k_S) := k_bn (k_sf σ 7 (σ.1 3)) fun σ1 => k_bn ((nI 0)) fun v2 => fX0_tallsAsChosen_c10 k_F σ1 v2
set_option maxRecDepth 100000 in
set_option maxHeartbeats 4000000 in
theorem kX0_tallsAsChosen {D : va_G} {cI : ClassId} {q : Nat → Nat} {σ : k_S} {r : Unit} {τ : k_S} (h : fX0_tallsAsChosen σ = some (r, τ)) : k_Ct k_ev yX0_tallsAsChosen cX0_tallsAsChosen 3 none rmX0_tallsAsChosen (cT cI q) D cI [.ref (q 3), .ref (q 4)] σ r τ := by
  refine k_met (Y := YX0_tallsAsChosen) (cT_same _ _) (by decide) rfl (Nat.le_of_ble_eq_true rfl) (List.forall_mem_cons.mpr ⟨rfl, List.forall_mem_cons.mpr ⟨rfl, fun _ h => absurd h List.not_mem_nil⟩⟩) (fun X hD hI => ?_) h
  subst hD hI
  show KO X YX0_tallsAsChosen (cT (k_I X) q) 0 0 (k_Q k_ev X (cT (k_I X) q)) 0 [some (.ref (q 3)), some (.ref (q 4)), none] [] σ _
  unfold fX0_tallsAsChosen
  refine k_aload_n (pc := 0) dX0_tallsAsChosen_0 rfl ?_
  refine k_aload_n (pc := 1) dX0_tallsAsChosen_1 rfl ?_
  refine k_gTX0_guests (pc := 2) kwf_X0_45 rfl dX0_tallsAsChosen_2 ?_
  refine k_pTX3_guests (pc := 5) kwf_X0_85 rfl dX0_tallsAsChosen_5 (fun σ1 => ?_)
  refine k_iconst (pc := 8) (v := (nI 0)) dX0_tallsAsChosen_8 (by decide) ?_
  refine k_ist2 (pc := 9) dX0_tallsAsChosen_9 (Nat.le_of_ble_eq_true rfl) (fun v2 => ?_)
  exact kX0_tallsAsChosen_c10 k_F σ1 v2
-- TallTales$Talls.placeOf(II)I
theorem ckX3_placeOf : k_Vok yX3_placeOf cX3_placeOf 5 (some .int) 2 := ⟨kwk_X3_placeOf, kwi_X3_placeOf, kwv_X3_placeOf, kwn_X3, by decide, by decide +kernel⟩
abbrev rmX3_placeOf : Room := { frames := 0, cells := 0, slots := 0, locals := 0 }
abbrev YX3_placeOf : k_Y := (rmX3_placeOf, cX3_placeOf, 5, RX3, (some .int))
noncomputable def fX3_placeOf_c54 (kh5 : k_S → Int32 → Int32 → Int32 → Int32 → Option (Int32 × k_S)) (σ : k_S) (l1 l2 l3 l4 : Int32) : Option (Int32 × k_S) := k_bn (l4 + (nI 1)) fun v1 => kh5 σ l1 l2 l3 v1
set_option maxRecDepth 100000 in
set_option maxHeartbeats 4000000 in
theorem kX3_placeOf_c54 {X : k_C} {q : Nat → Nat} (kh5 : k_S → Int32 → Int32 → Int32 → Int32 → Option (Int32 × k_S)) (hk5 : ∀ (σ : k_S) (l1 l2 l3 l4 : Int32), KO X YX3_placeOf (cT (k_I X) q) 0 0 (k_Q k_ei X (cT (k_I X) q)) 5 [some (.ref (q 4)), some (.int l1), some (.int l2), some (.int l3), some (.int l4)] [] σ (kh5 σ l1 l2 l3 l4)) (σ : k_S) (l1 l2 l3 l4 : Int32) : KO X YX3_placeOf (cT (k_I X) q) 0 0 (k_Q k_ei X (cT (k_I X) q)) 54 [some (.ref (q 4)), some (.int l1), some (.int l2), some (.int l3), some (.int l4)] [] σ (fX3_placeOf_c54 kh5 σ l1 l2 l3 l4) := by
  unfold fX3_placeOf_c54
  refine k_iinc4 (pc := 54) (w := (nI 1)) dX3_placeOf_54 rfl (by decide) (Nat.le_of_ble_eq_true rfl) (fun v1 => ?_)
  refine k_goto (pc := 57) 5 dX3_placeOf_57 (by decide) ?_
  exact hk5 σ l1 l2 l3 v1
noncomputable def fX3_placeOf_c51 (kh5 : k_S → Int32 → Int32 → Int32 → Int32 → Option (Int32 × k_S)) (σ : k_S) (l1 l2 l3 l4 : Int32) : Option (Int32 × k_S) := k_bn (l3 + (nI 1)) fun v1 => fX3_placeOf_c54 kh5 σ l1 l2 v1 l4
set_option maxRecDepth 100000 in
set_option maxHeartbeats 4000000 in
theorem kX3_placeOf_c51 {X : k_C} {q : Nat → Nat} (kh5 : k_S → Int32 → Int32 → Int32 → Int32 → Option (Int32 × k_S)) (hk5 : ∀ (σ : k_S) (l1 l2 l3 l4 : Int32), KO X YX3_placeOf (cT (k_I X) q) 0 0 (k_Q k_ei X (cT (k_I X) q)) 5 [some (.ref (q 4)), some (.int l1), some (.int l2), some (.int l3), some (.int l4)] [] σ (kh5 σ l1 l2 l3 l4)) (σ : k_S) (l1 l2 l3 l4 : Int32) : KO X YX3_placeOf (cT (k_I X) q) 0 0 (k_Q k_ei X (cT (k_I X) q)) 51 [some (.ref (q 4)), some (.int l1), some (.int l2), some (.int l3), some (.int l4)] [] σ (fX3_placeOf_c51 kh5 σ l1 l2 l3 l4) := by
  unfold fX3_placeOf_c51
  refine k_iinc3 (pc := 51) (w := (nI 1)) dX3_placeOf_51 rfl (by decide) (Nat.le_of_ble_eq_true rfl) (fun v1 => ?_)
  exact kX3_placeOf_c54 kh5 hk5 σ l1 l2 v1 l4
noncomputable def fX3_placeOf_c5 : Nat → k_S → Int32 → Int32 → Int32 → Int32 → Option (Int32 × k_S)
  | 0, _, _, _, _, _ => none
  | n + 1, σ, l1, l2, l3, l4 => (if l4 < σ.1 7 then (if l4 = l1 then fX3_placeOf_c54 (fX3_placeOf_c5 n) σ l1 l2 l3 l4 else k_gd (l4) 5 ((if l2 < σ.2 14 (Int32.toNatClampNeg (l4)) then fX3_placeOf_c51 (fX3_placeOf_c5 n) σ l1 l2 l3 l4 else k_gd (l4) 5 ((if σ.2 14 (Int32.toNatClampNeg (l4)) = l2 then (if l4 < l1 then fX3_placeOf_c51 (fX3_placeOf_c5 n) σ l1 l2 l3 l4 else fX3_placeOf_c54 (fX3_placeOf_c5 n) σ l1 l2 l3 l4) else fX3_placeOf_c54 (fX3_placeOf_c5 n) σ l1 l2 l3 l4))))) else some (l3, σ))
theorem fX3_placeOf_c5_s (n : Nat) (σ : k_S) (l1 l2 l3 l4 : Int32) : fX3_placeOf_c5 (n + 1) σ l1 l2 l3 l4 = (if l4 < σ.1 7 then (if l4 = l1 then fX3_placeOf_c54 (fX3_placeOf_c5 n) σ l1 l2 l3 l4 else k_gd (l4) 5 ((if l2 < σ.2 14 (Int32.toNatClampNeg (l4)) then fX3_placeOf_c51 (fX3_placeOf_c5 n) σ l1 l2 l3 l4 else k_gd (l4) 5 ((if σ.2 14 (Int32.toNatClampNeg (l4)) = l2 then (if l4 < l1 then fX3_placeOf_c51 (fX3_placeOf_c5 n) σ l1 l2 l3 l4 else fX3_placeOf_c54 (fX3_placeOf_c5 n) σ l1 l2 l3 l4) else fX3_placeOf_c54 (fX3_placeOf_c5 n) σ l1 l2 l3 l4))))) else some (l3, σ)) := rfl
set_option maxRecDepth 100000 in
set_option maxHeartbeats 4000000 in
theorem kX3_placeOf_c5 {X : k_C} {q : Nat → Nat} : ∀ (n : Nat) (σ : k_S) (l1 l2 l3 l4 : Int32), KO X YX3_placeOf (cT (k_I X) q) 0 0 (k_Q k_ei X (cT (k_I X) q)) 5 [some (.ref (q 4)), some (.int l1), some (.int l2), some (.int l3), some (.int l4)] [] σ (fX3_placeOf_c5 n σ l1 l2 l3 l4) := by
  intro n
  induction n with
  | zero => intros; exact KO.nil
  | succ n ih =>
    intro σ l1 l2 l3 l4
    rw [fX3_placeOf_c5_s]
    refine k_iload (pc := 5) dX3_placeOf_5 rfl ?_
    refine k_aload_n (pc := 7) dX3_placeOf_7 rfl ?_
    refine k_gTX3_guests (pc := 8) kwf_X3_15 rfl dX3_placeOf_8 ?_
    refine k_icmp_ge (pc := 11) 60 dX3_placeOf_11 (by decide) ?_ ?_
    · refine k_iload_n (pc := 60) dX3_placeOf_60 rfl ?_
      exact k_ireturn (pc := 61) rfl dX3_placeOf_61
    · refine k_iload (pc := 14) dX3_placeOf_14 rfl ?_
      refine k_iload_n (pc := 16) dX3_placeOf_16 rfl ?_
      refine k_icmp_ne (pc := 17) 23 dX3_placeOf_17 (by decide) ?_ ?_
      · refine k_aload_n (pc := 23) dX3_placeOf_23 rfl ?_
        refine k_gTX3_of (pc := 24) kwf_X3_9 rfl dX3_placeOf_24 ?_
        refine k_iload (pc := 27) dX3_placeOf_27 rfl ?_
        refine k_lT21 (pc := 29) dX3_placeOf_29 ?_
        refine k_iload_n (pc := 30) dX3_placeOf_30 rfl ?_
        refine k_icmp_gt (pc := 31) 51 dX3_placeOf_31 (by decide) ?_ ?_
        · exact kX3_placeOf_c51 (fX3_placeOf_c5 n) ih σ l1 l2 l3 l4
        · refine k_aload_n (pc := 34) dX3_placeOf_34 rfl ?_
          refine k_gTX3_of (pc := 35) kwf_X3_9 rfl dX3_placeOf_35 ?_
          refine k_iload (pc := 38) dX3_placeOf_38 rfl ?_
          refine k_lT21 (pc := 40) dX3_placeOf_40 ?_
          refine k_iload_n (pc := 41) dX3_placeOf_41 rfl ?_
          refine k_icmp_ne (pc := 42) 54 dX3_placeOf_42 (by decide) ?_ ?_
          · exact kX3_placeOf_c54 (fX3_placeOf_c5 n) ih σ l1 l2 l3 l4
          · refine k_iload (pc := 45) dX3_placeOf_45 rfl ?_
            refine k_iload_n (pc := 47) dX3_placeOf_47 rfl ?_
            refine k_icmp_ge (pc := 48) 54 dX3_placeOf_48 (by decide) ?_ ?_
            · exact kX3_placeOf_c54 (fX3_placeOf_c5 n) ih σ l1 l2 l3 l4
            · exact kX3_placeOf_c51 (fX3_placeOf_c5 n) ih σ l1 l2 l3 l4
      · refine k_goto (pc := 20) 54 dX3_placeOf_20 (by decide) ?_
        exact kX3_placeOf_c54 (fX3_placeOf_c5 n) ih σ l1 l2 l3 l4
noncomputable def fX3_placeOf (σ : k_S) (x1 x2 : Int32) : Option (Int32 × k_S) := k_bn ((nI 0)) fun v1 => k_bn ((nI 0)) fun v2 => fX3_placeOf_c5 k_F σ x1 x2 v1 v2
set_option maxRecDepth 100000 in
set_option maxHeartbeats 4000000 in
theorem kX3_placeOf {D : va_G} {cI : ClassId} {q : Nat → Nat} {σ : k_S} {x1 x2 : Int32} {r : Int32} {τ : k_S} (h : fX3_placeOf σ x1 x2 = some (r, τ)) : k_Ct k_ei yX3_placeOf cX3_placeOf 5 (some .int) rmX3_placeOf (cT cI q) D cI [.ref (q 4), .int x1, .int x2] σ r τ := by
  refine k_met (Y := YX3_placeOf) (cT_same _ _) (by decide) rfl (Nat.le_of_ble_eq_true rfl) (List.forall_mem_cons.mpr ⟨rfl, List.forall_mem_cons.mpr ⟨rfl, List.forall_mem_cons.mpr ⟨rfl, fun _ h => absurd h List.not_mem_nil⟩⟩⟩) (fun X hD hI => ?_) h
  subst hD hI
  show KO X YX3_placeOf (cT (k_I X) q) 0 0 (k_Q k_ei X (cT (k_I X) q)) 0 [some (.ref (q 4)), some (.int x1), some (.int x2), none, none] [] σ _
  unfold fX3_placeOf
  refine k_iconst (pc := 0) (v := (nI 0)) dX3_placeOf_0 (by decide) ?_
  refine k_ist3 (pc := 1) dX3_placeOf_1 (Nat.le_of_ble_eq_true rfl) (fun v1 => ?_)
  refine k_iconst (pc := 2) (v := (nI 0)) dX3_placeOf_2 (by decide) ?_
  refine k_ist4 (pc := 3) dX3_placeOf_3 (Nat.le_of_ble_eq_true rfl) (fun v2 => ?_)
  exact kX3_placeOf_c5 k_F σ x1 x2 v1 v2
-- TallTales$House.goBy(LTallTales$Talls;)I
theorem ckX0_goBy : k_Vok yX0_goBy cX0_goBy 5 (some .int) 1 := ⟨kwk_X0_goBy, kwi_X0_goBy, kwv_X0_goBy, kwn_X0, by decide, by decide +kernel⟩
abbrev rmX0_goBy : Room := { frames := 2, cells := 0, slots := 0, locals := 60 }
abbrev YX0_goBy : k_Y := (rmX0_goBy, cX0_goBy, 5, RX0, (some .int))
noncomputable def fX0_goBy_c79 (kh5 : k_S → Int32 → Int32 → Option (Int32 × k_S)) (σ : k_S) (l2 l3 : Int32) : Option (Int32 × k_S) := k_bn (l3 + (nI 1)) fun v1 => kh5 σ l2 v1
set_option maxRecDepth 100000 in
set_option maxHeartbeats 4000000 in
theorem kX0_goBy_c79 {X : k_C} {q : Nat → Nat} (kh5 : k_S → Int32 → Int32 → Option (Int32 × k_S)) (hk5 : ∀ (σ : k_S) (l2 l3 : Int32), KO X YX0_goBy (cT (k_I X) q) 0 0 (k_Q k_ei X (cT (k_I X) q)) 5 [some (.ref (q 3)), some (.ref (q 4)), some (.int l2), some (.int l3), none] [] σ (kh5 σ l2 l3)) (σ : k_S) (l2 l3 : Int32) : KO X YX0_goBy (cT (k_I X) q) 0 0 (k_Q k_ei X (cT (k_I X) q)) 79 [some (.ref (q 3)), some (.ref (q 4)), some (.int l2), some (.int l3), none] [] σ (fX0_goBy_c79 kh5 σ l2 l3) := by
  unfold fX0_goBy_c79
  refine k_iinc3 (pc := 79) (w := (nI 1)) dX0_goBy_79 rfl (by decide) (Nat.le_of_ble_eq_true rfl) (fun v1 => ?_)
  refine k_goto (pc := 82) 5 dX0_goBy_82 (by decide) ?_
  exact hk5 σ l2 v1
noncomputable def fX0_goBy_c87 : Nat → k_S → Int32 → Int32 → Option (Int32 × k_S)
  | 0, _, _, _ => none
  | n + 1, σ, l2, l3 => (if l3 < σ.1 3 then k_gd (l3) 5 (k_ob (fX0_keepTold σ (σ.2 10 (Int32.toNatClampNeg (l3))) (σ.1 6)) fun r3 σ4 => k_bn (l3 + (nI 1)) fun v5 => fX0_goBy_c87 n σ4 l2 v5) else k_bn (k_sf σ 6 ((σ.1 6 + (nI 1)))) fun σ1 => k_bn (k_sA σ1 10 (k_fl (σ1.2 10) 0 5 ((k_ng 9)))) fun σ2 => some (l2, σ2))
theorem fX0_goBy_c87_s (n : Nat) (σ : k_S) (l2 l3 : Int32) : fX0_goBy_c87 (n + 1) σ l2 l3 = (if l3 < σ.1 3 then k_gd (l3) 5 (k_ob (fX0_keepTold σ (σ.2 10 (Int32.toNatClampNeg (l3))) (σ.1 6)) fun r3 σ4 => k_bn (l3 + (nI 1)) fun v5 => fX0_goBy_c87 n σ4 l2 v5) else k_bn (k_sf σ 6 ((σ.1 6 + (nI 1)))) fun σ1 => k_bn (k_sA σ1 10 (k_fl (σ1.2 10) 0 5 ((k_ng 9)))) fun σ2 => some (l2, σ2)) := rfl
set_option maxRecDepth 100000 in
set_option maxHeartbeats 4000000 in
theorem kX0_goBy_c87 {X : k_C} {q : Nat → Nat} : ∀ (n : Nat) (σ : k_S) (l2 l3 : Int32), KO X YX0_goBy (cT (k_I X) q) 0 0 (k_Q k_ei X (cT (k_I X) q)) 87 [some (.ref (q 3)), some (.ref (q 4)), some (.int l2), some (.int l3), none] [] σ (fX0_goBy_c87 n σ l2 l3) := by
  intro n
  induction n with
  | zero => intros; exact KO.nil
  | succ n ih =>
    intro σ l2 l3
    rw [fX0_goBy_c87_s]
    refine k_iload_n (pc := 87) dX0_goBy_87 rfl ?_
    refine k_aload_n (pc := 88) dX0_goBy_88 rfl ?_
    refine k_gTX0_guests (pc := 89) kwf_X0_45 rfl dX0_goBy_89 ?_
    refine k_icmp_ge (pc := 92) 115 dX0_goBy_92 (by decide) ?_ ?_
    · refine k_aload_n (pc := 115) dX0_goBy_115 rfl ?_
      refine k_dup (pc := 116) dX0_goBy_116 rfl ?_
      refine k_gTX0_nights (pc := 117) kwf_X0_66 rfl dX0_goBy_117 ?_
      refine k_iconst (pc := 120) (v := (nI 1)) dX0_goBy_120 (by decide) ?_
      refine k_iadd (pc := 121) dX0_goBy_121 ?_
      refine k_pTX0_nights (pc := 122) kwf_X0_66 rfl dX0_goBy_122 (fun σ1 => ?_)
      refine k_aload_n (pc := 125) dX0_goBy_125 rfl ?_
      refine k_gTX0_chosen (pc := 126) kwf_X0_27 rfl dX0_goBy_126 ?_
      refine k_bipush (pc := 129) (v := (k_ng 9)) dX0_goBy_129 (by decide) ?_
      refine k_fT2_17 (pc := 131) kwm_X0_104 ⟨Nat.le_of_ble_eq_true rfl, Nat.le_of_ble_eq_true rfl⟩ dX0_goBy_131 (fun σ2 => ?_)
      refine k_iload_n (pc := 134) dX0_goBy_134 rfl ?_
      exact k_ireturn (pc := 135) rfl dX0_goBy_135
    · refine k_aload_n (pc := 95) dX0_goBy_95 rfl ?_
      refine k_aload_n (pc := 96) dX0_goBy_96 rfl ?_
      refine k_gTX0_chosen (pc := 97) kwf_X0_27 rfl dX0_goBy_97 ?_
      refine k_iload_n (pc := 100) dX0_goBy_100 rfl ?_
      refine k_lT17 (pc := 101) dX0_goBy_101 ?_
      refine k_aload_n (pc := 102) dX0_goBy_102 rfl ?_
      refine k_gTX0_nights (pc := 103) kwf_X0_66 rfl dX0_goBy_103 ?_
      refine k_vv2 (pc := 106) (cT_same _ _) ckX0_keepTold kwm_X0_100 cT_rv3 ⟨rfl, rfl⟩ ⟨Nat.le_of_ble_eq_true rfl, Nat.le_of_ble_eq_true rfl⟩ ⟨Nat.zero_le _, Nat.zero_le _⟩ (Nat.le_of_ble_eq_true rfl) dX0_goBy_106 (fun _ _ hf => kX0_keepTold hf) (fun r3 σ4 => ?_)
      refine k_iinc3 (pc := 109) (w := (nI 1)) dX0_goBy_109 rfl (by decide) (Nat.le_of_ble_eq_true rfl) (fun v5 => ?_)
      refine k_goto (pc := 112) 87 dX0_goBy_112 (by decide) ?_
      exact ih σ4 l2 v5
noncomputable def fX0_goBy_c5 : Nat → k_S → Int32 → Int32 → Option (Int32 × k_S)
  | 0, _, _, _ => none
  | n + 1, σ, l2, l3 => (if l3 < σ.1 3 then k_bn (((σ.1 6 * (nI 5)) + l3)) fun v2 => k_gd (l3) 5 (k_gd (v2) 300 (k_bn (k_sa σ 11 (v2) (σ.2 10 (Int32.toNatClampNeg (l3)))) fun σ3 => k_gd (l3) 5 (k_gd (v2) 300 (k_bn (k_sa σ3 13 (v2) (σ3.2 14 (Int32.toNatClampNeg (l3)))) fun σ4 => k_gd (l3) 5 (k_ob (fX3_placeOf σ4 l3 (σ4.2 14 (Int32.toNatClampNeg (l3)))) fun r5 σ6 => k_gd (v2) 300 (k_bn (k_sa σ6 12 (v2) (r5)) fun σ7 => k_gd (v2) 300 ((if σ7.2 12 (Int32.toNatClampNeg (v2)) = 0 then k_bn (l3) fun v8 => fX0_goBy_c79 (fX0_goBy_c5 n) σ7 v8 l3 else fX0_goBy_c79 (fX0_goBy_c5 n) σ7 l2 l3)))))))) else k_bn ((nI 0)) fun v1 => fX0_goBy_c87 k_F σ l2 v1)
theorem fX0_goBy_c5_s (n : Nat) (σ : k_S) (l2 l3 : Int32) : fX0_goBy_c5 (n + 1) σ l2 l3 = (if l3 < σ.1 3 then k_bn (((σ.1 6 * (nI 5)) + l3)) fun v2 => k_gd (l3) 5 (k_gd (v2) 300 (k_bn (k_sa σ 11 (v2) (σ.2 10 (Int32.toNatClampNeg (l3)))) fun σ3 => k_gd (l3) 5 (k_gd (v2) 300 (k_bn (k_sa σ3 13 (v2) (σ3.2 14 (Int32.toNatClampNeg (l3)))) fun σ4 => k_gd (l3) 5 (k_ob (fX3_placeOf σ4 l3 (σ4.2 14 (Int32.toNatClampNeg (l3)))) fun r5 σ6 => k_gd (v2) 300 (k_bn (k_sa σ6 12 (v2) (r5)) fun σ7 => k_gd (v2) 300 ((if σ7.2 12 (Int32.toNatClampNeg (v2)) = 0 then k_bn (l3) fun v8 => fX0_goBy_c79 (fX0_goBy_c5 n) σ7 v8 l3 else fX0_goBy_c79 (fX0_goBy_c5 n) σ7 l2 l3)))))))) else k_bn ((nI 0)) fun v1 => fX0_goBy_c87 k_F σ l2 v1) := rfl
set_option maxRecDepth 100000 in
set_option maxHeartbeats 4000000 in
theorem kX0_goBy_c5 {X : k_C} {q : Nat → Nat} : ∀ (n : Nat) (σ : k_S) (l2 l3 : Int32), KO X YX0_goBy (cT (k_I X) q) 0 0 (k_Q k_ei X (cT (k_I X) q)) 5 [some (.ref (q 3)), some (.ref (q 4)), some (.int l2), some (.int l3), none] [] σ (fX0_goBy_c5 n σ l2 l3) := by
  intro n
  induction n with
  | zero => intros; exact KO.nil
  | succ n ih =>
    intro σ l2 l3
    rw [fX0_goBy_c5_s]
    refine k_iload_n (pc := 5) dX0_goBy_5 rfl ?_
    refine k_aload_n (pc := 6) dX0_goBy_6 rfl ?_
    refine k_gTX0_guests (pc := 7) kwf_X0_45 rfl dX0_goBy_7 ?_
    refine k_icmp_ge (pc := 10) 85 dX0_goBy_10 (by decide) ?_ ?_
    · refine k_iconst (pc := 85) (v := (nI 0)) dX0_goBy_85 (by decide) ?_
      refine k_ist3 (pc := 86) dX0_goBy_86 (Nat.le_of_ble_eq_true rfl) (fun v1 => ?_)
      exact kX0_goBy_c87 k_F σ l2 v1
    · refine k_aload_n (pc := 13) dX0_goBy_13 rfl ?_
      refine k_gTX0_nights (pc := 14) kwf_X0_66 rfl dX0_goBy_14 ?_
      refine k_iconst (pc := 17) (v := (nI 5)) dX0_goBy_17 (by decide) ?_
      refine k_imul (pc := 18) dX0_goBy_18 ?_
      refine k_iload_n (pc := 19) dX0_goBy_19 rfl ?_
      refine k_iadd (pc := 20) dX0_goBy_20 ?_
      refine k_ist4 (pc := 21) dX0_goBy_21 (Nat.le_of_ble_eq_true rfl) (fun v2 => ?_)
      refine k_aload_n (pc := 23) dX0_goBy_23 rfl ?_
      refine k_gTX0_nightTale (pc := 24) kwf_X0_30 rfl dX0_goBy_24 ?_
      refine k_iload (pc := 27) dX0_goBy_27 rfl ?_
      refine k_aload_n (pc := 29) dX0_goBy_29 rfl ?_
      refine k_gTX0_chosen (pc := 30) kwf_X0_27 rfl dX0_goBy_30 ?_
      refine k_iload_n (pc := 33) dX0_goBy_33 rfl ?_
      refine k_lT17 (pc := 34) dX0_goBy_34 ?_
      refine k_sT18 (pc := 35) dX0_goBy_35 (fun σ3 => ?_)
      refine k_aload_n (pc := 36) dX0_goBy_36 rfl ?_
      refine k_gTX0_nightTall (pc := 37) kwf_X0_36 rfl dX0_goBy_37 ?_
      refine k_iload (pc := 40) dX0_goBy_40 rfl ?_
      refine k_aload_n (pc := 42) dX0_goBy_42 rfl ?_
      refine k_gTX3_of (pc := 43) kwf_X0_88 rfl dX0_goBy_43 ?_
      refine k_iload_n (pc := 46) dX0_goBy_46 rfl ?_
      refine k_lT21 (pc := 47) dX0_goBy_47 ?_
      refine k_sT20 (pc := 48) dX0_goBy_48 (fun σ4 => ?_)
      refine k_aload_n (pc := 49) dX0_goBy_49 rfl ?_
      refine k_gTX0_nightPlace (pc := 50) kwf_X0_33 rfl dX0_goBy_50 ?_
      refine k_iload (pc := 53) dX0_goBy_53 rfl ?_
      refine k_aload_n (pc := 55) dX0_goBy_55 rfl ?_
      refine k_iload_n (pc := 56) dX0_goBy_56 rfl ?_
      refine k_aload_n (pc := 57) dX0_goBy_57 rfl ?_
      refine k_gTX3_of (pc := 58) kwf_X0_88 rfl dX0_goBy_58 ?_
      refine k_iload_n (pc := 61) dX0_goBy_61 rfl ?_
      refine k_lT21 (pc := 62) dX0_goBy_62 ?_
      refine k_vi2 (pc := 63) (cT_same _ _) ckX3_placeOf kwm_X0_97 cT_rv4 ⟨rfl, rfl⟩ ⟨Nat.le_of_ble_eq_true rfl, Nat.le_of_ble_eq_true rfl⟩ ⟨Nat.zero_le _, Nat.zero_le _⟩ (Nat.le_of_ble_eq_true rfl) dX0_goBy_63 (fun _ _ hf => kX3_placeOf hf) (fun r5 σ6 => ?_)
      refine k_sT19 (pc := 66) dX0_goBy_66 (fun σ7 => ?_)
      refine k_aload_n (pc := 67) dX0_goBy_67 rfl ?_
      refine k_gTX0_nightPlace (pc := 68) kwf_X0_33 rfl dX0_goBy_68 ?_
      refine k_iload (pc := 71) dX0_goBy_71 rfl ?_
      refine k_lT19 (pc := 73) dX0_goBy_73 ?_
      refine k_if_ne (pc := 74) 79 dX0_goBy_74 (by decide) ?_ ?_
      · refine k_fg4 ?_
        exact kX0_goBy_c79 (fX0_goBy_c5 n) ih σ7 l2 l3
      · refine k_iload_n (pc := 77) dX0_goBy_77 rfl ?_
        refine k_ist2 (pc := 78) dX0_goBy_78 (Nat.le_of_ble_eq_true rfl) (fun v8 => ?_)
        refine k_fg4 ?_
        exact kX0_goBy_c79 (fX0_goBy_c5 n) ih σ7 v8 l3
noncomputable def fX0_goBy (σ : k_S) : Option (Int32 × k_S) := k_bn ((k_ng 9)) fun v1 => k_bn ((nI 0)) fun v2 => fX0_goBy_c5 k_F σ v1 v2
set_option maxRecDepth 100000 in
set_option maxHeartbeats 4000000 in
theorem kX0_goBy {D : va_G} {cI : ClassId} {q : Nat → Nat} {σ : k_S} {r : Int32} {τ : k_S} (h : fX0_goBy σ = some (r, τ)) : k_Ct k_ei yX0_goBy cX0_goBy 5 (some .int) rmX0_goBy (cT cI q) D cI [.ref (q 3), .ref (q 4)] σ r τ := by
  refine k_met (Y := YX0_goBy) (cT_same _ _) (by decide) rfl (Nat.le_of_ble_eq_true rfl) (List.forall_mem_cons.mpr ⟨rfl, List.forall_mem_cons.mpr ⟨rfl, fun _ h => absurd h List.not_mem_nil⟩⟩) (fun X hD hI => ?_) h
  subst hD hI
  show KO X YX0_goBy (cT (k_I X) q) 0 0 (k_Q k_ei X (cT (k_I X) q)) 0 [some (.ref (q 3)), some (.ref (q 4)), none, none, none] [] σ _
  unfold fX0_goBy
  refine k_bipush (pc := 0) (v := (k_ng 9)) dX0_goBy_0 (by decide) ?_
  refine k_ist2 (pc := 2) dX0_goBy_2 (Nat.le_of_ble_eq_true rfl) (fun v1 => ?_)
  refine k_iconst (pc := 3) (v := (nI 0)) dX0_goBy_3 (by decide) ?_
  refine k_ist3 (pc := 4) dX0_goBy_4 (Nat.le_of_ble_eq_true rfl) (fun v2 => ?_)
  exact kX0_goBy_c5 k_F σ v1 v2
-- TallTales.night()I
theorem ckX6_night : k_Vok yX6_night cX6_night 1 (some .int) 0 := ⟨kwk_X6_night, kwi_X6_night, kwv_X6_night, kwn_X6, by decide, by decide +kernel⟩
abbrev rmX6_night : Room := { frames := 3, cells := 0, slots := 0, locals := 84 }
abbrev YX6_night : k_Y := (rmX6_night, cX6_night, 1, RX6, (some .int))
noncomputable def fX6_night (σ : k_S) : Option (Int32 × k_S) := k_ob (fX0_isOpen σ) fun r1 σ2 => (if r1 = 0 then some ((k_ng 3), σ2) else (if σ2.1 6 < (nI 60) then k_ob (fX0_tallsAsChosen σ2) fun r3 σ4 => k_ob (fX0_goBy σ4) fun r5 σ6 => some (r5, σ6) else some ((k_ng 4), σ2)))
set_option maxRecDepth 100000 in
set_option maxHeartbeats 4000000 in
theorem kX6_night {D : va_G} {cI : ClassId} {q : Nat → Nat} {σ : k_S} {r : Int32} {τ : k_S} (h : fX6_night σ = some (r, τ)) : k_Ct k_ei yX6_night cX6_night 1 (some .int) rmX6_night (cT cI q) D cI [.ref (q 0)] σ r τ := by
  refine k_met (Y := YX6_night) (cT_same _ _) (by decide) rfl (Nat.le_of_ble_eq_true rfl) (List.forall_mem_cons.mpr ⟨rfl, fun _ h => absurd h List.not_mem_nil⟩) (fun X hD hI => ?_) h
  subst hD hI
  show KO X YX6_night (cT (k_I X) q) 0 0 (k_Q k_ei X (cT (k_I X) q)) 0 [some (.ref (q 0))] [] σ _
  unfold fX6_night
  refine k_aload_n (pc := 0) dX6_night_0 rfl ?_
  refine k_gTX6_house (pc := 1) kwf_X6_28 rfl dX6_night_1 ?_
  refine k_vi0 (pc := 4) (cT_same _ _) ckX0_isOpen kwm_X6_125 cT_rv3 ⟨rfl, rfl⟩ ⟨Nat.le_of_ble_eq_true rfl, Nat.le_of_ble_eq_true rfl⟩ ⟨Nat.zero_le _, Nat.zero_le _⟩ (Nat.le_of_ble_eq_true rfl) dX6_night_4 (fun _ _ hf => kX0_isOpen hf) (fun r1 σ2 => ?_)
  refine k_if_ne (pc := 7) 13 dX6_night_7 (by decide) ?_ ?_
  · refine k_aload_n (pc := 13) dX6_night_13 rfl ?_
    refine k_gTX6_house (pc := 14) kwf_X6_28 rfl dX6_night_14 ?_
    refine k_gTX0_nights (pc := 17) kwf_X6_138 rfl dX6_night_17 ?_
    refine k_bipush (pc := 20) (v := (nI 60)) dX6_night_20 (by decide) ?_
    refine k_icmp_lt (pc := 22) 28 dX6_night_22 (by decide) ?_ ?_
    · refine k_aload_n (pc := 28) dX6_night_28 rfl ?_
      refine k_gTX6_house (pc := 29) kwf_X6_28 rfl dX6_night_29 ?_
      refine k_aload_n (pc := 32) dX6_night_32 rfl ?_
      refine k_gTX6_talls (pc := 33) kwf_X6_35 rfl dX6_night_33 ?_
      refine k_vv1 (pc := 36) (cT_same _ _) ckX0_tallsAsChosen kwm_X6_141 cT_rv3 ⟨rfl, rfl⟩ ⟨Nat.le_of_ble_eq_true rfl, Nat.le_of_ble_eq_true rfl⟩ ⟨Nat.zero_le _, Nat.zero_le _⟩ (Nat.le_of_ble_eq_true rfl) dX6_night_36 (fun _ _ hf => kX0_tallsAsChosen hf) (fun r3 σ4 => ?_)
      refine k_aload_n (pc := 39) dX6_night_39 rfl ?_
      refine k_gTX6_house (pc := 40) kwf_X6_28 rfl dX6_night_40 ?_
      refine k_aload_n (pc := 43) dX6_night_43 rfl ?_
      refine k_gTX6_talls (pc := 44) kwf_X6_35 rfl dX6_night_44 ?_
      refine k_vi1 (pc := 47) (cT_same _ _) ckX0_goBy kwm_X6_145 cT_rv3 ⟨rfl, rfl⟩ ⟨Nat.le_of_ble_eq_true rfl, Nat.le_of_ble_eq_true rfl⟩ ⟨Nat.zero_le _, Nat.zero_le _⟩ (Nat.le_of_ble_eq_true rfl) dX6_night_47 (fun _ _ hf => kX0_goBy hf) (fun r5 σ6 => ?_)
      exact k_ireturn (pc := 50) rfl dX6_night_50
    · refine k_bipush (pc := 25) (v := (k_ng 4)) dX6_night_25 (by decide) ?_
      exact k_ireturn (pc := 27) rfl dX6_night_27
  · refine k_bipush (pc := 10) (v := (k_ng 3)) dX6_night_10 (by decide) ?_
    exact k_ireturn (pc := 12) rfl dX6_night_12
-- TallTales$House.hasNight(I)Z
theorem ckX0_hasNight : k_Vok yX0_hasNight cX0_hasNight 2 (some .boolean) 1 := ⟨kwk_X0_hasNight, kwi_X0_hasNight, kwv_X0_hasNight, kwn_X0, by decide, by decide +kernel⟩
abbrev rmX0_hasNight : Room := { frames := 0, cells := 0, slots := 0, locals := 0 }
abbrev YX0_hasNight : k_Y := (rmX0_hasNight, cX0_hasNight, 2, RX0, (some .boolean))
noncomputable def fX0_hasNight (σ : k_S) (x1 : Int32) : Option (Int32 × k_S) := (if x1 < 0 then k_z ((nI 0)) (some ((nI 0), σ)) else (if x1 < σ.1 6 then k_z ((nI 1)) (some ((nI 1), σ)) else k_z ((nI 0)) (some ((nI 0), σ))))
set_option maxRecDepth 100000 in
set_option maxHeartbeats 4000000 in
theorem kX0_hasNight {D : va_G} {cI : ClassId} {q : Nat → Nat} {σ : k_S} {x1 : Int32} {r : Int32} {τ : k_S} (h : fX0_hasNight σ x1 = some (r, τ)) : k_Ct k_ei yX0_hasNight cX0_hasNight 2 (some .boolean) rmX0_hasNight (cT cI q) D cI [.ref (q 3), .int x1] σ r τ := by
  refine k_met (Y := YX0_hasNight) (cT_same _ _) (by decide) rfl (Nat.le_of_ble_eq_true rfl) (List.forall_mem_cons.mpr ⟨rfl, List.forall_mem_cons.mpr ⟨rfl, fun _ h => absurd h List.not_mem_nil⟩⟩) (fun X hD hI => ?_) h
  subst hD hI
  show KO X YX0_hasNight (cT (k_I X) q) 0 0 (k_Q k_ei X (cT (k_I X) q)) 0 [some (.ref (q 3)), some (.int x1)] [] σ _
  unfold fX0_hasNight
  refine k_iload_n (pc := 0) dX0_hasNight_0 rfl ?_
  refine k_if_lt (pc := 1) 16 dX0_hasNight_1 (by decide) ?_ ?_
  · refine k_iconst (pc := 16) (v := (nI 0)) dX0_hasNight_16 (by decide) ?_
    exact k_zreturn (pc := 17) rfl dX0_hasNight_17
  · refine k_iload_n (pc := 4) dX0_hasNight_4 rfl ?_
    refine k_aload_n (pc := 5) dX0_hasNight_5 rfl ?_
    refine k_gTX0_nights (pc := 6) kwf_X0_66 rfl dX0_hasNight_6 ?_
    refine k_icmp_ge (pc := 9) 16 dX0_hasNight_9 (by decide) ?_ ?_
    · refine k_iconst (pc := 16) (v := (nI 0)) dX0_hasNight_16 (by decide) ?_
      exact k_zreturn (pc := 17) rfl dX0_hasNight_17
    · refine k_iconst (pc := 12) (v := (nI 1)) dX0_hasNight_12 (by decide) ?_
      refine k_goto (pc := 13) 17 dX0_hasNight_13 (by decide) ?_
      exact k_zreturn (pc := 17) rfl dX0_hasNight_17
-- TallTales.ofNight(III)I
theorem ckX6_ofNight : k_Vok yX6_ofNight cX6_ofNight 5 (some .int) 3 := ⟨kwk_X6_ofNight, kwi_X6_ofNight, kwv_X6_ofNight, kwn_X6, by decide, by decide +kernel⟩
abbrev rmX6_ofNight : Room := { frames := 1, cells := 0, slots := 0, locals := 21 }
abbrev YX6_ofNight : k_Y := (rmX6_ofNight, cX6_ofNight, 5, RX6, (some .int))
noncomputable def fX6_ofNight (σ : k_S) (x1 x2 x3 : Int32) : Option (Int32 × k_S) := k_ob (fX0_hasNight σ x1) fun r1 σ2 => (if r1 = 0 then some ((k_ng 1), σ2) else k_ob (fX0_hasGuest σ2 x2) fun r3 σ4 => (if r3 = 0 then some ((k_ng 1), σ4) else k_bn (((x1 * (nI 5)) + x2)) fun v5 => (if x3 = (nI 0) then k_gd (v5) 300 (some (σ4.2 11 (Int32.toNatClampNeg (v5)), σ4)) else (if x3 = (nI 1) then k_gd (v5) 300 (some (σ4.2 12 (Int32.toNatClampNeg (v5)), σ4)) else (if x3 = (nI 2) then k_gd (v5) 300 (some (σ4.2 13 (Int32.toNatClampNeg (v5)), σ4)) else some ((k_ng 2), σ4))))))
set_option maxRecDepth 100000 in
set_option maxHeartbeats 4000000 in
theorem kX6_ofNight {D : va_G} {cI : ClassId} {q : Nat → Nat} {σ : k_S} {x1 x2 x3 : Int32} {r : Int32} {τ : k_S} (h : fX6_ofNight σ x1 x2 x3 = some (r, τ)) : k_Ct k_ei yX6_ofNight cX6_ofNight 5 (some .int) rmX6_ofNight (cT cI q) D cI [.ref (q 0), .int x1, .int x2, .int x3] σ r τ := by
  refine k_met (Y := YX6_ofNight) (cT_same _ _) (by decide) rfl (Nat.le_of_ble_eq_true rfl) (List.forall_mem_cons.mpr ⟨rfl, List.forall_mem_cons.mpr ⟨rfl, List.forall_mem_cons.mpr ⟨rfl, List.forall_mem_cons.mpr ⟨rfl, fun _ h => absurd h List.not_mem_nil⟩⟩⟩⟩) (fun X hD hI => ?_) h
  subst hD hI
  show KO X YX6_ofNight (cT (k_I X) q) 0 0 (k_Q k_ei X (cT (k_I X) q)) 0 [some (.ref (q 0)), some (.int x1), some (.int x2), some (.int x3), none] [] σ _
  unfold fX6_ofNight
  refine k_aload_n (pc := 0) dX6_ofNight_0 rfl ?_
  refine k_gTX6_house (pc := 1) kwf_X6_28 rfl dX6_ofNight_1 ?_
  refine k_iload_n (pc := 4) dX6_ofNight_4 rfl ?_
  refine k_vi1 (pc := 5) (cT_same _ _) ckX0_hasNight kwm_X6_149 cT_rv3 ⟨rfl, rfl⟩ ⟨Nat.le_of_ble_eq_true rfl, Nat.le_of_ble_eq_true rfl⟩ ⟨Nat.zero_le _, Nat.zero_le _⟩ (Nat.le_of_ble_eq_true rfl) dX6_ofNight_5 (fun _ _ hf => kX0_hasNight hf) (fun r1 σ2 => ?_)
  refine k_if_eq (pc := 8) 22 dX6_ofNight_8 (by decide) ?_ ?_
  · refine k_iconst (pc := 22) (v := (k_ng 1)) dX6_ofNight_22 (by decide) ?_
    exact k_ireturn (pc := 23) rfl dX6_ofNight_23
  · refine k_aload_n (pc := 11) dX6_ofNight_11 rfl ?_
    refine k_gTX6_house (pc := 12) kwf_X6_28 rfl dX6_ofNight_12 ?_
    refine k_iload_n (pc := 15) dX6_ofNight_15 rfl ?_
    refine k_vi1 (pc := 16) (cT_same _ _) ckX0_hasGuest kwm_X6_132 cT_rv3 ⟨rfl, rfl⟩ ⟨Nat.le_of_ble_eq_true rfl, Nat.le_of_ble_eq_true rfl⟩ ⟨Nat.zero_le _, Nat.zero_le _⟩ (Nat.le_of_ble_eq_true rfl) dX6_ofNight_16 (fun _ _ hf => kX0_hasGuest hf) (fun r3 σ4 => ?_)
    refine k_if_ne (pc := 19) 24 dX6_ofNight_19 (by decide) ?_ ?_
    · refine k_iload_n (pc := 24) dX6_ofNight_24 rfl ?_
      refine k_iconst (pc := 25) (v := (nI 5)) dX6_ofNight_25 (by decide) ?_
      refine k_imul (pc := 26) dX6_ofNight_26 ?_
      refine k_iload_n (pc := 27) dX6_ofNight_27 rfl ?_
      refine k_iadd (pc := 28) dX6_ofNight_28 ?_
      refine k_ist4 (pc := 29) dX6_ofNight_29 (Nat.le_of_ble_eq_true rfl) (fun v5 => ?_)
      refine k_iload_n (pc := 31) dX6_ofNight_31 rfl ?_
      refine KO.ite (c := x3 = (nI 0)) (fun hs6_0 => ?_) (fun hs6_0 => ?_)
      · refine k_tableIn (off := 28) (pc := 32) 60 dX6_ofNight_32 hs6_0 (by decide) (by decide) (by decide) (by decide) ?_
        refine k_aload_n (pc := 60) dX6_ofNight_60 rfl ?_
        refine k_gTX6_house (pc := 61) kwf_X6_28 rfl dX6_ofNight_61 ?_
        refine k_gTX0_nightTale (pc := 64) kwf_X6_152 rfl dX6_ofNight_64 ?_
        refine k_iload (pc := 67) dX6_ofNight_67 rfl ?_
        refine k_lT18 (pc := 69) dX6_ofNight_69 ?_
        exact k_ireturn (pc := 70) rfl dX6_ofNight_70
      · refine KO.ite (c := x3 = (nI 1)) (fun hs6_1 => ?_) (fun hs6_1 => ?_)
        · refine k_tableIn (off := 39) (pc := 32) 71 dX6_ofNight_32 hs6_1 (by decide) (by decide) (by decide) (by decide) ?_
          refine k_aload_n (pc := 71) dX6_ofNight_71 rfl ?_
          refine k_gTX6_house (pc := 72) kwf_X6_28 rfl dX6_ofNight_72 ?_
          refine k_gTX0_nightPlace (pc := 75) kwf_X6_155 rfl dX6_ofNight_75 ?_
          refine k_iload (pc := 78) dX6_ofNight_78 rfl ?_
          refine k_lT19 (pc := 80) dX6_ofNight_80 ?_
          exact k_ireturn (pc := 81) rfl dX6_ofNight_81
        · refine KO.ite (c := x3 = (nI 2)) (fun hs6_2 => ?_) (fun hs6_2 => ?_)
          · refine k_tableIn (off := 50) (pc := 32) 82 dX6_ofNight_32 hs6_2 (by decide) (by decide) (by decide) (by decide) ?_
            refine k_aload_n (pc := 82) dX6_ofNight_82 rfl ?_
            refine k_gTX6_house (pc := 83) kwf_X6_28 rfl dX6_ofNight_83 ?_
            refine k_gTX0_nightTall (pc := 86) kwf_X6_158 rfl dX6_ofNight_86 ?_
            refine k_iload (pc := 89) dX6_ofNight_89 rfl ?_
            refine k_lT20 (pc := 91) dX6_ofNight_91 ?_
            exact k_ireturn (pc := 92) rfl dX6_ofNight_92
          · refine k_tableOut (pc := 32) 93 dX6_ofNight_32 (by have g0 := lv_neT (a := 0) hs6_0 (by decide); have g1 := lv_neT (a := 1) hs6_1 (by decide); have g2 := lv_neT (a := 2) hs6_2 (by decide); omega) (by decide) ?_
            refine k_bipush (pc := 93) (v := (k_ng 2)) dX6_ofNight_93 (by decide) ?_
            exact k_ireturn (pc := 95) rfl dX6_ofNight_95
    · refine k_iconst (pc := 22) (v := (k_ng 1)) dX6_ofNight_22 (by decide) ?_
      exact k_ireturn (pc := 23) rfl dX6_ofNight_23
-- TallTales.undo(I)I
theorem ckX6_undo : k_Vok yX6_undo cX6_undo 2 (some .int) 1 := ⟨kwk_X6_undo, kwi_X6_undo, kwv_X6_undo, kwn_X6, by decide, by decide +kernel⟩
abbrev rmX6_undo : Room := { frames := 3, cells := 0, slots := 0, locals := 83 }
abbrev YX6_undo : k_Y := (rmX6_undo, cX6_undo, 2, RX6, (some .int))
noncomputable def fX6_undo (σ : k_S) (x1 : Int32) : Option (Int32 × k_S) := (if x1 < 0 then some ((k_ng 2), σ) else (if σ.1 6 < x1 then some ((k_ng 2), σ) else k_ob (fX0_goBack σ x1) fun r1 σ2 => some (σ2.1 6, σ2)))
set_option maxRecDepth 100000 in
set_option maxHeartbeats 4000000 in
theorem kX6_undo {D : va_G} {cI : ClassId} {q : Nat → Nat} {σ : k_S} {x1 : Int32} {r : Int32} {τ : k_S} (h : fX6_undo σ x1 = some (r, τ)) : k_Ct k_ei yX6_undo cX6_undo 2 (some .int) rmX6_undo (cT cI q) D cI [.ref (q 0), .int x1] σ r τ := by
  refine k_met (Y := YX6_undo) (cT_same _ _) (by decide) rfl (Nat.le_of_ble_eq_true rfl) (List.forall_mem_cons.mpr ⟨rfl, List.forall_mem_cons.mpr ⟨rfl, fun _ h => absurd h List.not_mem_nil⟩⟩) (fun X hD hI => ?_) h
  subst hD hI
  show KO X YX6_undo (cT (k_I X) q) 0 0 (k_Q k_ei X (cT (k_I X) q)) 0 [some (.ref (q 0)), some (.int x1)] [] σ _
  unfold fX6_undo
  refine k_iload_n (pc := 0) dX6_undo_0 rfl ?_
  refine k_if_lt (pc := 1) 15 dX6_undo_1 (by decide) ?_ ?_
  · refine k_bipush (pc := 15) (v := (k_ng 2)) dX6_undo_15 (by decide) ?_
    exact k_ireturn (pc := 17) rfl dX6_undo_17
  · refine k_iload_n (pc := 4) dX6_undo_4 rfl ?_
    refine k_aload_n (pc := 5) dX6_undo_5 rfl ?_
    refine k_gTX6_house (pc := 6) kwf_X6_28 rfl dX6_undo_6 ?_
    refine k_gTX0_nights (pc := 9) kwf_X6_138 rfl dX6_undo_9 ?_
    refine k_icmp_le (pc := 12) 18 dX6_undo_12 (by decide) ?_ ?_
    · refine k_aload_n (pc := 18) dX6_undo_18 rfl ?_
      refine k_gTX6_house (pc := 19) kwf_X6_28 rfl dX6_undo_19 ?_
      refine k_iload_n (pc := 22) dX6_undo_22 rfl ?_
      refine k_vv1 (pc := 23) (cT_same _ _) ckX0_goBack kwm_X6_161 cT_rv3 ⟨rfl, rfl⟩ ⟨Nat.le_of_ble_eq_true rfl, Nat.le_of_ble_eq_true rfl⟩ ⟨Nat.zero_le _, Nat.zero_le _⟩ (Nat.le_of_ble_eq_true rfl) dX6_undo_23 (fun _ _ hf => kX0_goBack hf) (fun r1 σ2 => ?_)
      refine k_aload_n (pc := 26) dX6_undo_26 rfl ?_
      refine k_gTX6_house (pc := 27) kwf_X6_28 rfl dX6_undo_27 ?_
      refine k_gTX0_nights (pc := 30) kwf_X6_138 rfl dX6_undo_30 ?_
      exact k_ireturn (pc := 33) rfl dX6_undo_33
    · refine k_bipush (pc := 15) (v := (k_ng 2)) dX6_undo_15 (by decide) ?_
      exact k_ireturn (pc := 17) rfl dX6_undo_17
-- TallTales$House.nightsAt(II)I
theorem ckX0_nightsAt : k_Vok yX0_nightsAt cX0_nightsAt 5 (some .int) 2 := ⟨kwk_X0_nightsAt, kwi_X0_nightsAt, kwv_X0_nightsAt, kwn_X0, by decide, by decide +kernel⟩
abbrev rmX0_nightsAt : Room := { frames := 0, cells := 0, slots := 0, locals := 0 }
abbrev YX0_nightsAt : k_Y := (rmX0_nightsAt, cX0_nightsAt, 5, RX0, (some .int))
noncomputable def fX0_nightsAt_c32 (kh5 : k_S → Int32 → Int32 → Int32 → Int32 → Option (Int32 × k_S)) (σ : k_S) (l1 l2 l3 l4 : Int32) : Option (Int32 × k_S) := k_bn (l4 + (nI 1)) fun v1 => kh5 σ l1 l2 l3 v1
set_option maxRecDepth 100000 in
set_option maxHeartbeats 4000000 in
theorem kX0_nightsAt_c32 {X : k_C} {q : Nat → Nat} (kh5 : k_S → Int32 → Int32 → Int32 → Int32 → Option (Int32 × k_S)) (hk5 : ∀ (σ : k_S) (l1 l2 l3 l4 : Int32), KO X YX0_nightsAt (cT (k_I X) q) 0 0 (k_Q k_ei X (cT (k_I X) q)) 5 [some (.ref (q 3)), some (.int l1), some (.int l2), some (.int l3), some (.int l4)] [] σ (kh5 σ l1 l2 l3 l4)) (σ : k_S) (l1 l2 l3 l4 : Int32) : KO X YX0_nightsAt (cT (k_I X) q) 0 0 (k_Q k_ei X (cT (k_I X) q)) 32 [some (.ref (q 3)), some (.int l1), some (.int l2), some (.int l3), some (.int l4)] [] σ (fX0_nightsAt_c32 kh5 σ l1 l2 l3 l4) := by
  unfold fX0_nightsAt_c32
  refine k_iinc4 (pc := 32) (w := (nI 1)) dX0_nightsAt_32 rfl (by decide) (Nat.le_of_ble_eq_true rfl) (fun v1 => ?_)
  refine k_goto (pc := 35) 5 dX0_nightsAt_35 (by decide) ?_
  exact hk5 σ l1 l2 l3 v1
noncomputable def fX0_nightsAt_c5 : Nat → k_S → Int32 → Int32 → Int32 → Int32 → Option (Int32 × k_S)
  | 0, _, _, _, _, _ => none
  | n + 1, σ, l1, l2, l3, l4 => (if l4 < σ.1 6 then k_gd (((l4 * (nI 5)) + l1)) 300 ((if σ.2 12 (Int32.toNatClampNeg (((l4 * (nI 5)) + l1))) = l2 then k_bn (l3 + (nI 1)) fun v1 => fX0_nightsAt_c32 (fX0_nightsAt_c5 n) σ l1 l2 v1 l4 else fX0_nightsAt_c32 (fX0_nightsAt_c5 n) σ l1 l2 l3 l4)) else some (l3, σ))
theorem fX0_nightsAt_c5_s (n : Nat) (σ : k_S) (l1 l2 l3 l4 : Int32) : fX0_nightsAt_c5 (n + 1) σ l1 l2 l3 l4 = (if l4 < σ.1 6 then k_gd (((l4 * (nI 5)) + l1)) 300 ((if σ.2 12 (Int32.toNatClampNeg (((l4 * (nI 5)) + l1))) = l2 then k_bn (l3 + (nI 1)) fun v1 => fX0_nightsAt_c32 (fX0_nightsAt_c5 n) σ l1 l2 v1 l4 else fX0_nightsAt_c32 (fX0_nightsAt_c5 n) σ l1 l2 l3 l4)) else some (l3, σ)) := rfl
set_option maxRecDepth 100000 in
set_option maxHeartbeats 4000000 in
theorem kX0_nightsAt_c5 {X : k_C} {q : Nat → Nat} : ∀ (n : Nat) (σ : k_S) (l1 l2 l3 l4 : Int32), KO X YX0_nightsAt (cT (k_I X) q) 0 0 (k_Q k_ei X (cT (k_I X) q)) 5 [some (.ref (q 3)), some (.int l1), some (.int l2), some (.int l3), some (.int l4)] [] σ (fX0_nightsAt_c5 n σ l1 l2 l3 l4) := by
  intro n
  induction n with
  | zero => intros; exact KO.nil
  | succ n ih =>
    intro σ l1 l2 l3 l4
    rw [fX0_nightsAt_c5_s]
    refine k_iload (pc := 5) dX0_nightsAt_5 rfl ?_
    refine k_aload_n (pc := 7) dX0_nightsAt_7 rfl ?_
    refine k_gTX0_nights (pc := 8) kwf_X0_66 rfl dX0_nightsAt_8 ?_
    refine k_icmp_ge (pc := 11) 38 dX0_nightsAt_11 (by decide) ?_ ?_
    · refine k_iload_n (pc := 38) dX0_nightsAt_38 rfl ?_
      exact k_ireturn (pc := 39) rfl dX0_nightsAt_39
    · refine k_aload_n (pc := 14) dX0_nightsAt_14 rfl ?_
      refine k_gTX0_nightPlace (pc := 15) kwf_X0_33 rfl dX0_nightsAt_15 ?_
      refine k_iload (pc := 18) dX0_nightsAt_18 rfl ?_
      refine k_iconst (pc := 20) (v := (nI 5)) dX0_nightsAt_20 (by decide) ?_
      refine k_imul (pc := 21) dX0_nightsAt_21 ?_
      refine k_iload_n (pc := 22) dX0_nightsAt_22 rfl ?_
      refine k_iadd (pc := 23) dX0_nightsAt_23 ?_
      refine k_lT19 (pc := 24) dX0_nightsAt_24 ?_
      refine k_iload_n (pc := 25) dX0_nightsAt_25 rfl ?_
      refine k_icmp_ne (pc := 26) 32 dX0_nightsAt_26 (by decide) ?_ ?_
      · exact kX0_nightsAt_c32 (fX0_nightsAt_c5 n) ih σ l1 l2 l3 l4
      · refine k_iinc3 (pc := 29) (w := (nI 1)) dX0_nightsAt_29 rfl (by decide) (Nat.le_of_ble_eq_true rfl) (fun v1 => ?_)
        exact kX0_nightsAt_c32 (fX0_nightsAt_c5 n) ih σ l1 l2 v1 l4
noncomputable def fX0_nightsAt (σ : k_S) (x1 x2 : Int32) : Option (Int32 × k_S) := k_bn ((nI 0)) fun v1 => k_bn ((nI 0)) fun v2 => fX0_nightsAt_c5 k_F σ x1 x2 v1 v2
set_option maxRecDepth 100000 in
set_option maxHeartbeats 4000000 in
theorem kX0_nightsAt {D : va_G} {cI : ClassId} {q : Nat → Nat} {σ : k_S} {x1 x2 : Int32} {r : Int32} {τ : k_S} (h : fX0_nightsAt σ x1 x2 = some (r, τ)) : k_Ct k_ei yX0_nightsAt cX0_nightsAt 5 (some .int) rmX0_nightsAt (cT cI q) D cI [.ref (q 3), .int x1, .int x2] σ r τ := by
  refine k_met (Y := YX0_nightsAt) (cT_same _ _) (by decide) rfl (Nat.le_of_ble_eq_true rfl) (List.forall_mem_cons.mpr ⟨rfl, List.forall_mem_cons.mpr ⟨rfl, List.forall_mem_cons.mpr ⟨rfl, fun _ h => absurd h List.not_mem_nil⟩⟩⟩) (fun X hD hI => ?_) h
  subst hD hI
  show KO X YX0_nightsAt (cT (k_I X) q) 0 0 (k_Q k_ei X (cT (k_I X) q)) 0 [some (.ref (q 3)), some (.int x1), some (.int x2), none, none] [] σ _
  unfold fX0_nightsAt
  refine k_iconst (pc := 0) (v := (nI 0)) dX0_nightsAt_0 (by decide) ?_
  refine k_ist3 (pc := 1) dX0_nightsAt_1 (Nat.le_of_ble_eq_true rfl) (fun v1 => ?_)
  refine k_iconst (pc := 2) (v := (nI 0)) dX0_nightsAt_2 (by decide) ?_
  refine k_ist4 (pc := 3) dX0_nightsAt_3 (Nat.le_of_ble_eq_true rfl) (fun v2 => ?_)
  exact kX0_nightsAt_c5 k_F σ x1 x2 v1 v2
