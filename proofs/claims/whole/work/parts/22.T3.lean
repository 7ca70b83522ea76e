/-! ===== T: methods as pure functions, and that the bytecode answers so (by program: wip/gen/dec.py) ===== -/
-- TallTales.trade(II)I
theorem ckX6_trade : k_Vok yX6_trade cX6_trade 4 (some .int) 2 := ⟨kwk_X6_trade, kwi_X6_trade, kwv_X6_trade, kwn_X6, by decide, by decide +kernel⟩
abbrev rmX6_trade : Room := { frames := 3, cells := 0, slots := 0, locals := 71 }
abbrev YX6_trade : k_Y := (rmX6_trade, cX6_trade, 4, RX6, (some .int))
noncomputable def fX6_trade (σ : k_S) (x1 x2 : Int32) : Option (Int32 × k_S) := k_ob (fX0_hasTale σ x1) fun r1 σ2 => (if r1 = 0 then some ((k_ng 1), σ2) else k_ob (fX0_hasTale σ2 x2) fun r3 σ4 => (if r3 = 0 then some ((k_ng 1), σ4) else k_gd (x1) 10 (k_bn (σ4.2 6 (Int32.toNatClampNeg (x1))) fun v5 => k_gd (x2) 10 ((if v5 = σ4.2 6 (Int32.toNatClampNeg (x2)) then some ((k_ng 3), σ4) else k_ob (fX0_strongAfter σ4 v5 x1 x2) fun r6 σ7 => k_ob (fX0_strongAfter σ7 v5 x1 x1) fun r8 σ9 => some (((r6 - r8) + (nI 100)), σ9))))))
set_option maxRecDepth 100000 in
set_option maxHeartbeats 4000000 in
theorem kX6_trade {D : va_G} {cI : ClassId} {q : Nat → Nat} {σ : k_S} {x1 x2 : Int32} {r : Int32} {τ : k_S} (h : fX6_trade σ x1 x2 = some (r, τ)) : k_Ct k_ei yX6_trade cX6_trade 4 (some .int) rmX6_trade (cT cI q) D cI [.ref (q 0), .int x1, .int x2] σ r τ := by
  refine k_met (Y := YX6_trade) (cT_same _ _) (by decide) rfl (Nat.le_of_ble_eq_true rfl) (List.forall_mem_cons.mpr ⟨rfl, List.forall_mem_cons.mpr ⟨rfl, List.forall_mem_cons.mpr ⟨rfl, fun _ h => absurd h List.not_mem_nil⟩⟩⟩) (fun X hD hI => ?_) h
  subst hD hI
  show KO X YX6_trade (cT (k_I X) q) 0 0 (k_Q k_ei X (cT (k_I X) q)) 0 [some (.ref (q 0)), some (.int x1), some (.int x2), none] [] σ _
  unfold fX6_trade
  refine k_aload_n (pc := 0) dX6_trade_0 rfl ?_
  refine k_gTX6_house (pc := 1) kwf_X6_28 rfl dX6_trade_1 ?_
  refine k_iload_n (pc := 4) dX6_trade_4 rfl ?_
  refine k_vi1 (pc := 5) (cT_same _ _) ckX0_hasTale kwm_X6_101 cT_rv3 ⟨rfl, rfl⟩ ⟨Nat.le_of_ble_eq_true rfl, Nat.le_of_ble_eq_true rfl⟩ ⟨Nat.zero_le _, Nat.zero_le _⟩ (Nat.le_of_ble_eq_true rfl) dX6_trade_5 (fun _ _ hf => kX0_hasTale hf) (fun r1 σ2 => ?_)
  refine k_if_eq (pc := 8) 22 dX6_trade_8 (by decide) ?_ ?_
  · refine k_iconst (pc := 22) (v := (k_ng 1)) dX6_trade_22 (by decide) ?_
    exact k_ireturn (pc := 23) rfl dX6_trade_23
  · refine k_aload_n (pc := 11) dX6_trade_11 rfl ?_
    refine k_gTX6_house (pc := 12) kwf_X6_28 rfl dX6_trade_12 ?_
    refine k_iload_n (pc := 15) dX6_trade_15 rfl ?_
    refine k_vi1 (pc := 16) (cT_same _ _) ckX0_hasTale kwm_X6_101 cT_rv3 ⟨rfl, rfl⟩ ⟨Nat.le_of_ble_eq_true rfl, Nat.le_of_ble_eq_true rfl⟩ ⟨Nat.zero_le _, Nat.zero_le _⟩ (Nat.le_of_ble_eq_true rfl) dX6_trade_16 (fun _ _ hf => kX0_hasTale hf) (fun r3 σ4 => ?_)
    refine k_if_ne (pc := 19) 24 dX6_trade_19 (by decide) ?_ ?_
    · refine k_aload_n (pc := 24) dX6_trade_24 rfl ?_
      refine k_gTX6_house (pc := 25) kwf_X6_28 rfl dX6_trade_25 ?_
      refine k_gTX0_owners (pc := 28) kwf_X6_107 rfl dX6_trade_28 ?_
      refine k_iload_n (pc := 31) dX6_trade_31 rfl ?_
      refine k_lT13 (pc := 32) dX6_trade_32 ?_
      refine k_ist3 (pc := 33) dX6_trade_33 (Nat.le_of_ble_eq_true rfl) (fun v5 => ?_)
      refine k_iload_n (pc := 34) dX6_trade_34 rfl ?_
      refine k_aload_n (pc := 35) dX6_trade_35 rfl ?_
      refine k_gTX6_house (pc := 36) kwf_X6_28 rfl dX6_trade_36 ?_
      refine k_gTX0_owners (pc := 39) kwf_X6_107 rfl dX6_trade_39 ?_
      refine k_iload_n (pc := 42) dX6_trade_42 rfl ?_
      refine k_lT13 (pc := 43) dX6_trade_43 ?_
      refine k_icmp_ne (pc := 44) 50 dX6_trade_44 (by decide) ?_ ?_
      · refine k_aload_n (pc := 50) dX6_trade_50 rfl ?_
        refine k_gTX6_house (pc := 51) kwf_X6_28 rfl dX6_trade_51 ?_
        refine k_iload_n (pc := 54) dX6_trade_54 rfl ?_
        refine k_iload_n (pc := 55) dX6_trade_55 rfl ?_
        refine k_iload_n (pc := 56) dX6_trade_56 rfl ?_
        refine k_vi3 (pc := 57) (cT_same _ _) ckX0_strongAfter kwm_X6_204 cT_rv3 ⟨rfl, rfl⟩ ⟨Nat.le_of_ble_eq_true rfl, Nat.le_of_ble_eq_true rfl⟩ ⟨Nat.zero_le _, Nat.zero_le _⟩ (Nat.le_of_ble_eq_true rfl) dX6_trade_57 (fun _ _ hf => kX0_strongAfter hf) (fun r6 σ7 => ?_)
        refine k_aload_n (pc := 60) dX6_trade_60 rfl ?_
        refine k_gTX6_house (pc := 61) kwf_X6_28 rfl dX6_trade_61 ?_
        refine k_iload_n (pc := 64) dX6_trade_64 rfl ?_
        refine k_iload_n (pc := 65) dX6_trade_65 rfl ?_
        refine k_iload_n (pc := 66) dX6_trade_66 rfl ?_
        refine k_vi3 (pc := 67) (cT_same _ _) ckX0_strongAfter kwm_X6_204 cT_rv3 ⟨rfl, rfl⟩ ⟨Nat.le_of_ble_eq_true rfl, Nat.le_of_ble_eq_true rfl⟩ ⟨Nat.zero_le _, Nat.zero_le _⟩ (Nat.le_of_ble_eq_true rfl) dX6_trade_67 (fun _ _ hf => kX0_strongAfter hf) (fun r8 σ9 => ?_)
        refine k_isub (pc := 70) dX6_trade_70 ?_
        refine k_bipush (pc := 71) (v := (nI 100)) dX6_trade_71 (by decide) ?_
        refine k_iadd (pc := 73) dX6_trade_73 ?_
        exact k_ireturn (pc := 74) rfl dX6_trade_74
      · refine k_bipush (pc := 47) (v := (k_ng 3)) dX6_trade_47 (by decide) ?_
        exact k_ireturn (pc := 49) rfl dX6_trade_49
    · refine k_iconst (pc := 22) (v := (k_ng 1)) dX6_trade_22 (by decide) ?_
      exact k_ireturn (pc := 23) rfl dX6_trade_23
-- TallTales$Sheets.take(III[I)V
abbrev rmX2_take_a7 : Room := { frames := 1, cells := 0, slots := 0, locals := 48 }
abbrev YX2_take_a7 : k_Y := (rmX2_take_a7, cX2_take, 5, RX2, none)
noncomputable def fX2_take_a7 (σ : k_S) (x1 x2 x3 : Int32) : Option (Unit × k_S) := k_gc (((x1 * (nI 60)) + x2)) ((nI 0)) (x3) 240 5 (k_bn (k_sc σ 1 0 (((x1 * (nI 60)) + x2)) ((nI 0)) (x3)) fun σ1 => some ((), σ1))
set_option maxRecDepth 100000 in
set_option maxHeartbeats 4000000 in
theorem kX2_take_a7 {D : va_G} {cI : ClassId} {q : Nat → Nat} {σ : k_S} {x1 x2 x3 : Int32} {r : Unit} {τ : k_S} (h : fX2_take_a7 σ x1 x2 x3 = some (r, τ)) : k_Ct k_ev yX2_take cX2_take 5 none rmX2_take_a7 (cT cI q) D cI [.ref (q 1), .int x1, .int x2, .int x3, .ref (q 7)] σ r τ := by
  refine k_met (Y := YX2_take_a7) (cT_same _ _) (by decide) rfl (Nat.le_of_ble_eq_true rfl) (List.forall_mem_cons.mpr ⟨rfl, List.forall_mem_cons.mpr ⟨rfl, List.forall_mem_cons.mpr ⟨rfl, List.forall_mem_cons.mpr ⟨rfl, List.forall_mem_cons.mpr ⟨rfl, fun _ h => absurd h List.not_mem_nil⟩⟩⟩⟩⟩) (fun X hD hI => ?_) h
  subst hD hI
  show KO X YX2_take_a7 (cT (k_I X) q) 0 0 (k_Q k_ev X (cT (k_I X) q)) 0 [some (.ref (q 1)), some (.int x1), some (.int x2), some (.int x3), some (.ref (q 7))] [] σ _
  unfold fX2_take_a7
  refine k_aload_n (pc := 0) dX2_take_0 rfl ?_
  refine k_gTX2_cells (pc := 1) kwf_X2_9 rfl dX2_take_1 ?_
  refine k_iload_n (pc := 4) dX2_take_4 rfl ?_
  refine k_bipush (pc := 5) (v := (nI 60)) dX2_take_5 (by decide) ?_
  refine k_imul (pc := 7) dX2_take_7 ?_
  refine k_iload_n (pc := 8) dX2_take_8 rfl ?_
  refine k_iadd (pc := 9) dX2_take_9 ?_
  refine k_aload (pc := 10) dX2_take_10 rfl ?_
  refine k_iconst (pc := 12) (v := (nI 0)) dX2_take_12 (by decide) ?_
  refine k_iload_n (pc := 13) dX2_take_13 rfl ?_
  refine k_cT_8_7 (pc := 14) kwm_X2_38 ⟨Nat.le_of_ble_eq_true rfl, Nat.le_of_ble_eq_true rfl⟩ dX2_take_14 (fun σ1 => ?_)
  exact k_return (pc := 17) rfl dX2_take_17
-- TallTales$House.isRowOfAll([I)Z
theorem ckX0_isRowOfAll : k_Vok yX0_isRowOfAll cX0_isRowOfAll 4 (some .boolean) 1 := ⟨kwk_X0_isRowOfAll, kwi_X0_isRowOfAll, kwv_X0_isRowOfAll, kwn_X0, by decide, by decide +kernel⟩
abbrev rmX0_isRowOfAll : Room := { frames := 1, cells := 0, slots := 0, locals := 21 }
abbrev YX0_isRowOfAll : k_Y := (rmX0_isRowOfAll, cX0_isRowOfAll, 4, RX0, (some .boolean))
noncomputable def fX0_isRowOfAll_c4 : Nat → k_S → Int32 → Int32 → Option (Int32 × k_S)
  | 0, _, _, _ => none
  | n + 1, σ, l2, l3 => (if l3 < σ.1 3 then k_gd (l3) 5 (k_ob (fX0_hasGuest σ (σ.2 0 (Int32.toNatClampNeg (l3)))) fun r1 σ2 => (if r1 = 0 then k_z ((nI 0)) (some ((nI 0), σ2)) else k_gd (l3) 5 (k_bn ((l2 ||| (((nI 1) : Int32) <<< ((σ2.2 0 (Int32.toNatClampNeg (l3)) : Int32) &&& 31)))) fun v3 => k_bn (l3 + (nI 1)) fun v4 => fX0_isRowOfAll_c4 n σ2 v3 v4))) else (if l2 = ((((nI 1) : Int32) <<< ((σ.1 3 : Int32) &&& 31)) - (nI 1)) then k_z ((nI 1)) (some ((nI 1), σ)) else k_z ((nI 0)) (some ((nI 0), σ))))
theorem fX0_isRowOfAll_c4_s (n : Nat) (σ : k_S) (l2 l3 : Int32) : fX0_isRowOfAll_c4 (n + 1) σ l2 l3 = (if l3 < σ.1 3 then k_gd (l3) 5 (k_ob (fX0_hasGuest σ (σ.2 0 (Int32.toNatClampNeg (l3)))) fun r1 σ2 => (if r1 = 0 then k_z ((nI 0)) (some ((nI 0), σ2)) else k_gd (l3) 5 (k_bn ((l2 ||| (((nI 1) : Int32) <<< ((σ2.2 0 (Int32.toNatClampNeg (l3)) : Int32) &&& 31)))) fun v3 => k_bn (l3 + (nI 1)) fun v4 => fX0_isRowOfAll_c4 n σ2 v3 v4))) else (if l2 = ((((nI 1) : Int32) <<< ((σ.1 3 : Int32) &&& 31)) - (nI 1)) then k_z ((nI 1)) (some ((nI 1), σ)) else k_z ((nI 0)) (some ((nI 0), σ)))) := rfl
set_option maxRecDepth 100000 in
set_option maxHeartbeats 4000000 in
theorem kX0_isRowOfAll_c4 {X : k_C} {q : Nat → Nat} : ∀ (n : Nat) (σ : k_S) (l2 l3 : Int32), KO X YX0_isRowOfAll (cT (k_I X) q) 0 0 (k_Q k_ei X (cT (k_I X) q)) 4 [some (.ref (q 3)), some (.ref (q 7)), some (.int l2), some (.int l3)] [] σ (fX0_isRowOfAll_c4 n σ l2 l3) := by
  intro n
  induction n with
  | zero => intros; exact KO.nil
  | succ n ih =>
    intro σ l2 l3
    rw [fX0_isRowOfAll_c4_s]
    refine k_iload_n (pc := 4) dX0_isRowOfAll_4 rfl ?_
    refine k_aload_n (pc := 5) dX0_isRowOfAll_5 rfl ?_
    refine k_gTX0_guests (pc := 6) kwf_X0_45 rfl dX0_isRowOfAll_6 ?_
    refine k_icmp_ge (pc := 9) 38 dX0_isRowOfAll_9 (by decide) ?_ ?_
    · refine k_iload_n (pc := 38) dX0_isRowOfAll_38 rfl ?_
      refine k_iconst (pc := 39) (v := (nI 1)) dX0_isRowOfAll_39 (by decide) ?_
      refine k_aload_n (pc := 40) dX0_isRowOfAll_40 rfl ?_
      refine k_gTX0_guests (pc := 41) kwf_X0_45 rfl dX0_isRowOfAll_41 ?_
      refine k_ishl (pc := 44) dX0_isRowOfAll_44 ?_
      refine k_iconst (pc := 45) (v := (nI 1)) dX0_isRowOfAll_45 (by decide) ?_
      refine k_isub (pc := 46) dX0_isRowOfAll_46 ?_
      refine k_icmp_ne (pc := 47) 54 dX0_isRowOfAll_47 (by decide) ?_ ?_
      · refine k_iconst (pc := 54) (v := (nI 0)) dX0_isRowOfAll_54 (by decide) ?_
        exact k_zreturn (pc := 55) rfl dX0_isRowOfAll_55
      · refine k_iconst (pc := 50) (v := (nI 1)) dX0_isRowOfAll_50 (by decide) ?_
        refine k_goto (pc := 51) 55 dX0_isRowOfAll_51 (by decide) ?_
        exact k_zreturn (pc := 55) rfl dX0_isRowOfAll_55
    · refine k_aload_n (pc := 12) dX0_isRowOfAll_12 rfl ?_
      refine k_aload_n (pc := 13) dX0_isRowOfAll_13 rfl ?_
      refine k_iload_n (pc := 14) dX0_isRowOfAll_14 rfl ?_
      refine k_lT7 (pc := 15) dX0_isRowOfAll_15 ?_
      refine k_vi1 (pc := 16) (cT_same _ _) ckX0_hasGuest kwm_X0_119 cT_rv3 ⟨rfl, rfl⟩ ⟨Nat.le_of_ble_eq_true rfl, Nat.le_of_ble_eq_true rfl⟩ ⟨Nat.zero_le _, Nat.zero_le _⟩ (Nat.le_of_ble_eq_true rfl) dX0_isRowOfAll_16 (fun _ _ hf => kX0_hasGuest hf) (fun r1 σ2 => ?_)
      refine k_if_ne (pc := 19) 24 dX0_isRowOfAll_19 (by decide) ?_ ?_
      · refine k_iload_n (pc := 24) dX0_isRowOfAll_24 rfl ?_
        refine k_iconst (pc := 25) (v := (nI 1)) dX0_isRowOfAll_25 (by decide) ?_
        refine k_aload_n (pc := 26) dX0_isRowOfAll_26 rfl ?_
        refine k_iload_n (pc := 27) dX0_isRowOfAll_27 rfl ?_
        refine k_lT7 (pc := 28) dX0_isRowOfAll_28 ?_
        refine k_ishl (pc := 29) dX0_isRowOfAll_29 ?_
        refine k_ior (pc := 30) dX0_isRowOfAll_30 ?_
        refine k_ist2 (pc := 31) dX0_isRowOfAll_31 (Nat.le_of_ble_eq_true rfl) (fun v3 => ?_)
        refine k_iinc3 (pc := 32) (w := (nI 1)) dX0_isRowOfAll_32 rfl (by decide) (Nat.le_of_ble_eq_true rfl) (fun v4 => ?_)
        refine k_goto (pc := 35) 4 dX0_isRowOfAll_35 (by decide) ?_
        exact ih σ2 v3 v4
      · refine k_iconst (pc := 22) (v := (nI 0)) dX0_isRowOfAll_22 (by decide) ?_
        exact k_zreturn (pc := 23) rfl dX0_isRowOfAll_23
noncomputable def fX0_isRowOfAll (σ : k_S) : Option (Int32 × k_S) := k_bn ((nI 0)) fun v1 => k_bn ((nI 0)) fun v2 => fX0_isRowOfAll_c4 k_F σ v1 v2
set_option maxRecDepth 100000 in
set_option maxHeartbeats 4000000 in
theorem kX0_isRowOfAll {D : va_G} {cI : ClassId} {q : Nat → Nat} {σ : k_S} {r : Int32} {τ : k_S} (h : fX0_isRowOfAll σ = some (r, τ)) : k_Ct k_ei yX0_isRowOfAll cX0_isRowOfAll 4 (some .boolean) rmX0_isRowOfAll (cT cI q) D cI [.ref (q 3), .ref (q 7)] σ r τ := by
  refine k_met (Y := YX0_isRowOfAll) (cT_same _ _) (by decide) rfl (Nat.le_of_ble_eq_true rfl) (List.forall_mem_cons.mpr ⟨rfl, List.forall_mem_cons.mpr ⟨rfl, fun _ h => absurd h List.not_mem_nil⟩⟩) (fun X hD hI => ?_) h
  subst hD hI
  show KO X YX0_isRowOfAll (cT (k_I X) q) 0 0 (k_Q k_ei X (cT (k_I X) q)) 0 [some (.ref (q 3)), some (.ref (q 7)), none, none] [] σ _
  unfold fX0_isRowOfAll
  refine k_iconst (pc := 0) (v := (nI 0)) dX0_isRowOfAll_0 (by decide) ?_
  refine k_ist2 (pc := 1) dX0_isRowOfAll_1 (Nat.le_of_ble_eq_true rfl) (fun v1 => ?_)
  refine k_iconst (pc := 2) (v := (nI 0)) dX0_isRowOfAll_2 (by decide) ?_
  refine k_ist3 (pc := 3) dX0_isRowOfAll_3 (Nat.le_of_ble_eq_true rfl) (fun v2 => ?_)
  exact kX0_isRowOfAll_c4 k_F σ v1 v2
-- TallTales$House.tallsOfNight(ILTallTales$Talls;)V
theorem ckX0_tallsOfNight : k_Vok yX0_tallsOfNight cX0_tallsOfNight 4 none 2 := ⟨kwk_X0_tallsOfNight, kwi_X0_tallsOfNight, kwv_X0_tallsOfNight, kwn_X0, by decide, by decide +kernel⟩
abbrev rmX0_tallsOfNight : Room := { frames := 0, cells := 0, slots := 0, locals := 0 }
abbrev YX0_tallsOfNight : k_Y := (rmX0_tallsOfNight, cX0_tallsOfNight, 4, RX0, none)
noncomputable def fX0_tallsOfNight_c10 : Nat → k_S → Int32 → Int32 → Option (Unit × k_S)
  | 0, _, _, _ => none
  | n + 1, σ, l1, l3 => (if l3 < σ.1 3 then k_gd (((l1 * (nI 5)) + l3)) 300 (k_gd (l3) 5 (k_bn (k_sa σ 14 (l3) (σ.2 13 (Int32.toNatClampNeg (((l1 * (nI 5)) + l3))))) fun σ1 => k_bn (l3 + (nI 1)) fun v2 => fX0_tallsOfNight_c10 n σ1 l1 v2)) else some ((), σ))
theorem fX0_tallsOfNight_c10_s (n : Nat) (σ : k_S) (l1 l3 : Int32) : fX0_tallsOfNight_c10 (n + 1) σ l1 l3 = (if l3 < σ.1 3 then k_gd (((l1 * (nI 5)) + l3)) 300 (k_gd (l3) 5 (k_bn (k_sa σ 14 (l3) (σ.2 13 (Int32.toNatClampNeg (((l1 * (nI 5)) + l3))))) fun σ1 => k_bn (l3 + (nI 1)) fun v2 => fX0_tallsOfNight_c10 n σ1 l1 v2)) else some ((), σ)) := rfl
set_option maxRecDepth 100000 in
set_option maxHeartbeats 4000000 in
theorem kX0_tallsOfNight_c10 {X : k_C} {q : Nat → Nat} : ∀ (n : Nat) (σ : k_S) (l1 l3 : Int32), KO X YX0_tallsOfNight (cT (k_I X) q) 0 0 (k_Q k_ev X (cT (k_I X) q)) 10 [some (.ref (q 3)), some (.int l1), some (.ref (q 4)), some (.int l3)] [] σ (fX0_tallsOfNight_c10 n σ l1 l3) := by
  intro n
  induction n with
  | zero => intros; exact KO.nil
  | succ n ih =>
    intro σ l1 l3
    rw [fX0_tallsOfNight_c10_s]
    refine k_iload_n (pc := 10) dX0_tallsOfNight_10 rfl ?_
    refine k_aload_n (pc := 11) dX0_tallsOfNight_11 rfl ?_
    refine k_gTX0_guests (pc := 12) kwf_X0_45 rfl dX0_tallsOfNight_12 ?_
    refine k_icmp_ge (pc := 15) 40 dX0_tallsOfNight_15 (by decide) ?_ ?_
    · exact k_return (pc := 40) rfl dX0_tallsOfNight_40
    · refine k_aload_n (pc := 18) dX0_tallsOfNight_18 rfl ?_
      refine k_gTX3_of (pc := 19) kwf_X0_88 rfl dX0_tallsOfNight_19 ?_
      refine k_iload_n (pc := 22) dX0_tallsOfNight_22 rfl ?_
      refine k_aload_n (pc := 23) dX0_tallsOfNight_23 rfl ?_
      refine k_gTX0_nightTall (pc := 24) kwf_X0_36 rfl dX0_tallsOfNight_24 ?_
      refine k_iload_n (pc := 27) dX0_tallsOfNight_27 rfl ?_
      refine k_iconst (pc := 28) (v := (nI 5)) dX0_tallsOfNight_28 (by decide) ?_
      refine k_imul (pc := 29) dX0_tallsOfNight_29 ?_
      refine k_iload_n (pc := 30) dX0_tallsOfNight_30 rfl ?_
      refine k_iadd (pc := 31) dX0_tallsOfNight_31 ?_
      refine k_lT20 (pc := 32) dX0_tallsOfNight_32 ?_
      refine k_sT21 (pc := 33) dX0_tallsOfNight_33 (fun σ1 => ?_)
      refine k_iinc3 (pc := 34) (w := (nI 1)) dX0_tallsOfNight_34 rfl (by decide) (Nat.le_of_ble_eq_true rfl) (fun v2 => ?_)
      refine k_goto (pc := 37) 10 dX0_tallsOfNight_37 (by decide) ?_
      exact ih σ1 l1 v2
noncomputable def fX0_tallsOfNight (σ : k_S) (x1 : Int32) : Option (Unit × k_S) := k_bn (k_sf σ 7 (σ.1 3)) fun σ1 => k_bn ((nI 0)) fun v2 => fX0_tallsOfNight_c10 k_F σ1 x1 v2
set_option maxRecDepth 100000 in
set_option maxHeartbeats 4000000 in
theorem kX0_tallsOfNight {D : va_G} {cI : ClassId} {q : Nat → Nat} {σ : k_S} {x1 : Int32} {r : Unit} {τ : k_S} (h : fX0_tallsOfNight σ x1 = some (r, τ)) : k_Ct k_ev yX0_tallsOfNight cX0_tallsOfNight 4 none rmX0_tallsOfNight (cT cI q) D cI [.ref (q 3), .int x1, .ref (q 4)] σ r τ := by
  refine k_met (Y := YX0_tallsOfNight) (cT_same _ _) (by decide) rfl (Nat.le_of_ble_eq_true rfl) (List.forall_mem_cons.mpr ⟨rfl, List.forall_mem_cons.mpr ⟨rfl, List.forall_mem_cons.mpr ⟨rfl, fun _ h => absurd h List.not_mem_nil⟩⟩⟩) (fun X hD hI => ?_) h
  subst hD hI
  show KO X YX0_tallsOfNight (cT (k_I X) q) 0 0 (k_Q k_ev X (cT (k_I X) q)) 0 [some (.ref (q 3)), some (.int x1), some (.ref (q 4)), none] [] σ _
  unfold fX0_tallsOfNight
  refine k_aload_n (pc := 0) dX0_tallsOfNight_0 rfl ?_
  refine k_aload_n (pc := 1) dX0_tallsOfNight_1 rfl ?_
  refine k_gTX0_guests (pc := 2) kwf_X0_45 rfl dX0_tallsOfNight_2 ?_
  refine k_pTX3_guests (pc := 5) kwf_X0_85 rfl dX0_tallsOfNight_5 (fun σ1 => ?_)
  refine k_iconst (pc := 8) (v := (nI 0)) dX0_tallsOfNight_8 (by decide) ?_
  refine k_ist3 (pc := 9) dX0_tallsOfNight_9 (Nat.le_of_ble_eq_true rfl) (fun v2 => ?_)
  exact kX0_tallsOfNight_c10 k_F σ1 x1 v2
-- TallTales$House.timesToldBefore(II)I
theorem ckX0_timesToldBefore : k_Vok yX0_timesToldBefore cX0_timesToldBefore 5 (some .int) 2 := ⟨kwk_X0_timesToldBefore, kwi_X0_timesToldBefore, kwv_X0_timesToldBefore, kwn_X0, by decide, by decide +kernel⟩
abbrev rmX0_timesToldBefore : Room := { frames := 0, cells := 0, slots := 0, locals := 0 }
abbrev YX0_timesToldBefore : k_Y := (rmX0_timesToldBefore, cX0_timesToldBefore, 5, RX0, (some .int))
noncomputable def fX0_timesToldBefore_c34 (kh5 : k_S → Int32 → Int32 → Int32 → Int32 → Option (Int32 × k_S)) (σ : k_S) (l1 l2 l3 l4 : Int32) : Option (Int32 × k_S) := k_bn (l4 + (nI 1)) fun v1 => kh5 σ l1 l2 l3 v1
set_option maxRecDepth 100000 in
set_option maxHeartbeats 4000000 in
theorem kX0_timesToldBefore_c34 {X : k_C} {q : Nat → Nat} (kh5 : k_S → Int32 → Int32 → Int32 → Int32 → Option (Int32 × k_S)) (hk5 : ∀ (σ : k_S) (l1 l2 l3 l4 : Int32), KO X YX0_timesToldBefore (cT (k_I X) q) 0 0 (k_Q k_ei X (cT (k_I X) q)) 5 [some (.ref (q 3)), some (.int l1), some (.int l2), some (.int l3), some (.int l4)] [] σ (kh5 σ l1 l2 l3 l4)) (σ : k_S) (l1 l2 l3 l4 : Int32) : KO X YX0_timesToldBefore (cT (k_I X) q) 0 0 (k_Q k_ei X (cT (k_I X) q)) 34 [some (.ref (q 3)), some (.int l1), some (.int l2), some (.int l3), some (.int l4)] [] σ (fX0_timesToldBefore_c34 kh5 σ l1 l2 l3 l4) := by
  unfold fX0_timesToldBefore_c34
  refine k_iinc4 (pc := 34) (w := (nI 1)) dX0_timesToldBefore_34 rfl (by decide) (Nat.le_of_ble_eq_true rfl) (fun v1 => ?_)
  refine k_goto (pc := 37) 5 dX0_timesToldBefore_37 (by decide) ?_
  exact hk5 σ l1 l2 l3 v1
noncomputable def fX0_timesToldBefore_c5 : Nat → k_S → Int32 → Int32 → Int32 → Int32 → Option (Int32 × k_S)
  | 0, _, _, _, _, _ => none
  | n + 1, σ, l1, l2, l3, l4 => (if l4 < l2 then k_gd (l1) 10 (k_gd (((l4 * (nI 5)) + σ.2 6 (Int32.toNatClampNeg (l1)))) 300 ((if σ.2 11 (Int32.toNatClampNeg (((l4 * (nI 5)) + σ.2 6 (Int32.toNatClampNeg (l1))))) = l1 then k_bn (l3 + (nI 1)) fun v1 => fX0_timesToldBefore_c34 (fX0_timesToldBefore_c5 n) σ l1 l2 v1 l4 else fX0_timesToldBefore_c34 (fX0_timesToldBefore_c5 n) σ l1 l2 l3 l4))) else some (l3, σ))
theorem fX0_timesToldBefore_c5_s (n : Nat) (σ : k_S) (l1 l2 l3 l4 : Int32) : fX0_timesToldBefore_c5 (n + 1) σ l1 l2 l3 l4 = (if l4 < l2 then k_gd (l1) 10 (k_gd (((l4 * (nI 5)) + σ.2 6 (Int32.toNatClampNeg (l1)))) 300 ((if σ.2 11 (Int32.toNatClampNeg (((l4 * (nI 5)) + σ.2 6 (Int32.toNatClampNeg (l1))))) = l1 then k_bn (l3 + (nI 1)) fun v1 => fX0_timesToldBefore_c34 (fX0_timesToldBefore_c5 n) σ l1 l2 v1 l4 else fX0_timesToldBefore_c34 (fX0_timesToldBefore_c5 n) σ l1 l2 l3 l4))) else some (l3, σ)) := rfl
set_option maxRecDepth 100000 in
set_option maxHeartbeats 4000000 in
theorem kX0_timesToldBefore_c5 {X : k_C} {q : Nat → Nat} : ∀ (n : Nat) (σ : k_S) (l1 l2 l3 l4 : Int32), KO X YX0_timesToldBefore (cT (k_I X) q) 0 0 (k_Q k_ei X (cT (k_I X) q)) 5 [some (.ref (q 3)), some (.int l1), some (.int l2), some (.int l3), some (.int l4)] [] σ (fX0_timesToldBefore_c5 n σ l1 l2 l3 l4) := by
  intro n
  induction n with
  | zero => intros; exact KO.nil
  | succ n ih =>
    intro σ l1 l2 l3 l4
    rw [fX0_timesToldBefore_c5_s]
    refine k_iload (pc := 5) dX0_timesToldBefore_5 rfl ?_
    refine k_iload_n (pc := 7) dX0_timesToldBefore_7 rfl ?_
    refine k_icmp_ge (pc := 8) 40 dX0_timesToldBefore_8 (by decide) ?_ ?_
    · refine k_iload_n (pc := 40) dX0_timesToldBefore_40 rfl ?_
      exact k_ireturn (pc := 41) rfl dX0_timesToldBefore_41
    · refine k_aload_n (pc := 11) dX0_timesToldBefore_11 rfl ?_
      refine k_gTX0_nightTale (pc := 12) kwf_X0_30 rfl dX0_timesToldBefore_12 ?_
      refine k_iload (pc := 15) dX0_timesToldBefore_15 rfl ?_
      refine k_iconst (pc := 17) (v := (nI 5)) dX0_timesToldBefore_17 (by decide) ?_
      refine k_imul (pc := 18) dX0_timesToldBefore_18 ?_
      refine k_aload_n (pc := 19) dX0_timesToldBefore_19 rfl ?_
      refine k_gTX0_owners (pc := 20) kwf_X0_15 rfl dX0_timesToldBefore_20 ?_
      refine k_iload_n (pc := 23) dX0_timesToldBefore_23 rfl ?_
      refine k_lT13 (pc := 24) dX0_timesToldBefore_24 ?_
      refine k_iadd (pc := 25) dX0_timesToldBefore_25 ?_
      refine k_lT18 (pc := 26) dX0_timesToldBefore_26 ?_
      refine k_iload_n (pc := 27) dX0_timesToldBefore_27 rfl ?_
      refine k_icmp_ne (pc := 28) 34 dX0_timesToldBefore_28 (by decide) ?_ ?_
      · exact kX0_timesToldBefore_c34 (fX0_timesToldBefore_c5 n) ih σ l1 l2 l3 l4
      · refine k_iinc3 (pc := 31) (w := (nI 1)) dX0_timesToldBefore_31 rfl (by decide) (Nat.le_of_ble_eq_true rfl) (fun v1 => ?_)
        exact kX0_timesToldBefore_c34 (fX0_timesToldBefore_c5 n) ih σ l1 l2 v1 l4
noncomputable def fX0_timesToldBefore (σ : k_S) (x1 x2 : Int32) : Option (Int32 × k_S) := k_bn ((nI 0)) fun v1 => k_bn ((nI 0)) fun v2 => fX0_timesToldBefore_c5 k_F σ x1 x2 v1 v2
set_option maxRecDepth 100000 in
set_option maxHeartbeats 4000000 in
theorem kX0_timesToldBefore {D : va_G} {cI : ClassId} {q : Nat → Nat} {σ : k_S} {x1 x2 : Int32} {r : Int32} {τ : k_S} (h : fX0_timesToldBefore σ x1 x2 = some (r, τ)) : k_Ct k_ei yX0_timesToldBefore cX0_timesToldBefore 5 (some .int) rmX0_timesToldBefore (cT cI q) D cI [.ref (q 3), .int x1, .int x2] σ r τ := by
  refine k_met (Y := YX0_timesToldBefore) (cT_same _ _) (by decide) rfl (Nat.le_of_ble_eq_true rfl) (List.forall_mem_cons.mpr ⟨rfl, List.forall_mem_cons.mpr ⟨rfl, List.forall_mem_cons.mpr ⟨rfl, fun _ h => absurd h List.not_mem_nil⟩⟩⟩) (fun X hD hI => ?_) h
  subst hD hI
  show KO X YX0_timesToldBefore (cT (k_I X) q) 0 0 (k_Q k_ei X (cT (k_I X) q)) 0 [some (.ref (q 3)), some (.int x1), some (.int x2), none, none] [] σ _
  unfold fX0_timesToldBefore
  refine k_iconst (pc := 0) (v := (nI 0)) dX0_timesToldBefore_0 (by decide) ?_
  refine k_ist3 (pc := 1) dX0_timesToldBefore_1 (Nat.le_of_ble_eq_true rfl) (fun v1 => ?_)
  refine k_iconst (pc := 2) (v := (nI 0)) dX0_timesToldBefore_2 (by decide) ?_
  refine k_ist4 (pc := 3) dX0_timesToldBefore_3 (Nat.le_of_ble_eq_true rfl) (fun v2 => ?_)
  exact kX0_timesToldBefore_c5 k_F σ x1 x2 v1 v2
-- TallTales$Talls.layAs([I)Z
theorem ckX3_layAs : k_Vok yX3_layAs cX3_layAs 4 (some .boolean) 1 := ⟨kwk_X3_layAs, kwi_X3_layAs, kwv_X3_layAs, kwn_X3, by decide, by decide +kernel⟩
abbrev rmX3_layAs : Room := { frames := 1, cells := 0, slots := 0, locals := 24 }
abbrev YX3_layAs : k_Y := (rmX3_layAs, cX3_layAs, 4, RX3, (some .boolean))
noncomputable def fX3_layAs_c2 : Nat → k_S → Int32 → Option (Int32 × k_S)
  | 0, _, _ => none
  | n + 1, σ, l2 => (if l2 < σ.1 7 then k_gd (l2) 5 (k_bn (σ.2 0 (Int32.toNatClampNeg (l2))) fun v1 => k_gd (v1) 5 (k_ob (fX3_placeOf σ v1 (σ.2 14 (Int32.toNatClampNeg (v1)))) fun r2 σ3 => (if r2 = l2 then k_bn (l2 + (nI 1)) fun v4 => fX3_layAs_c2 n σ3 v4 else k_z ((nI 0)) (some ((nI 0), σ3))))) else k_z ((nI 1)) (some ((nI 1), σ)))
theorem fX3_layAs_c2_s (n : Nat) (σ : k_S) (l2 : Int32) : fX3_layAs_c2 (n + 1) σ l2 = (if l2 < σ.1 7 then k_gd (l2) 5 (k_bn (σ.2 0 (Int32.toNatClampNeg (l2))) fun v1 => k_gd (v1) 5 (k_ob (fX3_placeOf σ v1 (σ.2 14 (Int32.toNatClampNeg (v1)))) fun r2 σ3 => (if r2 = l2 then k_bn (l2 + (nI 1)) fun v4 => fX3_layAs_c2 n σ3 v4 else k_z ((nI 0)) (some ((nI 0), σ3))))) else k_z ((nI 1)) (some ((nI 1), σ))) := rfl
set_option maxRecDepth 100000 in
set_option maxHeartbeats 4000000 in
theorem kX3_layAs_c2 {X : k_C} {q : Nat → Nat} : ∀ (n : Nat) (σ : k_S) (l2 : Int32), KO X YX3_layAs (cT (k_I X) q) 0 0 (k_Q k_ei X (cT (k_I X) q)) 2 [some (.ref (q 4)), some (.ref (q 7)), some (.int l2), none] [] σ (fX3_layAs_c2 n σ l2) := by
  intro n
  induction n with
  | zero => intros; exact KO.nil
  | succ n ih =>
    intro σ l2
    rw [fX3_layAs_c2_s]
    refine k_iload_n (pc := 2) dX3_layAs_2 rfl ?_
    refine k_aload_n (pc := 3) dX3_layAs_3 rfl ?_
    refine k_gTX3_guests (pc := 4) kwf_X3_15 rfl dX3_layAs_4 ?_
    refine k_icmp_ge (pc := 7) 37 dX3_layAs_7 (by decide) ?_ ?_
    · refine k_iconst (pc := 37) (v := (nI 1)) dX3_layAs_37 (by decide) ?_
      exact k_zreturn (pc := 38) rfl dX3_layAs_38
    · refine k_aload_n (pc := 10) dX3_layAs_10 rfl ?_
      refine k_iload_n (pc := 11) dX3_layAs_11 rfl ?_
      refine k_lT7 (pc := 12) dX3_layAs_12 ?_
      refine k_ist3 (pc := 13) dX3_layAs_13 (Nat.le_of_ble_eq_true rfl) (fun v1 => ?_)
      refine k_aload_n (pc := 14) dX3_layAs_14 rfl ?_
      refine k_iload_n (pc := 15) dX3_layAs_15 rfl ?_
      refine k_aload_n (pc := 16) dX3_layAs_16 rfl ?_
      refine k_gTX3_of (pc := 17) kwf_X3_9 rfl dX3_layAs_17 ?_
      refine k_iload_n (pc := 20) dX3_layAs_20 rfl ?_
      refine k_lT21 (pc := 21) dX3_layAs_21 ?_
      refine k_vi2 (pc := 22) (cT_same _ _) ckX3_placeOf kwm_X3_25 cT_rv4 ⟨rfl, rfl⟩ ⟨Nat.le_of_ble_eq_true rfl, Nat.le_of_ble_eq_true rfl⟩ ⟨Nat.zero_le _, Nat.zero_le _⟩ (Nat.le_of_ble_eq_true rfl) dX3_layAs_22 (fun _ _ hf => kX3_placeOf hf) (fun r2 σ3 => ?_)
      refine k_iload_n (pc := 25) dX3_layAs_25 rfl ?_
      refine k_icmp_eq (pc := 26) 31 dX3_layAs_26 (by decide) ?_ ?_
      · refine k_iinc2 (pc := 31) (w := (nI 1)) dX3_layAs_31 rfl (by decide) (Nat.le_of_ble_eq_true rfl) (fun v4 => ?_)
        refine k_goto (pc := 34) 2 dX3_layAs_34 (by decide) ?_
        refine k_fg3 ?_
        exact ih σ3 v4
      · refine k_iconst (pc := 29) (v := (nI 0)) dX3_layAs_29 (by decide) ?_
        exact k_zreturn (pc := 30) rfl dX3_layAs_30
noncomputable def fX3_layAs (σ : k_S) : Option (Int32 × k_S) := k_bn ((nI 0)) fun v1 => fX3_layAs_c2 k_F σ v1
set_option maxRecDepth 100000 in
set_option maxHeartbeats 4000000 in
theorem kX3_layAs {D : va_G} {cI : ClassId} {q : Nat → Nat} {σ : k_S} {r : Int32} {τ : k_S} (h : fX3_layAs σ = some (r, τ)) : k_Ct k_ei yX3_layAs cX3_layAs 4 (some .boolean) rmX3_layAs (cT cI q) D cI [.ref (q 4), .ref (q 7)] σ r τ := by
  refine k_met (Y := YX3_layAs) (cT_same _ _) (by decide) rfl (Nat.le_of_ble_eq_true rfl) (List.forall_mem_cons.mpr ⟨rfl, List.forall_mem_cons.mpr ⟨rfl, fun _ h => absurd h List.not_mem_nil⟩⟩) (fun X hD hI => ?_) h
  subst hD hI
  show KO X YX3_layAs (cT (k_I X) q) 0 0 (k_Q k_ei X (cT (k_I X) q)) 0 [some (.ref (q 4)), some (.ref (q 7)), none, none] [] σ _
  unfold fX3_layAs
  refine k_iconst (pc := 0) (v := (nI 0)) dX3_layAs_0 (by decide) ?_
  refine k_ist2 (pc := 1) dX3_layAs_1 (Nat.le_of_ble_eq_true rfl) (fun v1 => ?_)
  exact kX3_layAs_c2 k_F σ v1
-- TallTales.canHaveTold(II)I
theorem ckX6_canHaveTold : k_Vok yX6_canHaveTold cX6_canHaveTold 5 (some .int) 2 := ⟨kwk_X6_canHaveTold, kwi_X6_canHaveTold, kwv_X6_canHaveTold, kwn_X6, by decide, by decide +kernel⟩
abbrev rmX6_canHaveTold : Room := { frames := 2, cells := 0, slots := 0, locals := 47 }
abbrev YX6_canHaveTold : k_Y := (rmX6_canHaveTold, cX6_canHaveTold, 5, RX6, (some .int))
noncomputable def fX6_canHaveTold_c95 (kh17 : k_S → Int32 → Int32 → Int32 → Int32 → Option (Int32 × k_S)) (σ : k_S) (l1 l2 l3 l4 : Int32) : Option (Int32 × k_S) := k_bn (l4 + (nI 1)) fun v1 => kh17 σ l1 l2 l3 v1
set_option maxRecDepth 100000 in
set_option maxHeartbeats 4000000 in
theorem kX6_canHaveTold_c95 {X : k_C} {q : Nat → Nat} (kh17 : k_S → Int32 → Int32 → Int32 → Int32 → Option (Int32 × k_S)) (hk17 : ∀ (σ : k_S) (l1 l2 l3 l4 : Int32), KO X YX6_canHaveTold (cT (k_I X) q) 0 0 (k_Q k_ei X (cT (k_I X) q)) 17 [some (.ref (q 0)), some (.int l1), some (.int l2), some (.int l3), some (.int l4)] [] σ (kh17 σ l1 l2 l3 l4)) (σ : k_S) (l1 l2 l3 l4 : Int32) : KO X YX6_canHaveTold (cT (k_I X) q) 0 0 (k_Q k_ei X (cT (k_I X) q)) 95 [some (.ref (q 0)), some (.int l1), some (.int l2), some (.int l3), some (.int l4)] [] σ (fX6_canHaveTold_c95 kh17 σ l1 l2 l3 l4) := by
  unfold fX6_canHaveTold_c95
  refine k_iinc4 (pc := 95) (w := (nI 1)) dX6_canHaveTold_95 rfl (by decide) (Nat.le_of_ble_eq_true rfl) (fun v1 => ?_)
  refine k_goto (pc := 98) 17 dX6_canHaveTold_98 (by decide) ?_
  exact hk17 σ l1 l2 l3 v1
noncomputable def fX6_canHaveTold_c17 : Nat → k_S → Int32 → Int32 → Int32 → Int32 → Option (Int32 × k_S)
  | 0, _, _, _, _, _ => none
  | n + 1, σ, l1, l2, l3, l4 => (if l4 < σ.1 4 then k_gd (l4) 10 ((if σ.2 6 (Int32.toNatClampNeg (l4)) = l2 then k_ob (fX0_timesToldBefore σ l4 l1) fun r5 σ6 => k_ob (fX0_tallWhenTold σ6 l4 r5) fun r7 σ8 => k_gd (l2) 5 (k_bn (k_sa σ8 14 (l2) (r7)) fun σ9 => k_ob (fX3_layAs σ9) fun r10 σ11 => (if r10 = 0 then fX6_canHaveTold_c95 (fX6_canHaveTold_c17 n) σ11 l1 l2 l3 l4 else k_bn ((l3 ||| (((nI 1) : Int32) <<< ((l4 : Int32) &&& 31)))) fun v12 => fX6_canHaveTold_c95 (fX6_canHaveTold_c17 n) σ11 l1 l2 v12 l4)) else fX6_canHaveTold_c95 (fX6_canHaveTold_c17 n) σ l1 l2 l3 l4)) else k_gd (l2) 5 (k_bn (k_sa σ 14 (l2) ((nI 0))) fun σ1 => k_ob (fX3_layAs σ1) fun r2 σ3 => (if r2 = 0 then some (l3, σ3) else k_bn ((l3 ||| (nI 1024))) fun v4 => some (v4, σ3))))
theorem fX6_canHaveTold_c17_s (n : Nat) (σ : k_S) (l1 l2 l3 l4 : Int32) : fX6_canHaveTold_c17 (n + 1) σ l1 l2 l3 l4 = (if l4 < σ.1 4 then k_gd (l4) 10 ((if σ.2 6 (Int32.toNatClampNeg (l4)) = l2 then k_ob (fX0_timesToldBefore σ l4 l1) fun r5 σ6 => k_ob (fX0_tallWhenTold σ6 l4 r5) fun r7 σ8 => k_gd (l2) 5 (k_bn (k_sa σ8 14 (l2) (r7)) fun σ9 => k_ob (fX3_layAs σ9) fun r10 σ11 => (if r10 = 0 then fX6_canHaveTold_c95 (fX6_canHaveTold_c17 n) σ11 l1 l2 l3 l4 else k_bn ((l3 ||| (((nI 1) : Int32) <<< ((l4 : Int32) &&& 31)))) fun v12 => fX6_canHaveTold_c95 (fX6_canHaveTold_c17 n) σ11 l1 l2 v12 l4)) else fX6_canHaveTold_c95 (fX6_canHaveTold_c17 n) σ l1 l2 l3 l4)) else k_gd (l2) 5 (k_bn (k_sa σ 14 (l2) ((nI 0))) fun σ1 => k_ob (fX3_layAs σ1) fun r2 σ3 => (if r2 = 0 then some (l3, σ3) else k_bn ((l3 ||| (nI 1024))) fun v4 => some (v4, σ3)))) := rfl
set_option maxRecDepth 100000 in
set_option maxHeartbeats 4000000 in
theorem kX6_canHaveTold_c17 {X : k_C} {q : Nat → Nat} : ∀ (n : Nat) (σ : k_S) (l1 l2 l3 l4 : Int32), KO X YX6_canHaveTold (cT (k_I X) q) 0 0 (k_Q k_ei X (cT (k_I X) q)) 17 [some (.ref (q 0)), some (.int l1), some (.int l2), some (.int l3), some (.int l4)] [] σ (fX6_canHaveTold_c17 n σ l1 l2 l3 l4) := by
  intro n
  induction n with
  | zero => intros; exact KO.nil
  | succ n ih =>
    intro σ l1 l2 l3 l4
    rw [fX6_canHaveTold_c17_s]
    refine k_iload (pc := 17) dX6_canHaveTold_17 rfl ?_
    refine k_aload_n (pc := 19) dX6_canHaveTold_19 rfl ?_
    refine k_gTX6_house (pc := 20) kwf_X6_28 rfl dX6_canHaveTold_20 ?_
    refine k_gTX0_tales (pc := 23) kwf_X6_98 rfl dX6_canHaveTold_23 ?_
    refine k_icmp_ge (pc := 26) 101 dX6_canHaveTold_26 (by decide) ?_ ?_
    · refine k_aload_n (pc := 101) dX6_canHaveTold_101 rfl ?_
      refine k_gTX6_talls (pc := 102) kwf_X6_35 rfl dX6_canHaveTold_102 ?_
      refine k_gTX3_of (pc := 105) kwf_X6_169 rfl dX6_canHaveTold_105 ?_
      refine k_iload_n (pc := 108) dX6_canHaveTold_108 rfl ?_
      refine k_iconst (pc := 109) (v := (nI 0)) dX6_canHaveTold_109 (by decide) ?_
      refine k_sT21 (pc := 110) dX6_canHaveTold_110 (fun σ1 => ?_)
      refine k_aload_n (pc := 111) dX6_canHaveTold_111 rfl ?_
      refine k_gTX6_talls (pc := 112) kwf_X6_35 rfl dX6_canHaveTold_112 ?_
      refine k_aload_n (pc := 115) dX6_canHaveTold_115 rfl ?_
      refine k_gTX6_lying (pc := 116) kwf_X6_57 rfl dX6_canHaveTold_116 ?_
      refine k_vi1 (pc := 119) (cT_same _ _) ckX3_layAs kwm_X6_279 cT_rv4 ⟨rfl, rfl⟩ ⟨Nat.le_of_ble_eq_true rfl, Nat.le_of_ble_eq_true rfl⟩ ⟨Nat.zero_le _, Nat.zero_le _⟩ (Nat.le_of_ble_eq_true rfl) dX6_canHaveTold_119 (fun _ _ hf => kX3_layAs hf) (fun r2 σ3 => ?_)
      refine k_if_eq (pc := 122) 131 dX6_canHaveTold_122 (by decide) ?_ ?_
      · refine k_iload_n (pc := 131) dX6_canHaveTold_131 rfl ?_
        exact k_ireturn (pc := 132) rfl dX6_canHaveTold_132
      · refine k_iload_n (pc := 125) dX6_canHaveTold_125 rfl ?_
        refine k_sipush (pc := 126) (v := (nI 1024)) dX6_canHaveTold_126 (by decide) ?_
        refine k_ior (pc := 129) dX6_canHaveTold_129 ?_
        refine k_ist3 (pc := 130) dX6_canHaveTold_130 (Nat.le_of_ble_eq_true rfl) (fun v4 => ?_)
        refine k_iload_n (pc := 131) dX6_canHaveTold_131 rfl ?_
        exact k_ireturn (pc := 132) rfl dX6_canHaveTold_132
    · refine k_aload_n (pc := 29) dX6_canHaveTold_29 rfl ?_
      refine k_gTX6_house (pc := 30) kwf_X6_28 rfl dX6_canHaveTold_30 ?_
      refine k_gTX0_owners (pc := 33) kwf_X6_107 rfl dX6_canHaveTold_33 ?_
      refine k_iload (pc := 36) dX6_canHaveTold_36 rfl ?_
      refine k_lT13 (pc := 38) dX6_canHaveTold_38 ?_
      refine k_iload_n (pc := 39) dX6_canHaveTold_39 rfl ?_
      refine k_icmp_eq (pc := 40) 46 dX6_canHaveTold_40 (by decide) ?_ ?_
      · refine k_aload_n (pc := 46) dX6_canHaveTold_46 rfl ?_
        refine k_gTX6_talls (pc := 47) kwf_X6_35 rfl dX6_canHaveTold_47 ?_
        refine k_gTX3_of (pc := 50) kwf_X6_169 rfl dX6_canHaveTold_50 ?_
        refine k_iload_n (pc := 53) dX6_canHaveTold_53 rfl ?_
        refine k_aload_n (pc := 54) dX6_canHaveTold_54 rfl ?_
        refine k_gTX6_house (pc := 55) kwf_X6_28 rfl dX6_canHaveTold_55 ?_
        refine k_iload (pc := 58) dX6_canHaveTold_58 rfl ?_
        refine k_aload_n (pc := 60) dX6_canHaveTold_60 rfl ?_
        refine k_gTX6_house (pc := 61) kwf_X6_28 rfl dX6_canHaveTold_61 ?_
        refine k_iload (pc := 64) dX6_canHaveTold_64 rfl ?_
        refine k_iload_n (pc := 66) dX6_canHaveTold_66 rfl ?_
        refine k_vi2 (pc := 67) (cT_same _ _) ckX0_timesToldBefore kwm_X6_273 cT_rv3 ⟨rfl, rfl⟩ ⟨Nat.le_of_ble_eq_true rfl, Nat.le_of_ble_eq_true rfl⟩ ⟨Nat.zero_le _, Nat.zero_le _⟩ (Nat.le_of_ble_eq_true rfl) dX6_canHaveTold_67 (fun _ _ hf => kX0_timesToldBefore hf) (fun r5 σ6 => ?_)
        refine k_vi2 (pc := 70) (cT_same _ _) ckX0_tallWhenTold kwm_X6_276 cT_rv3 ⟨rfl, rfl⟩ ⟨Nat.le_of_ble_eq_true rfl, Nat.le_of_ble_eq_true rfl⟩ ⟨Nat.zero_le _, Nat.zero_le _⟩ (Nat.le_of_ble_eq_true rfl) dX6_canHaveTold_70 (fun _ _ hf => kX0_tallWhenTold hf) (fun r7 σ8 => ?_)
        refine k_sT21 (pc := 73) dX6_canHaveTold_73 (fun σ9 => ?_)
        refine k_aload_n (pc := 74) dX6_canHaveTold_74 rfl ?_
        refine k_gTX6_talls (pc := 75) kwf_X6_35 rfl dX6_canHaveTold_75 ?_
        refine k_aload_n (pc := 78) dX6_canHaveTold_78 rfl ?_
        refine k_gTX6_lying (pc := 79) kwf_X6_57 rfl dX6_canHaveTold_79 ?_
        refine k_vi1 (pc := 82) (cT_same _ _) ckX3_layAs kwm_X6_279 cT_rv4 ⟨rfl, rfl⟩ ⟨Nat.le_of_ble_eq_true rfl, Nat.le_of_ble_eq_true rfl⟩ ⟨Nat.zero_le _, Nat.zero_le _⟩ (Nat.le_of_ble_eq_true rfl) dX6_canHaveTold_82 (fun _ _ hf => kX3_layAs hf) (fun r10 σ11 => ?_)
        refine k_if_eq (pc := 85) 95 dX6_canHaveTold_85 (by decide) ?_ ?_
        · exact kX6_canHaveTold_c95 (fX6_canHaveTold_c17 n) ih σ11 l1 l2 l3 l4
        · refine k_iload_n (pc := 88) dX6_canHaveTold_88 rfl ?_
          refine k_iconst (pc := 89) (v := (nI 1)) dX6_canHaveTold_89 (by decide) ?_
          refine k_iload (pc := 90) dX6_canHaveTold_90 rfl ?_
          refine k_ishl (pc := 92) dX6_canHaveTold_92 ?_
          refine k_ior (pc := 93) dX6_canHaveTold_93 ?_
          refine k_ist3 (pc := 94) dX6_canHaveTold_94 (Nat.le_of_ble_eq_true rfl) (fun v12 => ?_)
          exact kX6_canHaveTold_c95 (fX6_canHaveTold_c17 n) ih σ11 l1 l2 v12 l4
      · refine k_goto (pc := 43) 95 dX6_canHaveTold_43 (by decide) ?_
        exact kX6_canHaveTold_c95 (fX6_canHaveTold_c17 n) ih σ l1 l2 l3 l4
noncomputable def fX6_canHaveTold (σ : k_S) (x1 x2 : Int32) : Option (Int32 × k_S) := k_ob (fX0_tallsOfNight σ x1) fun r1 σ2 => k_bn ((nI 0)) fun v3 => k_bn ((nI 0)) fun v4 => fX6_canHaveTold_c17 k_F σ2 x1 x2 v3 v4
set_option maxRecDepth 100000 in
set_option maxHeartbeats 4000000 in
theorem kX6_canHaveTold {D : va_G} {cI : ClassId} {q : Nat → Nat} {σ : k_S} {x1 x2 : Int32} {r : Int32} {τ : k_S} (h : fX6_canHaveTold σ x1 x2 = some (r, τ)) : k_Ct k_ei yX6_canHaveTold cX6_canHaveTold 5 (some .int) rmX6_canHaveTold (cT cI q) D cI [.ref (q 0), .int x1, .int x2] σ r τ := by
  refine k_met (Y := YX6_canHaveTold) (cT_same _ _) (by decide) rfl (Nat.le_of_ble_eq_true rfl) (List.forall_mem_cons.mpr ⟨rfl, List.forall_mem_cons.mpr ⟨rfl, List.forall_mem_cons.mpr ⟨rfl, fun _ h => absurd h List.not_mem_nil⟩⟩⟩) (fun X hD hI => ?_) h
  subst hD hI
  show KO X YX6_canHaveTold (cT (k_I X) q) 0 0 (k_Q k_ei X (cT (k_I X) q)) 0 [some (.ref (q 0)), some (.int x1), some (.int x2), none, none] [] σ _
  unfold fX6_canHaveTold
  refine k_aload_n (pc := 0) dX6_canHaveTold_0 rfl ?_
  refine k_gTX6_house (pc := 1) kwf_X6_28 rfl dX6_canHaveTold_1 ?_
  refine k_iload_n (pc := 4) dX6_canHaveTold_4 rfl ?_
  refine k_aload_n (pc := 5) dX6_canHaveTold_5 rfl ?_
  refine k_gTX6_talls (pc := 6) kwf_X6_35 rfl dX6_canHaveTold_6 ?_
  refine k_vv2 (pc := 9) (cT_same _ _) ckX0_tallsOfNight kwm_X6_269 cT_rv3 ⟨rfl, rfl⟩ ⟨Nat.le_of_ble_eq_true rfl, Nat.le_of_ble_eq_true rfl⟩ ⟨Nat.zero_le _, Nat.zero_le _⟩ (Nat.le_of_ble_eq_true rfl) dX6_canHaveTold_9 (fun _ _ hf => kX0_tallsOfNight hf) (fun r1 σ2 => ?_)
  refine k_iconst (pc := 12) (v := (nI 0)) dX6_canHaveTold_12 (by decide) ?_
  refine k_ist3 (pc := 13) dX6_canHaveTold_13 (Nat.le_of_ble_eq_true rfl) (fun v3 => ?_)
  refine k_iconst (pc := 14) (v := (nI 0)) dX6_canHaveTold_14 (by decide) ?_
  refine k_ist4 (pc := 15) dX6_canHaveTold_15 (Nat.le_of_ble_eq_true rfl) (fun v4 => ?_)
  exact kX6_canHaveTold_c17 k_F σ2 x1 x2 v3 v4
-- TallTales.toldBy(IIIII)I
theorem ckX6_toldBy : k_Vok yX6_toldBy cX6_toldBy 7 (some .int) 5 := ⟨kwk_X6_toldBy, kwi_X6_toldBy, kwv_X6_toldBy, kwn_X6, by decide, by decide +kernel⟩
abbrev rmX6_toldBy : Room := { frames := 3, cells := 0, slots := 0, locals := 72 }
abbrev YX6_toldBy : k_Y := (rmX6_toldBy, cX6_toldBy, 7, RX6, (some .int))
noncomputable def fX6_toldBy (σ : k_S) (x1 x2 x3 x4 x5 : Int32) : Option (Int32 × k_S) := k_bn (k_sf σ 1 ((nI 0))) fun σ1 => k_ob (fX0_hasNight σ1 x1) fun r2 σ3 => (if r2 = 0 then some ((k_ng 1), σ3) else k_ob (fX0_hasGuest σ3 x2) fun r4 σ5 => (if r4 = 0 then some ((k_ng 1), σ5) else k_ob (fX6_isSheet σ5 x3) fun r6 σ7 => (if r6 = 0 then some ((k_ng 1), σ7) else k_ob (fX6_isSort σ7 x4) fun r8 σ9 => (if r8 = 0 then some ((k_ng 2), σ9) else k_ob (fX2_faultOf σ9 x3 x4 x5 (σ9.1 3)) fun r10 σ11 => k_bn (r10) fun v12 => (if v12 = 0 then k_ob (fX2_take_a7 σ11 x3 x5 (σ11.1 3)) fun r13 σ14 => k_ob (fX0_isRowOfAll σ14) fun r15 σ16 => (if r15 = 0 then some ((k_ng 2), σ16) else k_ob (fX6_canHaveTold σ16 x1 x2) fun r17 σ18 => some (r17, σ18)) else k_ob (fX6_faulty σ11 v12) fun r19 σ20 => some (r19, σ20))))))
set_option maxRecDepth 100000 in
set_option maxHeartbeats 4000000 in
theorem kX6_toldBy {D : va_G} {cI : ClassId} {q : Nat → Nat} {σ : k_S} {x1 x2 x3 x4 x5 : Int32} {r : Int32} {τ : k_S} (h : fX6_toldBy σ x1 x2 x3 x4 x5 = some (r, τ)) : k_Ct k_ei yX6_toldBy cX6_toldBy 7 (some .int) rmX6_toldBy (cT cI q) D cI [.ref (q 0), .int x1, .int x2, .int x3, .int x4, .int x5] σ r τ := by
  refine k_met (Y := YX6_toldBy) (cT_same _ _) (by decide) rfl (Nat.le_of_ble_eq_true rfl) (List.forall_mem_cons.mpr ⟨rfl, List.forall_mem_cons.mpr ⟨rfl, List.forall_mem_cons.mpr ⟨rfl, List.forall_mem_cons.mpr ⟨rfl, List.forall_mem_cons.mpr ⟨rfl, List.forall_mem_cons.mpr ⟨rfl, fun _ h => absurd h List.not_mem_nil⟩⟩⟩⟩⟩⟩) (fun X hD hI => ?_) h
  subst hD hI
  show KO X YX6_toldBy (cT (k_I X) q) 0 0 (k_Q k_ei X (cT (k_I X) q)) 0 [some (.ref (q 0)), some (.int x1), some (.int x2), some (.int x3), some (.int x4), some (.int x5), none] [] σ _
  unfold fX6_toldBy
  refine k_aload_n (pc := 0) dX6_toldBy_0 rfl ?_
  refine k_iconst (pc := 1) (v := (nI 0)) dX6_toldBy_1 (by decide) ?_
  refine k_pTX6_fault (pc := 2) kwf_X6_61 rfl dX6_toldBy_2 (fun σ1 => ?_)
  refine k_aload_n (pc := 5) dX6_toldBy_5 rfl ?_
  refine k_gTX6_house (pc := 6) kwf_X6_28 rfl dX6_toldBy_6 ?_
  refine k_iload_n (pc := 9) dX6_toldBy_9 rfl ?_
  refine k_vi1 (pc := 10) (cT_same _ _) ckX0_hasNight kwm_X6_149 cT_rv3 ⟨rfl, rfl⟩ ⟨Nat.le_of_ble_eq_true rfl, Nat.le_of_ble_eq_true rfl⟩ ⟨Nat.zero_le _, Nat.zero_le _⟩ (Nat.le_of_ble_eq_true rfl) dX6_toldBy_10 (fun _ _ hf => kX0_hasNight hf) (fun r2 σ3 => ?_)
  refine k_if_eq (pc := 13) 34 dX6_toldBy_13 (by decide) ?_ ?_
  · refine k_iconst (pc := 34) (v := (k_ng 1)) dX6_toldBy_34 (by decide) ?_
    exact k_ireturn (pc := 35) rfl dX6_toldBy_35
  · refine k_aload_n (pc := 16) dX6_toldBy_16 rfl ?_
    refine k_gTX6_house (pc := 17) kwf_X6_28 rfl dX6_toldBy_17 ?_
    refine k_iload_n (pc := 20) dX6_toldBy_20 rfl ?_
    refine k_vi1 (pc := 21) (cT_same _ _) ckX0_hasGuest kwm_X6_132 cT_rv3 ⟨rfl, rfl⟩ ⟨Nat.le_of_ble_eq_true rfl, Nat.le_of_ble_eq_true rfl⟩ ⟨Nat.zero_le _, Nat.zero_le _⟩ (Nat.le_of_ble_eq_true rfl) dX6_toldBy_21 (fun _ _ hf => kX0_hasGuest hf) (fun r4 σ5 => ?_)
    refine k_if_eq (pc := 24) 34 dX6_toldBy_24 (by decide) ?_ ?_
    · refine k_iconst (pc := 34) (v := (k_ng 1)) dX6_toldBy_34 (by decide) ?_
      exact k_ireturn (pc := 35) rfl dX6_toldBy_35
    · refine k_iload_n (pc := 27) dX6_toldBy_27 rfl ?_
      refine k_si1 (pc := 28) (cT_same _ _) ckX6_isSheet kwm_X6_65 ⟨rfl, rfl⟩ ⟨Nat.le_of_ble_eq_true rfl, Nat.le_of_ble_eq_true rfl⟩ ⟨Nat.zero_le _, Nat.zero_le _⟩ (Nat.le_of_ble_eq_true rfl) dX6_toldBy_28 (fun _ _ hf => kX6_isSheet hf) (fun r6 σ7 => ?_)
      refine k_if_ne (pc := 31) 36 dX6_toldBy_31 (by decide) ?_ ?_
      · refine k_iload (pc := 36) dX6_toldBy_36 rfl ?_
        refine k_si1 (pc := 38) (cT_same _ _) ckX6_isSort kwm_X6_69 ⟨rfl, rfl⟩ ⟨Nat.le_of_ble_eq_true rfl, Nat.le_of_ble_eq_true rfl⟩ ⟨Nat.zero_le _, Nat.zero_le _⟩ (Nat.le_of_ble_eq_true rfl) dX6_toldBy_38 (fun _ _ hf => kX6_isSort hf) (fun r8 σ9 => ?_)
        refine k_if_ne (pc := 41) 47 dX6_toldBy_41 (by decide) ?_ ?_
        · refine k_aload_n (pc := 47) dX6_toldBy_47 rfl ?_
          refine k_gTX6_sheets (pc := 48) kwf_X6_12 rfl dX6_toldBy_48 ?_
          refine k_iload_n (pc := 51) dX6_toldBy_51 rfl ?_
          refine k_iload (pc := 52) dX6_toldBy_52 rfl ?_
          refine k_iload (pc := 54) dX6_toldBy_54 rfl ?_
          refine k_aload_n (pc := 56) dX6_toldBy_56 rfl ?_
          refine k_gTX6_house (pc := 57) kwf_X6_28 rfl dX6_toldBy_57 ?_
          refine k_gTX0_guests (pc := 60) kwf_X6_208 rfl dX6_toldBy_60 ?_
          refine k_vi4 (pc := 63) (cT_same _ _) ckX2_faultOf kwm_X6_72 cT_rv1 ⟨rfl, rfl⟩ ⟨Nat.le_of_ble_eq_true rfl, Nat.le_of_ble_eq_true rfl⟩ ⟨Nat.zero_le _, Nat.zero_le _⟩ (Nat.le_of_ble_eq_true rfl) dX6_toldBy_63 (fun _ _ hf => kX2_faultOf hf) (fun r10 σ11 => ?_)
          refine k_ist6 (pc := 66) dX6_toldBy_66 (Nat.le_of_ble_eq_true rfl) (fun v12 => ?_)
          refine k_iload (pc := 68) dX6_toldBy_68 rfl ?_
          refine k_if_eq (pc := 70) 80 dX6_toldBy_70 (by decide) ?_ ?_
          · refine k_aload_n (pc := 80) dX6_toldBy_80 rfl ?_
            refine k_gTX6_sheets (pc := 81) kwf_X6_12 rfl dX6_toldBy_81 ?_
            refine k_iload_n (pc := 84) dX6_toldBy_84 rfl ?_
            refine k_iload (pc := 85) dX6_toldBy_85 rfl ?_
            refine k_aload_n (pc := 87) dX6_toldBy_87 rfl ?_
            refine k_gTX6_house (pc := 88) kwf_X6_28 rfl dX6_toldBy_88 ?_
            refine k_gTX0_guests (pc := 91) kwf_X6_208 rfl dX6_toldBy_91 ?_
            refine k_aload_n (pc := 94) dX6_toldBy_94 rfl ?_
            refine k_gTX6_lying (pc := 95) kwf_X6_57 rfl dX6_toldBy_95 ?_
            refine k_vv4 (pc := 98) (cT_same _ _) ckX2_take kwm_X6_86 cT_rv1 ⟨rfl, rfl⟩ ⟨Nat.le_of_ble_eq_true rfl, Nat.le_of_ble_eq_true rfl⟩ ⟨Nat.zero_le _, Nat.zero_le _⟩ (Nat.le_of_ble_eq_true rfl) dX6_toldBy_98 (fun _ _ hf => kX2_take_a7 hf) (fun r13 σ14 => ?_)
            refine k_aload_n (pc := 101) dX6_toldBy_101 rfl ?_
            refine k_gTX6_house (pc := 102) kwf_X6_28 rfl dX6_toldBy_102 ?_
            refine k_aload_n (pc := 105) dX6_toldBy_105 rfl ?_
            refine k_gTX6_lying (pc := 106) kwf_X6_57 rfl dX6_toldBy_106 ?_
            refine k_vi1 (pc := 109) (cT_same _ _) ckX0_isRowOfAll kwm_X6_211 cT_rv3 ⟨rfl, rfl⟩ ⟨Nat.le_of_ble_eq_true rfl, Nat.le_of_ble_eq_true rfl⟩ ⟨Nat.zero_le _, Nat.zero_le _⟩ (Nat.le_of_ble_eq_true rfl) dX6_toldBy_109 (fun _ _ hf => kX0_isRowOfAll hf) (fun r15 σ16 => ?_)
            refine k_if_ne (pc := 112) 118 dX6_toldBy_112 (by decide) ?_ ?_
            · refine k_aload_n (pc := 118) dX6_toldBy_118 rfl ?_
              refine k_iload_n (pc := 119) dX6_toldBy_119 rfl ?_
              refine k_iload_n (pc := 120) dX6_toldBy_120 rfl ?_
              refine k_vi2 (pc := 121) (cT_same _ _) ckX6_canHaveTold kwm_X6_215 cT_rv0 ⟨rfl, rfl⟩ ⟨Nat.le_of_ble_eq_true rfl, Nat.le_of_ble_eq_true rfl⟩ ⟨Nat.zero_le _, Nat.zero_le _⟩ (Nat.le_of_ble_eq_true rfl) dX6_toldBy_121 (fun _ _ hf => kX6_canHaveTold hf) (fun r17 σ18 => ?_)
              exact k_ireturn (pc := 124) rfl dX6_toldBy_124
            · refine k_bipush (pc := 115) (v := (k_ng 2)) dX6_toldBy_115 (by decide) ?_
              exact k_ireturn (pc := 117) rfl dX6_toldBy_117
          · refine k_aload_n (pc := 73) dX6_toldBy_73 rfl ?_
            refine k_iload (pc := 74) dX6_toldBy_74 rfl ?_
            refine k_vi1 (pc := 76) (cT_same _ _) ckX6_faulty kwm_X6_76 cT_rv0 ⟨rfl, rfl⟩ ⟨Nat.le_of_ble_eq_true rfl, Nat.le_of_ble_eq_true rfl⟩ ⟨Nat.zero_le _, Nat.zero_le _⟩ (Nat.le_of_ble_eq_true rfl) dX6_toldBy_76 (fun _ _ hf => kX6_faulty hf) (fun r19 σ20 => ?_)
            exact k_ireturn (pc := 79) rfl dX6_toldBy_79
        · refine k_bipush (pc := 44) (v := (k_ng 2)) dX6_toldBy_44 (by decide) ?_
          exact k_ireturn (pc := 46) rfl dX6_toldBy_46
      · refine k_iconst (pc := 34) (v := (k_ng 1)) dX6_toldBy_34 (by decide) ?_
        exact k_ireturn (pc := 35) rfl dX6_toldBy_35
-- TallTales$Sheets.makeRow(III)V
theorem ckX2_makeRow : k_Vok yX2_makeRow cX2_makeRow 4 none 3 := ⟨kwk_X2_makeRow, kwi_X2_makeRow, kwv_X2_makeRow, kwn_X2, by decide, by decide +kernel⟩
abbrev rmX2_makeRow : Room := { frames := 2, cells := 0, slots := 0, locals := 90 }
abbrev YX2_makeRow : k_Y := (rmX2_makeRow, cX2_makeRow, 4, RX2, none)
noncomputable def fX2_makeRow (σ : k_S) (x1 x2 x3 : Int32) : Option (Unit × k_S) := k_gd (x1) 4 (k_bn (k_sa σ 2 (x1) (x2)) fun σ1 => k_gd (x1) 4 (k_bn (k_sa σ1 3 (x1) (x3)) fun σ2 => k_gf ((x1 * (nI 60))) (((x1 * (nI 60)) + x3)) 240 (k_bn (k_sA σ2 1 (k_fl (σ2.2 1) (Int32.toNatClampNeg ((x1 * (nI 60)))) (Int32.toNatClampNeg (((x1 * (nI 60)) + x3))) ((nI 0)))) fun σ3 => some ((), σ3))))
set_option maxRecDepth 100000 in
set_option maxHeartbeats 4000000 in
theorem kX2_makeRow {D : va_G} {cI : ClassId} {q : Nat → Nat} {σ : k_S} {x1 x2 x3 : Int32} {r : Unit} {τ : k_S} (h : fX2_makeRow σ x1 x2 x3 = some (r, τ)) : k_Ct k_ev yX2_makeRow cX2_makeRow 4 none rmX2_makeRow (cT cI q) D cI [.ref (q 1), .int x1, .int x2, .int x3] σ r τ := by
  refine k_met (Y := YX2_makeRow) (cT_same _ _) (by decide) rfl (Nat.le_of_ble_eq_true rfl) (List.forall_mem_cons.mpr ⟨rfl, List.forall_mem_cons.mpr ⟨rfl, List.forall_mem_cons.mpr ⟨rfl, List.forall_mem_cons.mpr ⟨rfl, fun _ h => absurd h List.not_mem_nil⟩⟩⟩⟩) (fun X hD hI => ?_) h
  subst hD hI
  show KO X YX2_makeRow (cT (k_I X) q) 0 0 (k_Q k_ev X (cT (k_I X) q)) 0 [some (.ref (q 1)), some (.int x1), some (.int x2), some (.int x3)] [] σ _
  unfold fX2_makeRow
  refine k_aload_n (pc := 0) dX2_makeRow_0 rfl ?_
  refine k_gTX2_sorts (pc := 1) kwf_X2_15 rfl dX2_makeRow_1 ?_
  refine k_iload_n (pc := 4) dX2_makeRow_4 rfl ?_
  refine k_iload_n (pc := 5) dX2_makeRow_5 rfl ?_
  refine k_sT9 (pc := 6) dX2_makeRow_6 (fun σ1 => ?_)
  refine k_aload_n (pc := 7) dX2_makeRow_7 rfl ?_
  refine k_gTX2_lengths (pc := 8) kwf_X2_18 rfl dX2_makeRow_8 ?_
  refine k_iload_n (pc := 11) dX2_makeRow_11 rfl ?_
  refine k_iload_n (pc := 12) dX2_makeRow_12 rfl ?_
  refine k_sT10 (pc := 13) dX2_makeRow_13 (fun σ2 => ?_)
  refine k_aload_n (pc := 14) dX2_makeRow_14 rfl ?_
  refine k_gTX2_cells (pc := 15) kwf_X2_9 rfl dX2_makeRow_15 ?_
  refine k_iload_n (pc := 18) dX2_makeRow_18 rfl ?_
  refine k_bipush (pc := 19) (v := (nI 60)) dX2_makeRow_19 (by decide) ?_
  refine k_imul (pc := 21) dX2_makeRow_21 ?_
  refine k_iload_n (pc := 22) dX2_makeRow_22 rfl ?_
  refine k_bipush (pc := 23) (v := (nI 60)) dX2_makeRow_23 (by decide) ?_
  refine k_imul (pc := 25) dX2_makeRow_25 ?_
  refine k_iload_n (pc := 26) dX2_makeRow_26 rfl ?_
  refine k_iadd (pc := 27) dX2_makeRow_27 ?_
  refine k_iconst (pc := 28) (v := (nI 0)) dX2_makeRow_28 (by decide) ?_
  refine k_fT4_8 (pc := 29) kwm_X2_35 ⟨Nat.le_of_ble_eq_true rfl, Nat.le_of_ble_eq_true rfl⟩ dX2_makeRow_29 (fun σ3 => ?_)
  exact k_return (pc := 32) rfl dX2_makeRow_32
-- TallTales.sheet(III)I
theorem ckX6_sheet : k_Vok yX6_sheet cX6_sheet 4 (some .int) 3 := ⟨kwk_X6_sheet, kwi_X6_sheet, kwv_X6_sheet, kwn_X6, by decide, by decide +kernel⟩
abbrev rmX6_sheet : Room := { frames := 3, cells := 0, slots := 0, locals := 113 }
abbrev YX6_sheet : k_Y := (rmX6_sheet, cX6_sheet, 4, RX6, (some .int))
noncomputable def fX6_sheet (σ : k_S) (x1 x2 x3 : Int32) : Option (Int32 × k_S) := k_bn (k_sf σ 1 ((nI 0))) fun σ1 => k_ob (fX6_isSheet σ1 x1) fun r2 σ3 => (if r2 = 0 then some ((k_ng 1), σ3) else k_ob (fX6_isSort σ3 x2) fun r4 σ5 => (if r4 = 0 then some ((k_ng 2), σ5) else (if (nI 60) < x3 then some ((k_ng 2), σ5) else (if x3 < 0 then k_ob (fX6_faulty σ5 ((nI 4))) fun r8 σ9 => some (r8, σ9) else k_ob (fX2_makeRow σ5 x1 x2 x3) fun r6 σ7 => some ((nI 1), σ7)))))
set_option maxRecDepth 100000 in
set_option maxHeartbeats 4000000 in
theorem kX6_sheet {D : va_G} {cI : ClassId} {q : Nat → Nat} {σ : k_S} {x1 x2 x3 : Int32} {r : Int32} {τ : k_S} (h : fX6_sheet σ x1 x2 x3 = some (r, τ)) : k_Ct k_ei yX6_sheet cX6_sheet 4 (some .int) rmX6_sheet (cT cI q) D cI [.ref (q 0), .int x1, .int x2, .int x3] σ r τ := by
  refine k_met (Y := YX6_sheet) (cT_same _ _) (by decide) rfl (Nat.le_of_ble_eq_true rfl) (List.forall_mem_cons.mpr ⟨rfl, List.forall_mem_cons.mpr ⟨rfl, List.forall_mem_cons.mpr ⟨rfl, List.forall_mem_cons.mpr ⟨rfl, fun _ h => absurd h List.not_mem_nil⟩⟩⟩⟩) (fun X hD hI => ?_) h
  subst hD hI
  show KO X YX6_sheet (cT (k_I X) q) 0 0 (k_Q k_ei X (cT (k_I X) q)) 0 [some (.ref (q 0)), some (.int x1), some (.int x2), some (.int x3)] [] σ _
  unfold fX6_sheet
  refine k_aload_n (pc := 0) dX6_sheet_0 rfl ?_
  refine k_iconst (pc := 1) (v := (nI 0)) dX6_sheet_1 (by decide) ?_
  refine k_pTX6_fault (pc := 2) kwf_X6_61 rfl dX6_sheet_2 (fun σ1 => ?_)
  refine k_iload_n (pc := 5) dX6_sheet_5 rfl ?_
  refine k_si1 (pc := 6) (cT_same _ _) ckX6_isSheet kwm_X6_65 ⟨rfl, rfl⟩ ⟨Nat.le_of_ble_eq_true rfl, Nat.le_of_ble_eq_true rfl⟩ ⟨Nat.zero_le _, Nat.zero_le _⟩ (Nat.le_of_ble_eq_true rfl) dX6_sheet_6 (fun _ _ hf => kX6_isSheet hf) (fun r2 σ3 => ?_)
  refine k_if_ne (pc := 9) 14 dX6_sheet_9 (by decide) ?_ ?_
  · refine k_iload_n (pc := 14) dX6_sheet_14 rfl ?_
    refine k_si1 (pc := 15) (cT_same _ _) ckX6_isSort kwm_X6_69 ⟨rfl, rfl⟩ ⟨Nat.le_of_ble_eq_true rfl, Nat.le_of_ble_eq_true rfl⟩ ⟨Nat.zero_le _, Nat.zero_le _⟩ (Nat.le_of_ble_eq_true rfl) dX6_sheet_15 (fun _ _ hf => kX6_isSort hf) (fun r4 σ5 => ?_)
    refine k_if_eq (pc := 18) 27 dX6_sheet_18 (by decide) ?_ ?_
    · refine k_bipush (pc := 27) (v := (k_ng 2)) dX6_sheet_27 (by decide) ?_
      exact k_ireturn (pc := 29) rfl dX6_sheet_29
    · refine k_iload_n (pc := 21) dX6_sheet_21 rfl ?_
      refine k_bipush (pc := 22) (v := (nI 60)) dX6_sheet_22 (by decide) ?_
      refine k_icmp_le (pc := 24) 30 dX6_sheet_24 (by decide) ?_ ?_
      · refine k_iload_n (pc := 30) dX6_sheet_30 rfl ?_
        refine k_if_ge (pc := 31) 40 dX6_sheet_31 (by decide) ?_ ?_
        · refine k_aload_n (pc := 40) dX6_sheet_40 rfl ?_
          refine k_gTX6_sheets (pc := 41) kwf_X6_12 rfl dX6_sheet_41 ?_
          refine k_iload_n (pc := 44) dX6_sheet_44 rfl ?_
          refine k_iload_n (pc := 45) dX6_sheet_45 rfl ?_
          refine k_iload_n (pc := 46) dX6_sheet_46 rfl ?_
          refine k_vv3 (pc := 47) (cT_same _ _) ckX2_makeRow kwm_X6_218 cT_rv1 ⟨rfl, rfl⟩ ⟨Nat.le_of_ble_eq_true rfl, Nat.le_of_ble_eq_true rfl⟩ ⟨Nat.zero_le _, Nat.zero_le _⟩ (Nat.le_of_ble_eq_true rfl) dX6_sheet_47 (fun _ _ hf => kX2_makeRow hf) (fun r6 σ7 => ?_)
          refine k_iconst (pc := 50) (v := (nI 1)) dX6_sheet_50 (by decide) ?_
          exact k_ireturn (pc := 51) rfl dX6_sheet_51
        · refine k_aload_n (pc := 34) dX6_sheet_34 rfl ?_
          refine k_iconst (pc := 35) (v := (nI 4)) dX6_sheet_35 (by decide) ?_
          refine k_vi1 (pc := 36) (cT_same _ _) ckX6_faulty kwm_X6_76 cT_rv0 ⟨rfl, rfl⟩ ⟨Nat.le_of_ble_eq_true rfl, Nat.le_of_ble_eq_true rfl⟩ ⟨Nat.zero_le _, Nat.zero_le _⟩ (Nat.le_of_ble_eq_true rfl) dX6_sheet_36 (fun _ _ hf => kX6_faulty hf) (fun r8 σ9 => ?_)
          exact k_ireturn (pc := 39) rfl dX6_sheet_39
      · refine k_bipush (pc := 27) (v := (k_ng 2)) dX6_sheet_27 (by decide) ?_
        exact k_ireturn (pc := 29) rfl dX6_sheet_29
  · refine k_iconst (pc := 12) (v := (k_ng 1)) dX6_sheet_12 (by decide) ?_
    exact k_ireturn (pc := 13) rfl dX6_sheet_13
-- TallTales$Sheets.dropRow(I)Z
theorem ckX2_dropRow : k_Vok yX2_dropRow cX2_dropRow 3 (some .boolean) 1 := ⟨kwk_X2_dropRow, kwi_X2_dropRow, kwv_X2_dropRow, kwn_X2, by decide, by decide +kernel⟩
abbrev rmX2_dropRow : Room := { frames := 1, cells := 0, slots := 0, locals := 21 }
abbrev YX2_dropRow : k_Y := (rmX2_dropRow, cX2_dropRow, 3, RX2, (some .boolean))
noncomputable def fX2_dropRow (σ : k_S) (x1 : Int32) : Option (Int32 × k_S) := k_ob (fX2_hasRow σ x1) fun r1 σ2 => k_bn (r1) fun v3 => k_gd (x1) 4 (k_bn (k_sa σ2 3 (x1) ((k_ng 9))) fun σ4 => k_z (v3) (some (v3, σ4)))
set_option maxRecDepth 100000 in
set_option maxHeartbeats 4000000 in
theorem kX2_dropRow {D : va_G} {cI : ClassId} {q : Nat → Nat} {σ : k_S} {x1 : Int32} {r : Int32} {τ : k_S} (h : fX2_dropRow σ x1 = some (r, τ)) : k_Ct k_ei yX2_dropRow cX2_dropRow 3 (some .boolean) rmX2_dropRow (cT cI q) D cI [.ref (q 1), .int x1] σ r τ := by
  refine k_met (Y := YX2_dropRow) (cT_same _ _) (by decide) rfl (Nat.le_of_ble_eq_true rfl) (List.forall_mem_cons.mpr ⟨rfl, List.forall_mem_cons.mpr ⟨rfl, fun _ h => absurd h List.not_mem_nil⟩⟩) (fun X hD hI => ?_) h
  subst hD hI
  show KO X YX2_dropRow (cT (k_I X) q) 0 0 (k_Q k_ei X (cT (k_I X) q)) 0 [some (.ref (q 1)), some (.int x1), none] [] σ _
  unfold fX2_dropRow
  refine k_aload_n (pc := 0) dX2_dropRow_0 rfl ?_
  refine k_iload_n (pc := 1) dX2_dropRow_1 rfl ?_
  refine k_vi1 (pc := 2) (cT_same _ _) ckX2_hasRow kwm_X2_27 cT_rv1 ⟨rfl, rfl⟩ ⟨Nat.le_of_ble_eq_true rfl, Nat.le_of_ble_eq_true rfl⟩ ⟨Nat.zero_le _, Nat.zero_le _⟩ (Nat.le_of_ble_eq_true rfl) dX2_dropRow_2 (fun _ _ hf => kX2_hasRow hf) (fun r1 σ2 => ?_)
  refine k_ist2 (pc := 5) dX2_dropRow_5 (Nat.le_of_ble_eq_true rfl) (fun v3 => ?_)
  refine k_aload_n (pc := 6) dX2_dropRow_6 rfl ?_
  refine k_gTX2_lengths (pc := 7) kwf_X2_18 rfl dX2_dropRow_7 ?_
  refine k_iload_n (pc := 10) dX2_dropRow_10 rfl ?_
  refine k_bipush (pc := 11) (v := (k_ng 9)) dX2_dropRow_11 (by decide) ?_
  refine k_sT10 (pc := 13) dX2_dropRow_13 (fun σ4 => ?_)
  refine k_iload_n (pc := 14) dX2_dropRow_14 rfl ?_
  exact k_zreturn (pc := 15) rfl dX2_dropRow_15
-- TallTales.lose(I)I
theorem ckX6_lose : k_Vok yX6_lose cX6_lose 2 (some .int) 1 := ⟨kwk_X6_lose, kwi_X6_lose, kwv_X6_lose, kwn_X6, by decide, by decide +kernel⟩
abbrev rmX6_lose : Room := { frames := 2, cells := 0, slots := 0, locals := 43 }
abbrev YX6_lose : k_Y := (rmX6_lose, cX6_lose, 2, RX6, (some .int))
noncomputable def fX6_lose (σ : k_S) (x1 : Int32) : Option (Int32 × k_S) := k_ob (fX6_isSheet σ x1) fun r1 σ2 => (if r1 = 0 then some ((k_ng 1), σ2) else k_ob (fX2_dropRow σ2 x1) fun r3 σ4 => (if r3 = 0 then some ((nI 0), σ4) else some ((nI 1), σ4)))
set_option maxRecDepth 100000 in
set_option maxHeartbeats 4000000 in
theorem kX6_lose {D : va_G} {cI : ClassId} {q : Nat → Nat} {σ : k_S} {x1 : Int32} {r : Int32} {τ : k_S} (h : fX6_lose σ x1 = some (r, τ)) : k_Ct k_ei yX6_lose cX6_lose 2 (some .int) rmX6_lose (cT cI q) D cI [.ref (q 0), .int x1] σ r τ := by
  refine k_met (Y := YX6_lose) (cT_same _ _) (by decide) rfl (Nat.le_of_ble_eq_true rfl) (List.forall_mem_cons.mpr ⟨rfl, List.forall_mem_cons.mpr ⟨rfl, fun _ h => absurd h List.not_mem_nil⟩⟩) (fun X hD hI => ?_) h
  subst hD hI
  show KO X YX6_lose (cT (k_I X) q) 0 0 (k_Q k_ei X (cT (k_I X) q)) 0 [some (.ref (q 0)), some (.int x1)] [] σ _
  unfold fX6_lose
  refine k_iload_n (pc := 0) dX6_lose_0 rfl ?_
  refine k_si1 (pc := 1) (cT_same _ _) ckX6_isSheet kwm_X6_65 ⟨rfl, rfl⟩ ⟨Nat.le_of_ble_eq_true rfl, Nat.le_of_ble_eq_true rfl⟩ ⟨Nat.zero_le _, Nat.zero_le _⟩ (Nat.le_of_ble_eq_true rfl) dX6_lose_1 (fun _ _ hf => kX6_isSheet hf) (fun r1 σ2 => ?_)
  refine k_if_ne (pc := 4) 9 dX6_lose_4 (by decide) ?_ ?_
  · refine k_aload_n (pc := 9) dX6_lose_9 rfl ?_
    refine k_gTX6_sheets (pc := 10) kwf_X6_12 rfl dX6_lose_10 ?_
    refine k_iload_n (pc := 13) dX6_lose_13 rfl ?_
    refine k_vi1 (pc := 14) (cT_same _ _) ckX2_dropRow kwm_X6_222 cT_rv1 ⟨rfl, rfl⟩ ⟨Nat.le_of_ble_eq_true rfl, Nat.le_of_ble_eq_true rfl⟩ ⟨Nat.zero_le _, Nat.zero_le _⟩ (Nat.le_of_ble_eq_true rfl) dX6_lose_14 (fun _ _ hf => kX2_dropRow hf) (fun r3 σ4 => ?_)
    refine k_if_eq (pc := 17) 24 dX6_lose_17 (by decide) ?_ ?_
    · refine k_iconst (pc := 24) (v := (nI 0)) dX6_lose_24 (by decide) ?_
      exact k_ireturn (pc := 25) rfl dX6_lose_25
    · refine k_iconst (pc := 20) (v := (nI 1)) dX6_lose_20 (by decide) ?_
      refine k_goto (pc := 21) 25 dX6_lose_21 (by decide) ?_
      exact k_ireturn (pc := 25) rfl dX6_lose_25
  · refine k_iconst (pc := 7) (v := (k_ng 1)) dX6_lose_7 (by decide) ?_
    exact k_ireturn (pc := 8) rfl dX6_lose_8
-- TallTales$Sheets.write(III)V
theorem ckX2_write : k_Vok yX2_write cX2_write 5 none 3 := ⟨kwk_X2_write, kwi_X2_write, kwv_X2_write, kwn_X2, by decide, by decide +kernel⟩
abbrev rmX2_write : Room := { frames := 0, cells := 0, slots := 0, locals := 0 }
abbrev YX2_write : k_Y := (rmX2_write, cX2_write, 5, RX2, none)
noncomputable def fX2_write_c30 (σ : k_S) (l1 l2 l4 : Int32) : Option (Unit × k_S) := k_gd (((l1 * (nI 60)) + l2)) 240 (k_bn (k_sa σ 1 (((l1 * (nI 60)) + l2)) (l4)) fun σ1 => some ((), σ1))
set_option maxRecDepth 100000 in
set_option maxHeartbeats 4000000 in
theorem kX2_write_c30 {X : k_C} {q : Nat → Nat} (σ : k_S) (l1 l2 l4 : Int32) : KO X YX2_write (cT (k_I X) q) 0 0 (k_Q k_ev X (cT (k_I X) q)) 30 [some (.ref (q 1)), some (.int l1), some (.int l2), none, some (.int l4)] [] σ (fX2_write_c30 σ l1 l2 l4) := by
  unfold fX2_write_c30
  refine k_aload_n (pc := 30) dX2_write_30 rfl ?_
  refine k_gTX2_cells (pc := 31) kwf_X2_9 rfl dX2_write_31 ?_
  refine k_iload_n (pc := 34) dX2_write_34 rfl ?_
  refine k_bipush (pc := 35) (v := (nI 60)) dX2_write_35 (by decide) ?_
  refine k_imul (pc := 37) dX2_write_37 ?_
  refine k_iload_n (pc := 38) dX2_write_38 rfl ?_
  refine k_iadd (pc := 39) dX2_write_39 ?_
  refine k_iload (pc := 40) dX2_write_40 rfl ?_
  refine k_sT8 (pc := 42) dX2_write_42 (fun σ1 => ?_)
  exact k_return (pc := 43) rfl dX2_write_43
noncomputable def fX2_write_c16 (σ : k_S) (l1 l2 l3 l4 : Int32) : Option (Unit × k_S) := k_gd (l1) 4 ((if σ.2 2 (Int32.toNatClampNeg (l1)) = (nI 1) then k_bn ((l3).toInt16.toInt32) fun v1 => fX2_write_c30 σ l1 l2 v1 else fX2_write_c30 σ l1 l2 l4))
set_option maxRecDepth 100000 in
set_option maxHeartbeats 4000000 in
theorem kX2_write_c16 {X : k_C} {q : Nat → Nat} (σ : k_S) (l1 l2 l3 l4 : Int32) : KO X YX2_write (cT (k_I X) q) 0 0 (k_Q k_ev X (cT (k_I X) q)) 16 [some (.ref (q 1)), some (.int l1), some (.int l2), some (.int l3), some (.int l4)] [] σ (fX2_write_c16 σ l1 l2 l3 l4) := by
  unfold fX2_write_c16
  refine k_aload_n (pc := 16) dX2_write_16 rfl ?_
  refine k_gTX2_sorts (pc := 17) kwf_X2_15 rfl dX2_write_17 ?_
  refine k_iload_n (pc := 20) dX2_write_20 rfl ?_
  refine k_lT9 (pc := 21) dX2_write_21 ?_
  refine k_iconst (pc := 22) (v := (nI 1)) dX2_write_22 (by decide) ?_
  refine k_icmp_ne (pc := 23) 30 dX2_write_23 (by decide) ?_ ?_
  · refine k_fg3 ?_
    exact kX2_write_c30 σ l1 l2 l4
  · refine k_iload_n (pc := 26) dX2_write_26 rfl ?_
    refine k_i2s (pc := 27) dX2_write_27 ?_
    refine k_ist4 (pc := 28) dX2_write_28 (Nat.le_of_ble_eq_true rfl) (fun v1 => ?_)
    refine k_fg3 ?_
    exact kX2_write_c30 σ l1 l2 v1
noncomputable def fX2_write (σ : k_S) (x1 x2 x3 : Int32) : Option (Unit × k_S) := k_bn (x3) fun v1 => k_gd (x1) 4 ((if σ.2 2 (Int32.toNatClampNeg (x1)) = 0 then k_bn ((x3).toInt8.toInt32) fun v2 => fX2_write_c16 σ x1 x2 x3 v2 else fX2_write_c16 σ x1 x2 x3 v1))
set_option maxRecDepth 100000 in
set_option maxHeartbeats 4000000 in
theorem kX2_write {D : va_G} {cI : ClassId} {q : Nat → Nat} {σ : k_S} {x1 x2 x3 : Int32} {r : Unit} {τ : k_S} (h : fX2_write σ x1 x2 x3 = some (r, τ)) : k_Ct k_ev yX2_write cX2_write 5 none rmX2_write (cT cI q) D cI [.ref (q 1), .int x1, .int x2, .int x3] σ r τ := by
  refine k_met (Y := YX2_write) (cT_same _ _) (by decide) rfl (Nat.le_of_ble_eq_true rfl) (List.forall_mem_cons.mpr ⟨rfl, List.forall_mem_cons.mpr ⟨rfl, List.forall_mem_cons.mpr ⟨rfl, List.forall_mem_cons.mpr ⟨rfl, fun _ h => absurd h List.not_mem_nil⟩⟩⟩⟩) (fun X hD hI => ?_) h
  subst hD hI
  show KO X YX2_write (cT (k_I X) q) 0 0 (k_Q k_ev X (cT (k_I X) q)) 0 [some (.ref (q 1)), some (.int x1), some (.int x2), some (.int x3), none] [] σ _
  unfold fX2_write
  refine k_iload_n (pc := 0) dX2_write_0 rfl ?_
  refine k_ist4 (pc := 1) dX2_write_1 (Nat.le_of_ble_eq_true rfl) (fun v1 => ?_)
  refine k_aload_n (pc := 3) dX2_write_3 rfl ?_
  refine k_gTX2_sorts (pc := 4) kwf_X2_15 rfl dX2_write_4 ?_
  refine k_iload_n (pc := 7) dX2_write_7 rfl ?_
  refine k_lT9 (pc := 8) dX2_write_8 ?_
  refine k_if_ne (pc := 9) 16 dX2_write_9 (by decide) ?_ ?_
  · exact kX2_write_c16 σ x1 x2 x3 v1
  · refine k_iload_n (pc := 12) dX2_write_12 rfl ?_
    refine k_i2b (pc := 13) dX2_write_13 ?_
    refine k_ist4 (pc := 14) dX2_write_14 (Nat.le_of_ble_eq_true rfl) (fun v2 => ?_)
    exact kX2_write_c16 σ x1 x2 x3 v2
-- TallTales.put(III)I
theorem ckX6_put : k_Vok yX6_put cX6_put 4 (some .int) 3 := ⟨kwk_X6_put, kwi_X6_put, kwv_X6_put, kwn_X6, by decide, by decide +kernel⟩
abbrev rmX6_put : Room := { frames := 1, cells := 0, slots := 0, locals := 24 }
abbrev YX6_put : k_Y := (rmX6_put, cX6_put, 4, RX6, (some .int))
noncomputable def fX6_put (σ : k_S) (x1 x2 x3 : Int32) : Option (Int32 × k_S) := k_bn (k_sf σ 1 ((nI 0))) fun σ1 => k_ob (fX6_isSheet σ1 x1) fun r2 σ3 => (if r2 = 0 then some ((k_ng 1), σ3) else k_ob (fX2_hasRow σ3 x1) fun r4 σ5 => (if r4 = 0 then k_ob (fX6_faulty σ5 ((nI 1))) fun r12 σ13 => some (r12, σ13) else k_ob (fX2_hasCells σ5 x1 x2 ((nI 1))) fun r6 σ7 => (if r6 = 0 then k_ob (fX6_faulty σ7 ((nI 3))) fun r10 σ11 => some (r10, σ11) else k_ob (fX2_write σ7 x1 x2 x3) fun r8 σ9 => some ((nI 1), σ9))))
set_option maxRecDepth 100000 in
set_option maxHeartbeats 4000000 in
theorem kX6_put {D : va_G} {cI : ClassId} {q : Nat → Nat} {σ : k_S} {x1 x2 x3 : Int32} {r : Int32} {τ : k_S} (h : fX6_put σ x1 x2 x3 = some (r, τ)) : k_Ct k_ei yX6_put cX6_put 4 (some .int) rmX6_put (cT cI q) D cI [.ref (q 0), .int x1, .int x2, .int x3] σ r τ := by
  refine k_met (Y := YX6_put) (cT_same _ _) (by decide) rfl (Nat.le_of_ble_eq_true rfl) (List.forall_mem_cons.mpr ⟨rfl, List.forall_mem_cons.mpr ⟨rfl, List.forall_mem_cons.mpr ⟨rfl, List.forall_mem_cons.mpr ⟨rfl, fun _ h => absurd h List.not_mem_nil⟩⟩⟩⟩) (fun X hD hI => ?_) h
  subst hD hI
  show KO X YX6_put (cT (k_I X) q) 0 0 (k_Q k_ei X (cT (k_I X) q)) 0 [some (.ref (q 0)), some (.int x1), some (.int x2), some (.int x3)] [] σ _
  unfold fX6_put
  refine k_aload_n (pc := 0) dX6_put_0 rfl ?_
  refine k_iconst (pc := 1) (v := (nI 0)) dX6_put_1 (by decide) ?_
  refine k_pTX6_fault (pc := 2) kwf_X6_61 rfl dX6_put_2 (fun σ1 => ?_)
  refine k_iload_n (pc := 5) dX6_put_5 rfl ?_
  refine k_si1 (pc := 6) (cT_same _ _) ckX6_isSheet kwm_X6_65 ⟨rfl, rfl⟩ ⟨Nat.le_of_ble_eq_true rfl, Nat.le_of_ble_eq_true rfl⟩ ⟨Nat.zero_le _, Nat.zero_le _⟩ (Nat.le_of_ble_eq_true rfl) dX6_put_6 (fun _ _ hf => kX6_isSheet hf) (fun r2 σ3 => ?_)
  refine k_if_ne (pc := 9) 14 dX6_put_9 (by decide) ?_ ?_
  · refine k_aload_n (pc := 14) dX6_put_14 rfl ?_
    refine k_gTX6_sheets (pc := 15) kwf_X6_12 rfl dX6_put_15 ?_
    refine k_iload_n (pc := 18) dX6_put_18 rfl ?_
    refine k_vi1 (pc := 19) (cT_same _ _) ckX2_hasRow kwm_X6_225 cT_rv1 ⟨rfl, rfl⟩ ⟨Nat.le_of_ble_eq_true rfl, Nat.le_of_ble_eq_true rfl⟩ ⟨Nat.zero_le _, Nat.zero_le _⟩ (Nat.le_of_ble_eq_true rfl) dX6_put_19 (fun _ _ hf => kX2_hasRow hf) (fun r4 σ5 => ?_)
    refine k_if_ne (pc := 22) 31 dX6_put_22 (by decide) ?_ ?_
    · refine k_aload_n (pc := 31) dX6_put_31 rfl ?_
      refine k_gTX6_sheets (pc := 32) kwf_X6_12 rfl dX6_put_32 ?_
      refine k_iload_n (pc := 35) dX6_put_35 rfl ?_
      refine k_iload_n (pc := 36) dX6_put_36 rfl ?_
      refine k_iconst (pc := 37) (v := (nI 1)) dX6_put_37 (by decide) ?_
      refine k_vi3 (pc := 38) (cT_same _ _) ckX2_hasCells kwm_X6_228 cT_rv1 ⟨rfl, rfl⟩ ⟨Nat.le_of_ble_eq_true rfl, Nat.le_of_ble_eq_true rfl⟩ ⟨Nat.zero_le _, Nat.zero_le _⟩ (Nat.le_of_ble_eq_true rfl) dX6_put_38 (fun _ _ hf => kX2_hasCells hf) (fun r6 σ7 => ?_)
      refine k_if_ne (pc := 41) 50 dX6_put_41 (by decide) ?_ ?_
      · refine k_aload_n (pc := 50) dX6_put_50 rfl ?_
        refine k_gTX6_sheets (pc := 51) kwf_X6_12 rfl dX6_put_51 ?_
        refine k_iload_n (pc := 54) dX6_put_54 rfl ?_
        refine k_iload_n (pc := 55) dX6_put_55 rfl ?_
        refine k_iload_n (pc := 56) dX6_put_56 rfl ?_
        refine k_vv3 (pc := 57) (cT_same _ _) ckX2_write kwm_X6_232 cT_rv1 ⟨rfl, rfl⟩ ⟨Nat.le_of_ble_eq_true rfl, Nat.le_of_ble_eq_true rfl⟩ ⟨Nat.zero_le _, Nat.zero_le _⟩ (Nat.le_of_ble_eq_true rfl) dX6_put_57 (fun _ _ hf => kX2_write hf) (fun r8 σ9 => ?_)
        refine k_iconst (pc := 60) (v := (nI 1)) dX6_put_60 (by decide) ?_
        exact k_ireturn (pc := 61) rfl dX6_put_61
      · refine k_aload_n (pc := 44) dX6_put_44 rfl ?_
        refine k_iconst (pc := 45) (v := (nI 3)) dX6_put_45 (by decide) ?_
        refine k_vi1 (pc := 46) (cT_same _ _) ckX6_faulty kwm_X6_76 cT_rv0 ⟨rfl, rfl⟩ ⟨Nat.le_of_ble_eq_true rfl, Nat.le_of_ble_eq_true rfl⟩ ⟨Nat.zero_le _, Nat.zero_le _⟩ (Nat.le_of_ble_eq_true rfl) dX6_put_46 (fun _ _ hf => kX6_faulty hf) (fun r10 σ11 => ?_)
        exact k_ireturn (pc := 49) rfl dX6_put_49
    · refine k_aload_n (pc := 25) dX6_put_25 rfl ?_
      refine k_iconst (pc := 26) (v := (nI 1)) dX6_put_26 (by decide) ?_
      refine k_vi1 (pc := 27) (cT_same _ _) ckX6_faulty kwm_X6_76 cT_rv0 ⟨rfl, rfl⟩ ⟨Nat.le_of_ble_eq_true rfl, Nat.le_of_ble_eq_true rfl⟩ ⟨Nat.zero_le _, Nat.zero_le _⟩ (Nat.le_of_ble_eq_true rfl) dX6_put_27 (fun _ _ hf => kX6_faulty hf) (fun r12 σ13 => ?_)
      exact k_ireturn (pc := 30) rfl dX6_put_30
  · refine k_iconst (pc := 12) (v := (k_ng 1)) dX6_put_12 (by decide) ?_
    exact k_ireturn (pc := 13) rfl dX6_put_13
-- TallTales$Sheets.read(II)I
theorem ckX2_read : k_Vok yX2_read cX2_read 3 (some .int) 2 := ⟨kwk_X2_read, kwi_X2_read, kwv_X2_read, kwn_X2, by decide, by decide +kernel⟩
abbrev rmX2_read : Room := { frames := 0, cells := 0, slots := 0, locals := 0 }
abbrev YX2_read : k_Y := (rmX2_read, cX2_read, 3, RX2, (some .int))
noncomputable def fX2_read (σ : k_S) (x1 x2 : Int32) : Option (Int32 × k_S) := k_gd (((x1 * (nI 60)) + x2)) 240 (some (σ.2 1 (Int32.toNatClampNeg (((x1 * (nI 60)) + x2))), σ))
set_option maxRecDepth 100000 in
set_option maxHeartbeats 4000000 in
theorem kX2_read {D : va_G} {cI : ClassId} {q : Nat → Nat} {σ : k_S} {x1 x2 : Int32} {r : Int32} {τ : k_S} (h : fX2_read σ x1 x2 = some (r, τ)) : k_Ct k_ei yX2_read cX2_read 3 (some .int) rmX2_read (cT cI q) D cI [.ref (q 1), .int x1, .int x2] σ r τ := by
  refine k_met (Y := YX2_read) (cT_same _ _) (by decide) rfl (Nat.le_of_ble_eq_true rfl) (List.forall_mem_cons.mpr ⟨rfl, List.forall_mem_cons.mpr ⟨rfl, List.forall_mem_cons.mpr ⟨rfl, fun _ h => absurd h List.not_mem_nil⟩⟩⟩) (fun X hD hI => ?_) h
  subst hD hI
  show KO X YX2_read (cT (k_I X) q) 0 0 (k_Q k_ei X (cT (k_I X) q)) 0 [some (.ref (q 1)), some (.int x1), some (.int x2)] [] σ _
  unfold fX2_read
  refine k_aload_n (pc := 0) dX2_read_0 rfl ?_
  refine k_gTX2_cells (pc := 1) kwf_X2_9 rfl dX2_read_1 ?_
  refine k_iload_n (pc := 4) dX2_read_4 rfl ?_
  refine k_bipush (pc := 5) (v := (nI 60)) dX2_read_5 (by decide) ?_
  refine k_imul (pc := 7) dX2_read_7 ?_
  refine k_iload_n (pc := 8) dX2_read_8 rfl ?_
  refine k_iadd (pc := 9) dX2_read_9 ?_
  refine k_lT8 (pc := 10) dX2_read_10 ?_
  exact k_ireturn (pc := 11) rfl dX2_read_11
-- TallTales.cell(III)J
theorem ckX6_cell : k_Vok yX6_cell cX6_cell 5 (some .long) 3 := ⟨kwk_X6_cell, kwi_X6_cell, kwv_X6_cell, kwn_X6, by decide, by decide +kernel⟩
abbrev rmX6_cell : Room := { frames := 2, cells := 0, slots := 0, locals := 47 }
abbrev YX6_cell : k_Y := (rmX6_cell, cX6_cell, 5, RX6, (some .long))
noncomputable def fX6_cell (σ : k_S) (x1 x2 x3 : Int32) : Option (Int64 × k_S) := k_bn (k_sf σ 1 ((nI 0))) fun σ1 => k_ob (fX6_isSheet σ1 x1) fun r2 σ3 => (if r2 = 0 then some ((-9223372036854775808 : Int64), σ3) else k_ob (fX6_isSort σ3 x3) fun r4 σ5 => (if r4 = 0 then some ((-9223372036854775808 : Int64), σ5) else k_ob (fX2_faultOf σ5 x1 x3 x2 ((nI 1))) fun r6 σ7 => k_bn (r6) fun v8 => (if v8 = 0 then k_ob (fX2_read σ7 x1 x2) fun r9 σ10 => some ((r9).toInt64, σ10) else k_bn (k_sf σ7 1 (v8)) fun σ11 => some ((-9223372036854775808 : Int64), σ11))))
set_option maxRecDepth 100000 in
set_option maxHeartbeats 4000000 in
theorem kX6_cell {D : va_G} {cI : ClassId} {q : Nat → Nat} {σ : k_S} {x1 x2 x3 : Int32} {r : Int64} {τ : k_S} (h : fX6_cell σ x1 x2 x3 = some (r, τ)) : k_Ct k_el yX6_cell cX6_cell 5 (some .long) rmX6_cell (cT cI q) D cI [.ref (q 0), .int x1, .int x2, .int x3] σ r τ := by
  refine k_met (Y := YX6_cell) (cT_same _ _) (by decide) rfl (Nat.le_of_ble_eq_true rfl) (List.forall_mem_cons.mpr ⟨rfl, List.forall_mem_cons.mpr ⟨rfl, List.forall_mem_cons.mpr ⟨rfl, List.forall_mem_cons.mpr ⟨rfl, fun _ h => absurd h List.not_mem_nil⟩⟩⟩⟩) (fun X hD hI => ?_) h
  subst hD hI
  show KO X YX6_cell (cT (k_I X) q) 0 0 (k_Q k_el X (cT (k_I X) q)) 0 [some (.ref (q 0)), some (.int x1), some (.int x2), some (.int x3), none] [] σ _
  unfold fX6_cell
  refine k_aload_n (pc := 0) dX6_cell_0 rfl ?_
  refine k_iconst (pc := 1) (v := (nI 0)) dX6_cell_1 (by decide) ?_
  refine k_pTX6_fault (pc := 2) kwf_X6_61 rfl dX6_cell_2 (fun σ1 => ?_)
  refine k_iload_n (pc := 5) dX6_cell_5 rfl ?_
  refine k_si1 (pc := 6) (cT_same _ _) ckX6_isSheet kwm_X6_65 ⟨rfl, rfl⟩ ⟨Nat.le_of_ble_eq_true rfl, Nat.le_of_ble_eq_true rfl⟩ ⟨Nat.zero_le _, Nat.zero_le _⟩ (Nat.le_of_ble_eq_true rfl) dX6_cell_6 (fun _ _ hf => kX6_isSheet hf) (fun r2 σ3 => ?_)
  refine k_if_eq (pc := 9) 19 dX6_cell_9 (by decide) ?_ ?_
  · refine k_ldc2 (pc := 19) kwl_X6_235 dX6_cell_19 ?_
    exact k_lreturn (pc := 22) rfl dX6_cell_22
  · refine k_iload_n (pc := 12) dX6_cell_12 rfl ?_
    refine k_si1 (pc := 13) (cT_same _ _) ckX6_isSort kwm_X6_69 ⟨rfl, rfl⟩ ⟨Nat.le_of_ble_eq_true rfl, Nat.le_of_ble_eq_true rfl⟩ ⟨Nat.zero_le _, Nat.zero_le _⟩ (Nat.le_of_ble_eq_true rfl) dX6_cell_13 (fun _ _ hf => kX6_isSort hf) (fun r4 σ5 => ?_)
    refine k_if_ne (pc := 16) 23 dX6_cell_16 (by decide) ?_ ?_
    · refine k_aload_n (pc := 23) dX6_cell_23 rfl ?_
      refine k_gTX6_sheets (pc := 24) kwf_X6_12 rfl dX6_cell_24 ?_
      refine k_iload_n (pc := 27) dX6_cell_27 rfl ?_
      refine k_iload_n (pc := 28) dX6_cell_28 rfl ?_
      refine k_iload_n (pc := 29) dX6_cell_29 rfl ?_
      refine k_iconst (pc := 30) (v := (nI 1)) dX6_cell_30 (by decide) ?_
      refine k_vi4 (pc := 31) (cT_same _ _) ckX2_faultOf kwm_X6_72 cT_rv1 ⟨rfl, rfl⟩ ⟨Nat.le_of_ble_eq_true rfl, Nat.le_of_ble_eq_true rfl⟩ ⟨Nat.zero_le _, Nat.zero_le _⟩ (Nat.le_of_ble_eq_true rfl) dX6_cell_31 (fun _ _ hf => kX2_faultOf hf) (fun r6 σ7 => ?_)
      refine k_ist4 (pc := 34) dX6_cell_34 (Nat.le_of_ble_eq_true rfl) (fun v8 => ?_)
      refine k_iload (pc := 36) dX6_cell_36 rfl ?_
      refine k_if_eq (pc := 38) 51 dX6_cell_38 (by decide) ?_ ?_
      · refine k_aload_n (pc := 51) dX6_cell_51 rfl ?_
        refine k_gTX6_sheets (pc := 52) kwf_X6_12 rfl dX6_cell_52 ?_
        refine k_iload_n (pc := 55) dX6_cell_55 rfl ?_
        refine k_iload_n (pc := 56) dX6_cell_56 rfl ?_
        refine k_vi2 (pc := 57) (cT_same _ _) ckX2_read kwm_X6_237 cT_rv1 ⟨rfl, rfl⟩ ⟨Nat.le_of_ble_eq_true rfl, Nat.le_of_ble_eq_true rfl⟩ ⟨Nat.zero_le _, Nat.zero_le _⟩ (Nat.le_of_ble_eq_true rfl) dX6_cell_57 (fun _ _ hf => kX2_read hf) (fun r9 σ10 => ?_)
        refine k_i2l (pc := 60) dX6_cell_60 ?_
        exact k_lreturn (pc := 61) rfl dX6_cell_61
      · refine k_aload_n (pc := 41) dX6_cell_41 rfl ?_
        refine k_iload (pc := 42) dX6_cell_42 rfl ?_
        refine k_pTX6_fault (pc := 44) kwf_X6_61 rfl dX6_cell_44 (fun σ11 => ?_)
        refine k_ldc2 (pc := 47) kwl_X6_235 dX6_cell_47 ?_
        exact k_lreturn (pc := 50) rfl dX6_cell_50
    · refine k_ldc2 (pc := 19) kwl_X6_235 dX6_cell_19 ?_
      exact k_lreturn (pc := 22) rfl dX6_cell_22
-- TallTales$Sheets.move(IIIII)V
theorem ckX2_move : k_Vok yX2_move cX2_move 6 none 5 := ⟨kwk_X2_move, kwi_X2_move, kwv_X2_move, kwn_X2, by decide, by decide +kernel⟩
abbrev rmX2_move : Room := { frames := 1, cells := 0, slots := 0, locals := 48 }
abbrev YX2_move : k_Y := (rmX2_move, cX2_move, 6, RX2, none)
noncomputable def fX2_move (σ : k_S) (x1 x2 x3 x4 x5 : Int32) : Option (Unit × k_S) := k_gc (((x1 * (nI 60)) + x2)) (((x3 * (nI 60)) + x4)) (x5) 240 240 (k_bn (k_sc σ 1 1 (((x1 * (nI 60)) + x2)) (((x3 * (nI 60)) + x4)) (x5)) fun σ1 => some ((), σ1))
set_option maxRecDepth 100000 in
set_option maxHeartbeats 4000000 in
theorem kX2_move {D : va_G} {cI : ClassId} {q : Nat → Nat} {σ : k_S} {x1 x2 x3 x4 x5 : Int32} {r : Unit} {τ : k_S} (h : fX2_move σ x1 x2 x3 x4 x5 = some (r, τ)) : k_Ct k_ev yX2_move cX2_move 6 none rmX2_move (cT cI q) D cI [.ref (q 1), .int x1, .int x2, .int x3, .int x4, .int x5] σ r τ := by
  refine k_met (Y := YX2_move) (cT_same _ _) (by decide) rfl (Nat.le_of_ble_eq_true rfl) (List.forall_mem_cons.mpr ⟨rfl, List.forall_mem_cons.mpr ⟨rfl, List.forall_mem_cons.mpr ⟨rfl, List.forall_mem_cons.mpr ⟨rfl, List.forall_mem_cons.mpr ⟨rfl, List.forall_mem_cons.mpr ⟨rfl, fun _ h => absurd h List.not_mem_nil⟩⟩⟩⟩⟩⟩) (fun X hD hI => ?_) h
  subst hD hI
  show KO X YX2_move (cT (k_I X) q) 0 0 (k_Q k_ev X (cT (k_I X) q)) 0 [some (.ref (q 1)), some (.int x1), some (.int x2), some (.int x3), some (.int x4), some (.int x5)] [] σ _
  unfold fX2_move
  refine k_aload_n (pc := 0) dX2_move_0 rfl ?_
  refine k_gTX2_cells (pc := 1) kwf_X2_9 rfl dX2_move_1 ?_
  refine k_iload_n (pc := 4) dX2_move_4 rfl ?_
  refine k_bipush (pc := 5) (v := (nI 60)) dX2_move_5 (by decide) ?_
  refine k_imul (pc := 7) dX2_move_7 ?_
  refine k_iload_n (pc := 8) dX2_move_8 rfl ?_
  refine k_iadd (pc := 9) dX2_move_9 ?_
  refine k_aload_n (pc := 10) dX2_move_10 rfl ?_
  refine k_gTX2_cells (pc := 11) kwf_X2_9 rfl dX2_move_11 ?_
  refine k_iload_n (pc := 14) dX2_move_14 rfl ?_
  refine k_bipush (pc := 15) (v := (nI 60)) dX2_move_15 (by decide) ?_
  refine k_imul (pc := 17) dX2_move_17 ?_
  refine k_iload (pc := 18) dX2_move_18 rfl ?_
  refine k_iadd (pc := 20) dX2_move_20 ?_
  refine k_iload (pc := 21) dX2_move_21 rfl ?_
  refine k_cT_8_8 (pc := 23) kwm_X2_38 ⟨Nat.le_of_ble_eq_true rfl, Nat.le_of_ble_eq_true rfl⟩ dX2_move_23 (fun σ1 => ?_)
  exact k_return (pc := 26) rfl dX2_move_26
-- TallTales.copy(IIIII)I
theorem ckX6_copy : k_Vok yX6_copy cX6_copy 6 (some .int) 5 := ⟨kwk_X6_copy, kwi_X6_copy, kwv_X6_copy, kwn_X6, by decide, by decide +kernel⟩
abbrev rmX6_copy : Room := { frames := 2, cells := 0, slots := 0, locals := 73 }
abbrev YX6_copy : k_Y := (rmX6_copy, cX6_copy, 6, RX6, (some .int))
noncomputable def fX6_copy_c43 (σ : k_S) : Option (Int32 × k_S) := k_ob (fX6_faulty σ ((nI 1))) fun r1 σ2 => some (r1, σ2)
set_option maxRecDepth 100000 in
set_option maxHeartbeats 4000000 in
theorem kX6_copy_c43 {X : k_C} {q : Nat → Nat} (σ : k_S) : KO X YX6_copy (cT (k_I X) q) 0 0 (k_Q k_ei X (cT (k_I X) q)) 43 [some (.ref (q 0)), none, none, none, none, none] [] σ (fX6_copy_c43 σ) := by
  unfold fX6_copy_c43
  refine k_aload_n (pc := 43) dX6_copy_43 rfl ?_
  refine k_iconst (pc := 44) (v := (nI 1)) dX6_copy_44 (by decide) ?_
  refine k_vi1 (pc := 45) (cT_same _ _) ckX6_faulty kwm_X6_76 cT_rv0 ⟨rfl, rfl⟩ ⟨Nat.le_of_ble_eq_true rfl, Nat.le_of_ble_eq_true rfl⟩ ⟨Nat.zero_le _, Nat.zero_le _⟩ (Nat.le_of_ble_eq_true rfl) dX6_copy_45 (fun _ _ hf => kX6_faulty hf) (fun r1 σ2 => ?_)
  exact k_ireturn (pc := 48) rfl dX6_copy_48
noncomputable def fX6_copy_c105 (σ : k_S) : Option (Int32 × k_S) := k_ob (fX6_faulty σ ((nI 3))) fun r1 σ2 => some (r1, σ2)
set_option maxRecDepth 100000 in
set_option maxHeartbeats 4000000 in
theorem kX6_copy_c105 {X : k_C} {q : Nat → Nat} (σ : k_S) : KO X YX6_copy (cT (k_I X) q) 0 0 (k_Q k_ei X (cT (k_I X) q)) 105 [some (.ref (q 0)), none, none, none, none, none] [] σ (fX6_copy_c105 σ) := by
  unfold fX6_copy_c105
  refine k_aload_n (pc := 105) dX6_copy_105 rfl ?_
  refine k_iconst (pc := 106) (v := (nI 3)) dX6_copy_106 (by decide) ?_
  refine k_vi1 (pc := 107) (cT_same _ _) ckX6_faulty kwm_X6_76 cT_rv0 ⟨rfl, rfl⟩ ⟨Nat.le_of_ble_eq_true rfl, Nat.le_of_ble_eq_true rfl⟩ ⟨Nat.zero_le _, Nat.zero_le _⟩ (Nat.le_of_ble_eq_true rfl) dX6_copy_107 (fun _ _ hf => kX6_faulty hf) (fun r1 σ2 => ?_)
  exact k_ireturn (pc := 110) rfl dX6_copy_110
noncomputable def fX6_copy (σ : k_S) (x1 x2 x3 x4 x5 : Int32) : Option (Int32 × k_S) := k_bn (k_sf σ 1 ((nI 0))) fun σ1 => k_ob (fX6_isSheet σ1 x1) fun r2 σ3 => (if r2 = 0 then some ((k_ng 1), σ3) else k_ob (fX6_isSheet σ3 x3) fun r4 σ5 => (if r4 = 0 then some ((k_ng 1), σ5) else k_ob (fX2_hasRow σ5 x1) fun r6 σ7 => (if r6 = 0 then fX6_copy_c43 σ7 else k_ob (fX2_hasRow σ7 x3) fun r8 σ9 => (if r8 = 0 then fX6_copy_c43 σ9 else k_gd (x1) 4 (k_gd (x3) 4 ((if σ9.2 2 (Int32.toNatClampNeg (x1)) = σ9.2 2 (Int32.toNatClampNeg (x3)) then k_ob (fX2_hasCells σ9 x1 x2 x5) fun r10 σ11 => (if r10 = 0 then fX6_copy_c105 σ11 else k_ob (fX2_hasCells σ11 x3 x4 x5) fun r12 σ13 => (if r12 = 0 then fX6_copy_c105 σ13 else k_ob (fX2_move σ13 x1 x2 x3 x4 x5) fun r14 σ15 => some (x5, σ15))) else k_ob (fX6_faulty σ9 ((nI 2))) fun r16 σ17 => some (r16, σ17))))))))
set_option maxRecDepth 100000 in
set_option maxHeartbeats 4000000 in
theorem kX6_copy {D : va_G} {cI : ClassId} {q : Nat → Nat} {σ : k_S} {x1 x2 x3 x4 x5 : Int32} {r : Int32} {τ : k_S} (h : fX6_copy σ x1 x2 x3 x4 x5 = some (r, τ)) : k_Ct k_ei yX6_copy cX6_copy 6 (some .int) rmX6_copy (cT cI q) D cI [.ref (q 0), .int x1, .int x2, .int x3, .int x4, .int x5] σ r τ := by
  refine k_met (Y := YX6_copy) (cT_same _ _) (by decide) rfl (Nat.le_of_ble_eq_true rfl) (List.forall_mem_cons.mpr ⟨rfl, List.forall_mem_cons.mpr ⟨rfl, List.forall_mem_cons.mpr ⟨rfl, List.forall_mem_cons.mpr ⟨rfl, List.forall_mem_cons.mpr ⟨rfl, List.forall_mem_cons.mpr ⟨rfl, fun _ h => absurd h List.not_mem_nil⟩⟩⟩⟩⟩⟩) (fun X hD hI => ?_) h
  subst hD hI
  show KO X YX6_copy (cT (k_I X) q) 0 0 (k_Q k_ei X (cT (k_I X) q)) 0 [some (.ref (q 0)), some (.int x1), some (.int x2), some (.int x3), some (.int x4), some (.int x5)] [] σ _
  unfold fX6_copy
  refine k_aload_n (pc := 0) dX6_copy_0 rfl ?_
  refine k_iconst (pc := 1) (v := (nI 0)) dX6_copy_1 (by decide) ?_
  refine k_pTX6_fault (pc := 2) kwf_X6_61 rfl dX6_copy_2 (fun σ1 => ?_)
  refine k_iload_n (pc := 5) dX6_copy_5 rfl ?_
  refine k_si1 (pc := 6) (cT_same _ _) ckX6_isSheet kwm_X6_65 ⟨rfl, rfl⟩ ⟨Nat.le_of_ble_eq_true rfl, Nat.le_of_ble_eq_true rfl⟩ ⟨Nat.zero_le _, Nat.zero_le _⟩ (Nat.le_of_ble_eq_true rfl) dX6_copy_6 (fun _ _ hf => kX6_isSheet hf) (fun r2 σ3 => ?_)
  refine k_if_eq (pc := 9) 19 dX6_copy_9 (by decide) ?_ ?_
  · refine k_iconst (pc := 19) (v := (k_ng 1)) dX6_copy_19 (by decide) ?_
    exact k_ireturn (pc := 20) rfl dX6_copy_20
  · refine k_iload_n (pc := 12) dX6_copy_12 rfl ?_
    refine k_si1 (pc := 13) (cT_same _ _) ckX6_isSheet kwm_X6_65 ⟨rfl, rfl⟩ ⟨Nat.le_of_ble_eq_true rfl, Nat.le_of_ble_eq_true rfl⟩ ⟨Nat.zero_le _, Nat.zero_le _⟩ (Nat.le_of_ble_eq_true rfl) dX6_copy_13 (fun _ _ hf => kX6_isSheet hf) (fun r4 σ5 => ?_)
    refine k_if_ne (pc := 16) 21 dX6_copy_16 (by decide) ?_ ?_
    · refine k_aload_n (pc := 21) dX6_copy_21 rfl ?_
      refine k_gTX6_sheets (pc := 22) kwf_X6_12 rfl dX6_copy_22 ?_
      refine k_iload_n (pc := 25) dX6_copy_25 rfl ?_
      refine k_vi1 (pc := 26) (cT_same _ _) ckX2_hasRow kwm_X6_225 cT_rv1 ⟨rfl, rfl⟩ ⟨Nat.le_of_ble_eq_true rfl, Nat.le_of_ble_eq_true rfl⟩ ⟨Nat.zero_le _, Nat.zero_le _⟩ (Nat.le_of_ble_eq_true rfl) dX6_copy_26 (fun _ _ hf => kX2_hasRow hf) (fun r6 σ7 => ?_)
      refine k_if_eq (pc := 29) 43 dX6_copy_29 (by decide) ?_ ?_
      · refine k_fg1 ?_
        refine k_fg2 ?_
        refine k_fg3 ?_
        refine k_fg4 ?_
        refine k_fg5 ?_
        exact kX6_copy_c43 σ7
      · refine k_aload_n (pc := 32) dX6_copy_32 rfl ?_
        refine k_gTX6_sheets (pc := 33) kwf_X6_12 rfl dX6_copy_33 ?_
        refine k_iload_n (pc := 36) dX6_copy_36 rfl ?_
        refine k_vi1 (pc := 37) (cT_same _ _) ckX2_hasRow kwm_X6_225 cT_rv1 ⟨rfl, rfl⟩ ⟨Nat.le_of_ble_eq_true rfl, Nat.le_of_ble_eq_true rfl⟩ ⟨Nat.zero_le _, Nat.zero_le _⟩ (Nat.le_of_ble_eq_true rfl) dX6_copy_37 (fun _ _ hf => kX2_hasRow hf) (fun r8 σ9 => ?_)
        refine k_if_ne (pc := 40) 49 dX6_copy_40 (by decide) ?_ ?_
        · refine k_aload_n (pc := 49) dX6_copy_49 rfl ?_
          refine k_gTX6_sheets (pc := 50) kwf_X6_12 rfl dX6_copy_50 ?_
          refine k_gTX2_sorts (pc := 53) kwf_X6_240 rfl dX6_copy_53 ?_
          refine k_iload_n (pc := 56) dX6_copy_56 rfl ?_
          refine k_lT9 (pc := 57) dX6_copy_57 ?_
          refine k_aload_n (pc := 58) dX6_copy_58 rfl ?_
          refine k_gTX6_sheets (pc := 59) kwf_X6_12 rfl dX6_copy_59 ?_
          refine k_gTX2_sorts (pc := 62) kwf_X6_240 rfl dX6_copy_62 ?_
          refine k_iload_n (pc := 65) dX6_copy_65 rfl ?_
          refine k_lT9 (pc := 66) dX6_copy_66 ?_
          refine k_icmp_eq (pc := 67) 76 dX6_copy_67 (by decide) ?_ ?_
          · refine k_aload_n (pc := 76) dX6_copy_76 rfl ?_
            refine k_gTX6_sheets (pc := 77) kwf_X6_12 rfl dX6_copy_77 ?_
            refine k_iload_n (pc := 80) dX6_copy_80 rfl ?_
            refine k_iload_n (pc := 81) dX6_copy_81 rfl ?_
            refine k_iload (pc := 82) dX6_copy_82 rfl ?_
            refine k_vi3 (pc := 84) (cT_same _ _) ckX2_hasCells kwm_X6_228 cT_rv1 ⟨rfl, rfl⟩ ⟨Nat.le_of_ble_eq_true rfl, Nat.le_of_ble_eq_true rfl⟩ ⟨Nat.zero_le _, Nat.zero_le _⟩ (Nat.le_of_ble_eq_true rfl) dX6_copy_84 (fun _ _ hf => kX2_hasCells hf) (fun r10 σ11 => ?_)
            refine k_if_eq (pc := 87) 105 dX6_copy_87 (by decide) ?_ ?_
            · refine k_fg1 ?_
              refine k_fg2 ?_
              refine k_fg3 ?_
              refine k_fg4 ?_
              refine k_fg5 ?_
              exact kX6_copy_c105 σ11
            · refine k_aload_n (pc := 90) dX6_copy_90 rfl ?_
              refine k_gTX6_sheets (pc := 91) kwf_X6_12 rfl dX6_copy_91 ?_
              refine k_iload_n (pc := 94) dX6_copy_94 rfl ?_
              refine k_iload (pc := 95) dX6_copy_95 rfl ?_
              refine k_iload (pc := 97) dX6_copy_97 rfl ?_
              refine k_vi3 (pc := 99) (cT_same _ _) ckX2_hasCells kwm_X6_228 cT_rv1 ⟨rfl, rfl⟩ ⟨Nat.le_of_ble_eq_true rfl, Nat.le_of_ble_eq_true rfl⟩ ⟨Nat.zero_le _, Nat.zero_le _⟩ (Nat.le_of_ble_eq_true rfl) dX6_copy_99 (fun _ _ hf => kX2_hasCells hf) (fun r12 σ13 => ?_)
              refine k_if_ne (pc := 102) 111 dX6_copy_102 (by decide) ?_ ?_
              · refine k_aload_n (pc := 111) dX6_copy_111 rfl ?_
                refine k_gTX6_sheets (pc := 112) kwf_X6_12 rfl dX6_copy_112 ?_
                refine k_iload_n (pc := 115) dX6_copy_115 rfl ?_
                refine k_iload_n (pc := 116) dX6_copy_116 rfl ?_
                refine k_iload_n (pc := 117) dX6_copy_117 rfl ?_
                refine k_iload (pc := 118) dX6_copy_118 rfl ?_
                refine k_iload (pc := 120) dX6_copy_120 rfl ?_
                refine k_vv5 (pc := 122) (cT_same _ _) ckX2_move kwm_X6_243 cT_rv1 ⟨rfl, rfl⟩ ⟨Nat.le_of_ble_eq_true rfl, Nat.le_of_ble_eq_true rfl⟩ ⟨Nat.zero_le _, Nat.zero_le _⟩ (Nat.le_of_ble_eq_true rfl) dX6_copy_122 (fun _ _ hf => kX2_move hf) (fun r14 σ15 => ?_)
                refine k_iload (pc := 125) dX6_copy_125 rfl ?_
                exact k_ireturn (pc := 127) rfl dX6_copy_127
              · refine k_fg1 ?_
                refine k_fg2 ?_
                refine k_fg3 ?_
                refine k_fg4 ?_
                refine k_fg5 ?_
                exact kX6_copy_c105 σ13
          · refine k_aload_n (pc := 70) dX6_copy_70 rfl ?_
            refine k_iconst (pc := 71) (v := (nI 2)) dX6_copy_71 (by decide) ?_
            refine k_vi1 (pc := 72) (cT_same _ _) ckX6_faulty kwm_X6_76 cT_rv0 ⟨rfl, rfl⟩ ⟨Nat.le_of_ble_eq_true rfl, Nat.le_of_ble_eq_true rfl⟩ ⟨Nat.zero_le _, Nat.zero_le _⟩ (Nat.le_of_ble_eq_true rfl) dX6_copy_72 (fun _ _ hf => kX6_faulty hf) (fun r16 σ17 => ?_)
            exact k_ireturn (pc := 75) rfl dX6_copy_75
        · refine k_fg1 ?_
          refine k_fg2 ?_
          refine k_fg3 ?_
          refine k_fg4 ?_
          refine k_fg5 ?_
          exact kX6_copy_c43 σ9
    · refine k_iconst (pc := 19) (v := (k_ng 1)) dX6_copy_19 (by decide) ?_
      exact k_ireturn (pc := 20) rfl dX6_copy_20
-- TallTales.leaveTrace(I)V
theorem ckX6_leaveTrace : k_Vok yX6_leaveTrace cX6_leaveTrace 2 none 1 := ⟨kwk_X6_leaveTrace, kwi_X6_leaveTrace, kwv_X6_leaveTrace, kwn_X6, by decide, by decide +kernel⟩
abbrev rmX6_leaveTrace : Room := { frames := 0, cells := 0, slots := 0, locals := 0 }
abbrev YX6_leaveTrace : k_Y := (rmX6_leaveTrace, cX6_leaveTrace, 2, RX6, none)
noncomputable def fX6_leaveTrace (σ : k_S) (x1 : Int32) : Option (Unit × k_S) := k_bn (k_sf σ 0 ((((nI 31) * σ.1 0) + x1))) fun σ1 => some ((), σ1)
set_option maxRecDepth 100000 in
set_option maxHeartbeats 4000000 in
theorem kX6_leaveTrace {D : va_G} {cI : ClassId} {q : Nat → Nat} {σ : k_S} {x1 : Int32} {r : Unit} {τ : k_S} (h : fX6_leaveTrace σ x1 = some (r, τ)) : k_Ct k_ev yX6_leaveTrace cX6_leaveTrace 2 none rmX6_leaveTrace (cT cI q) D cI [.ref (q 0), .int x1] σ r τ := by
  refine k_met (Y := YX6_leaveTrace) (cT_same _ _) (by decide) rfl (Nat.le_of_ble_eq_true rfl) (List.forall_mem_cons.mpr ⟨rfl, List.forall_mem_cons.mpr ⟨rfl, fun _ h => absurd h List.not_mem_nil⟩⟩) (fun X hD hI => ?_) h
  subst hD hI
  show KO X YX6_leaveTrace (cT (k_I X) q) 0 0 (k_Q k_ev X (cT (k_I X) q)) 0 [some (.ref (q 0)), some (.int x1)] [] σ _
  unfold fX6_leaveTrace
  refine k_aload_n (pc := 0) dX6_leaveTrace_0 rfl ?_
  refine k_bipush (pc := 1) (v := (nI 31)) dX6_leaveTrace_1 (by decide) ?_
  refine k_aload_n (pc := 3) dX6_leaveTrace_3 rfl ?_
  refine k_gTX6_trace (pc := 4) kwf_X6_259 rfl dX6_leaveTrace_4 ?_
  refine k_imul (pc := 7) dX6_leaveTrace_7 ?_
  refine k_iload_n (pc := 8) dX6_leaveTrace_8 rfl ?_
  refine k_iadd (pc := 9) dX6_leaveTrace_9 ?_
  refine k_pTX6_trace (pc := 10) kwf_X6_259 rfl dX6_leaveTrace_10 (fun σ1 => ?_)
  exact k_return (pc := 13) rfl dX6_leaveTrace_13
-- TallTales.tellAsTale(I)I
theorem ckX6_tellAsTale : k_Vok yX6_tellAsTale cX6_tellAsTale 2 (some .int) 1 := ⟨kwk_X6_tellAsTale, kwi_X6_tellAsTale, kwv_X6_tellAsTale, kwn_X6, by decide, by decide +kernel⟩
abbrev rmX6_tellAsTale : Room := { frames := 1, cells := 0, slots := 0, locals := 21 }
abbrev YX6_tellAsTale : k_Y := (rmX6_tellAsTale, cX6_tellAsTale, 2, RX6, (some .int))
noncomputable def fX6_tellAsTale (σ : k_S) (x1 : Int32) : Option (Int32 × k_S) := k_ob (fX6_leaveTrace σ ((nI 1))) fun r1 σ2 => k_gd (x1) 10 (some (σ2.2 7 (Int32.toNatClampNeg (x1)), σ2))
set_option maxRecDepth 100000 in
set_option maxHeartbeats 4000000 in
theorem kX6_tellAsTale {D : va_G} {cI : ClassId} {q : Nat → Nat} {σ : k_S} {x1 : Int32} {r : Int32} {τ : k_S} (h : fX6_tellAsTale σ x1 = some (r, τ)) : k_Ct k_ei yX6_tellAsTale cX6_tellAsTale 2 (some .int) rmX6_tellAsTale (cT cI q) D cI [.ref (q 0), .int x1] σ r τ := by
  refine k_met (Y := YX6_tellAsTale) (cT_same _ _) (by decide) rfl (Nat.le_of_ble_eq_true rfl) (List.forall_mem_cons.mpr ⟨rfl, List.forall_mem_cons.mpr ⟨rfl, fun _ h => absurd h List.not_mem_nil⟩⟩) (fun X hD hI => ?_) h
  subst hD hI
  show KO X YX6_tellAsTale (cT (k_I X) q) 0 0 (k_Q k_ei X (cT (k_I X) q)) 0 [some (.ref (q 0)), some (.int x1)] [] σ _
  unfold fX6_tellAsTale
  refine k_aload_n (pc := 0) dX6_tellAsTale_0 rfl ?_
  refine k_iconst (pc := 1) (v := (nI 1)) dX6_tellAsTale_1 (by decide) ?_
  refine k_vv1 (pc := 2) (cT_same _ _) ckX6_leaveTrace kwm_X6_256 cT_rv0 ⟨rfl, rfl⟩ ⟨Nat.le_of_ble_eq_true rfl, Nat.le_of_ble_eq_true rfl⟩ ⟨Nat.zero_le _, Nat.zero_le _⟩ (Nat.le_of_ble_eq_true rfl) dX6_tellAsTale_2 (fun _ _ hf => kX6_leaveTrace hf) (fun r1 σ2 => ?_)
  refine k_aload_n (pc := 5) dX6_tellAsTale_5 rfl ?_
  refine k_gTX6_house (pc := 6) kwf_X6_28 rfl dX6_tellAsTale_6 ?_
  refine k_gTX0_heights (pc := 9) kwf_X6_110 rfl dX6_tellAsTale_9 ?_
  refine k_iload_n (pc := 12) dX6_tellAsTale_12 rfl ?_
  refine k_lT14 (pc := 13) dX6_tellAsTale_13 ?_
  exact k_ireturn (pc := 14) rfl dX6_tellAsTale_14
-- TallTales.tellAsGrown(I)I
theorem ckX6_tellAsGrown : k_Vok yX6_tellAsGrown cX6_tellAsGrown 2 (some .int) 1 := ⟨kwk_X6_tellAsGrown, kwi_X6_tellAsGrown, kwv_X6_tellAsGrown, kwn_X6, by decide, by decide +kernel⟩
abbrev rmX6_tellAsGrown : Room := { frames := 2, cells := 0, slots := 0, locals := 42 }
abbrev YX6_tellAsGrown : k_Y := (rmX6_tellAsGrown, cX6_tellAsGrown, 2, RX6, (some .int))
noncomputable def fX6_tellAsGrown (σ : k_S) (x1 : Int32) : Option (Int32 × k_S) := k_ob (fX6_leaveTrace σ ((nI 2))) fun r1 σ2 => k_ob (fX6_tellAsTale σ2 x1) fun r3 σ4 => some ((r3 + (nI 100)), σ4)
set_option maxRecDepth 100000 in
set_option maxHeartbeats 4000000 in
theorem kX6_tellAsGrown {D : va_G} {cI : ClassId} {q : Nat → Nat} {σ : k_S} {x1 : Int32} {r : Int32} {τ : k_S} (h : fX6_tellAsGrown σ x1 = some (r, τ)) : k_Ct k_ei yX6_tellAsGrown cX6_tellAsGrown 2 (some .int) rmX6_tellAsGrown (cT cI q) D cI [.ref (q 0), .int x1] σ r τ := by
  refine k_met (Y := YX6_tellAsGrown) (cT_same _ _) (by decide) rfl (Nat.le_of_ble_eq_true rfl) (List.forall_mem_cons.mpr ⟨rfl, List.forall_mem_cons.mpr ⟨rfl, fun _ h => absurd h List.not_mem_nil⟩⟩) (fun X hD hI => ?_) h
  subst hD hI
  show KO X YX6_tellAsGrown (cT (k_I X) q) 0 0 (k_Q k_ei X (cT (k_I X) q)) 0 [some (.ref (q 0)), some (.int x1)] [] σ _
  unfold fX6_tellAsGrown
  refine k_aload_n (pc := 0) dX6_tellAsGrown_0 rfl ?_
  refine k_iconst (pc := 1) (v := (nI 2)) dX6_tellAsGrown_1 (by decide) ?_
  refine k_vv1 (pc := 2) (cT_same _ _) ckX6_leaveTrace kwm_X6_256 cT_rv0 ⟨rfl, rfl⟩ ⟨Nat.le_of_ble_eq_true rfl, Nat.le_of_ble_eq_true rfl⟩ ⟨Nat.zero_le _, Nat.zero_le _⟩ (Nat.le_of_ble_eq_true rfl) dX6_tellAsGrown_2 (fun _ _ hf => kX6_leaveTrace hf) (fun r1 σ2 => ?_)
  refine k_aload_n (pc := 5) dX6_tellAsGrown_5 rfl ?_
  refine k_iload_n (pc := 6) dX6_tellAsGrown_6 rfl ?_
  refine k_vi1 (pc := 7) (cT_same _ _) ckX6_tellAsTale kwm_X6_253 cT_rv0 ⟨rfl, rfl⟩ ⟨Nat.le_of_ble_eq_true rfl, Nat.le_of_ble_eq_true rfl⟩ ⟨Nat.zero_le _, Nat.zero_le _⟩ (Nat.le_of_ble_eq_true rfl) dX6_tellAsGrown_7 (fun _ _ hf => kX6_tellAsTale hf) (fun r3 σ4 => ?_)
  refine k_bipush (pc := 10) (v := (nI 100)) dX6_tellAsGrown_10 (by decide) ?_
  refine k_iadd (pc := 12) dX6_tellAsGrown_12 ?_
  exact k_ireturn (pc := 13) rfl dX6_tellAsGrown_13
-- TallTales.tellAsTrue(I)I
theorem ckX6_tellAsTrue : k_Vok yX6_tellAsTrue cX6_tellAsTrue 3 (some .int) 1 := ⟨kwk_X6_tellAsTrue, kwi_X6_tellAsTrue, kwv_X6_tellAsTrue, kwn_X6, by decide, by decide +kernel⟩
abbrev rmX6_tellAsTrue : Room := { frames := 3, cells := 0, slots := 0, locals := 63 }
abbrev YX6_tellAsTrue : k_Y := (rmX6_tellAsTrue, cX6_tellAsTrue, 3, RX6, (some .int))
noncomputable def fX6_tellAsTrue (σ : k_S) (x1 : Int32) : Option (Int32 × k_S) := k_ob (fX6_leaveTrace σ ((nI 3))) fun r1 σ2 => k_ob (fX6_tellAsGrown σ2 x1) fun r3 σ4 => k_bn (r3) fun v5 => k_ob (fX6_tellAsTale σ4 x1) fun r6 σ7 => some ((v5 + r6), σ7)
set_option maxRecDepth 100000 in
set_option maxHeartbeats 4000000 in
theorem kX6_tellAsTrue {D : va_G} {cI : ClassId} {q : Nat → Nat} {σ : k_S} {x1 : Int32} {r : Int32} {τ : k_S} (h : fX6_tellAsTrue σ x1 = some (r, τ)) : k_Ct k_ei yX6_tellAsTrue cX6_tellAsTrue 3 (some .int) rmX6_tellAsTrue (cT cI q) D cI [.ref (q 0), .int x1] σ r τ := by
  refine k_met (Y := YX6_tellAsTrue) (cT_same _ _) (by decide) rfl (Nat.le_of_ble_eq_true rfl) (List.forall_mem_cons.mpr ⟨rfl, List.forall_mem_cons.mpr ⟨rfl, fun _ h => absurd h List.not_mem_nil⟩⟩) (fun X hD hI => ?_) h
  subst hD hI
  show KO X YX6_tellAsTrue (cT (k_I X) q) 0 0 (k_Q k_ei X (cT (k_I X) q)) 0 [some (.ref (q 0)), some (.int x1), none] [] σ _
  unfold fX6_tellAsTrue
  refine k_aload_n (pc := 0) dX6_tellAsTrue_0 rfl ?_
  refine k_iconst (pc := 1) (v := (nI 3)) dX6_tellAsTrue_1 (by decide) ?_
  refine k_vv1 (pc := 2) (cT_same _ _) ckX6_leaveTrace kwm_X6_256 cT_rv0 ⟨rfl, rfl⟩ ⟨Nat.le_of_ble_eq_true rfl, Nat.le_of_ble_eq_true rfl⟩ ⟨Nat.zero_le _, Nat.zero_le _⟩ (Nat.le_of_ble_eq_true rfl) dX6_tellAsTrue_2 (fun _ _ hf => kX6_leaveTrace hf) (fun r1 σ2 => ?_)
  refine k_aload_n (pc := 5) dX6_tellAsTrue_5 rfl ?_
  refine k_iload_n (pc := 6) dX6_tellAsTrue_6 rfl ?_
  refine k_vi1 (pc := 7) (cT_same _ _) ckX6_tellAsGrown kwm_X6_247 cT_rv0 ⟨rfl, rfl⟩ ⟨Nat.le_of_ble_eq_true rfl, Nat.le_of_ble_eq_true rfl⟩ ⟨Nat.zero_le _, Nat.zero_le _⟩ (Nat.le_of_ble_eq_true rfl) dX6_tellAsTrue_7 (fun _ _ hf => kX6_tellAsGrown hf) (fun r3 σ4 => ?_)
  refine k_ist2 (pc := 10) dX6_tellAsTrue_10 (Nat.le_of_ble_eq_true rfl) (fun v5 => ?_)
  refine k_iload_n (pc := 11) dX6_tellAsTrue_11 rfl ?_
  refine k_aload_n (pc := 12) dX6_tellAsTrue_12 rfl ?_
  refine k_iload_n (pc := 13) dX6_tellAsTrue_13 rfl ?_
  refine k_vi1 (pc := 14) (cT_same _ _) ckX6_tellAsTale kwm_X6_253 cT_rv0 ⟨rfl, rfl⟩ ⟨Nat.le_of_ble_eq_true rfl, Nat.le_of_ble_eq_true rfl⟩ ⟨Nat.zero_le _, Nat.zero_le _⟩ (Nat.le_of_ble_eq_true rfl) dX6_tellAsTrue_14 (fun _ _ hf => kX6_tellAsTale hf) (fun r6 σ7 => ?_)
  refine k_iadd (pc := 17) dX6_tellAsTrue_17 ?_
  exact k_ireturn (pc := 18) rfl dX6_tellAsTrue_18
-- TallTales.tell(I)I
theorem ckX6_tell : k_Vok yX6_tell cX6_tell 2 (some .int) 1 := ⟨kwk_X6_tell, kwi_X6_tell, kwv_X6_tell, kwn_X6, by decide, by decide +kernel⟩
abbrev rmX6_tell : Room := { frames := 4, cells := 0, slots := 0, locals := 85 }
abbrev YX6_tell : k_Y := (rmX6_tell, cX6_tell, 2, RX6, (some .int))
noncomputable def fX6_tell (σ : k_S) (x1 : Int32) : Option (Int32 × k_S) := k_ob (fX0_hasTale σ x1) fun r1 σ2 => (if r1 = 0 then some ((k_ng 1), σ2) else k_gd (x1) 10 ((if σ2.2 5 (Int32.toNatClampNeg (x1)) = (nI 1) then k_ob (fX6_tellAsGrown σ2 x1) fun r4 σ5 => some (r4, σ5) else (if σ2.2 5 (Int32.toNatClampNeg (x1)) = (nI 2) then k_ob (fX6_tellAsTrue σ2 x1) fun r6 σ7 => some (r6, σ7) else k_ob (fX6_tellAsTale σ2 x1) fun r8 σ9 => some (r8, σ9)))))
set_option maxRecDepth 100000 in
set_option maxHeartbeats 4000000 in
theorem kX6_tell {D : va_G} {cI : ClassId} {q : Nat → Nat} {σ : k_S} {x1 : Int32} {r : Int32} {τ : k_S} (h : fX6_tell σ x1 = some (r, τ)) : k_Ct k_ei yX6_tell cX6_tell 2 (some .int) rmX6_tell (cT cI q) D cI [.ref (q 0), .int x1] σ r τ := by
  refine k_met (Y := YX6_tell) (cT_same _ _) (by decide) rfl (Nat.le_of_ble_eq_true rfl) (List.forall_mem_cons.mpr ⟨rfl, List.forall_mem_cons.mpr ⟨rfl, fun _ h => absurd h List.not_mem_nil⟩⟩) (fun X hD hI => ?_) h
  subst hD hI
  show KO X YX6_tell (cT (k_I X) q) 0 0 (k_Q k_ei X (cT (k_I X) q)) 0 [some (.ref (q 0)), some (.int x1)] [] σ _
  unfold fX6_tell
  refine k_aload_n (pc := 0) dX6_tell_0 rfl ?_
  refine k_gTX6_house (pc := 1) kwf_X6_28 rfl dX6_tell_1 ?_
  refine k_iload_n (pc := 4) dX6_tell_4 rfl ?_
  refine k_vi1 (pc := 5) (cT_same _ _) ckX0_hasTale kwm_X6_101 cT_rv3 ⟨rfl, rfl⟩ ⟨Nat.le_of_ble_eq_true rfl, Nat.le_of_ble_eq_true rfl⟩ ⟨Nat.zero_le _, Nat.zero_le _⟩ (Nat.le_of_ble_eq_true rfl) dX6_tell_5 (fun _ _ hf => kX0_hasTale hf) (fun r1 σ2 => ?_)
  refine k_if_ne (pc := 8) 13 dX6_tell_8 (by decide) ?_ ?_
  · refine k_aload_n (pc := 13) dX6_tell_13 rfl ?_
    refine k_gTX6_house (pc := 14) kwf_X6_28 rfl dX6_tell_14 ?_
    refine k_gTX0_kinds (pc := 17) kwf_X6_104 rfl dX6_tell_17 ?_
    refine k_iload_n (pc := 20) dX6_tell_20 rfl ?_
    refine k_lT12 (pc := 21) dX6_tell_21 ?_
    refine KO.ite (c := σ2.2 5 (Int32.toNatClampNeg (x1)) = (nI 1)) (fun hs3_0 => ?_) (fun hs3_0 => ?_)
    · refine k_lookup (off := 26) (pc := 22) 48 dX6_tell_22 (by decide) (by rw [hs3_0]; decide) (by decide) ?_
      refine k_aload_n (pc := 48) dX6_tell_48 rfl ?_
      refine k_iload_n (pc := 49) dX6_tell_49 rfl ?_
      refine k_vi1 (pc := 50) (cT_same _ _) ckX6_tellAsGrown kwm_X6_247 cT_rv0 ⟨rfl, rfl⟩ ⟨Nat.le_of_ble_eq_true rfl, Nat.le_of_ble_eq_true rfl⟩ ⟨Nat.zero_le _, Nat.zero_le _⟩ (Nat.le_of_ble_eq_true rfl) dX6_tell_50 (fun _ _ hf => kX6_tellAsGrown hf) (fun r4 σ5 => ?_)
      exact k_ireturn (pc := 53) rfl dX6_tell_53
    · refine KO.ite (c := σ2.2 5 (Int32.toNatClampNeg (x1)) = (nI 2)) (fun hs3_1 => ?_) (fun hs3_1 => ?_)
      · refine k_lookup (off := 32) (pc := 22) 54 dX6_tell_22 (by decide) (by rw [hs3_1]; decide) (by decide) ?_
        refine k_aload_n (pc := 54) dX6_tell_54 rfl ?_
        refine k_iload_n (pc := 55) dX6_tell_55 rfl ?_
        refine k_vi1 (pc := 56) (cT_same _ _) ckX6_tellAsTrue kwm_X6_250 cT_rv0 ⟨rfl, rfl⟩ ⟨Nat.le_of_ble_eq_true rfl, Nat.le_of_ble_eq_true rfl⟩ ⟨Nat.zero_le _, Nat.zero_le _⟩ (Nat.le_of_ble_eq_true rfl) dX6_tell_56 (fun _ _ hf => kX6_tellAsTrue hf) (fun r6 σ7 => ?_)
        exact k_ireturn (pc := 59) rfl dX6_tell_59
      · refine k_lookup (off := 38) (pc := 22) 60 dX6_tell_22 (by decide) (by refine (lv_osw hs3_0 rfl).trans ?_; refine (lv_osw hs3_1 rfl).trans ?_; rfl) (by decide) ?_
        refine k_aload_n (pc := 60) dX6_tell_60 rfl ?_
        refine k_iload_n (pc := 61) dX6_tell_61 rfl ?_
        refine k_vi1 (pc := 62) (cT_same _ _) ckX6_tellAsTale kwm_X6_253 cT_rv0 ⟨rfl, rfl⟩ ⟨Nat.le_of_ble_eq_true rfl, Nat.le_of_ble_eq_true rfl⟩ ⟨Nat.zero_le _, Nat.zero_le _⟩ (Nat.le_of_ble_eq_true rfl) dX6_tell_62 (fun _ _ hf => kX6_tellAsTale hf) (fun r8 σ9 => ?_)
        exact k_ireturn (pc := 65) rfl dX6_tell_65
  · refine k_iconst (pc := 11) (v := (k_ng 1)) dX6_tell_11 (by decide) ?_
    exact k_ireturn (pc := 12) rfl dX6_tell_12
-- TallTales.swear(I)I
theorem ckX6_swear : k_Vok yX6_swear cX6_swear 2 (some .int) 1 := ⟨kwk_X6_swear, kwi_X6_swear, kwv_X6_swear, kwn_X6, by decide, by decide +kernel⟩
abbrev rmX6_swear : Room := { frames := 1, cells := 0, slots := 0, locals := 21 }
abbrev YX6_swear : k_Y := (rmX6_swear, cX6_swear, 2, RX6, (some .int))
noncomputable def fX6_swear (σ : k_S) (x1 : Int32) : Option (Int32 × k_S) := k_ob (fX0_hasTale σ x1) fun r1 σ2 => (if r1 = 0 then some ((k_ng 1), σ2) else k_gd (x1) 10 ((if σ2.2 5 (Int32.toNatClampNeg (x1)) = (nI 2) then k_ob (fX6_leaveTrace σ2 ((nI 5))) fun r5 σ6 => some ((nI 30), σ6) else k_ob (fX6_leaveTrace σ2 ((nI 4))) fun r3 σ4 => some (x1, σ4))))
set_option maxRecDepth 100000 in
set_option maxHeartbeats 4000000 in
theorem kX6_swear {D : va_G} {cI : ClassId} {q : Nat → Nat} {σ : k_S} {x1 : Int32} {r : Int32} {τ : k_S} (h : fX6_swear σ x1 = some (r, τ)) : k_Ct k_ei yX6_swear cX6_swear 2 (some .int) rmX6_swear (cT cI q) D cI [.ref (q 0), .int x1] σ r τ := by
  refine k_met (Y := YX6_swear) (cT_same _ _) (by decide) rfl (Nat.le_of_ble_eq_true rfl) (List.forall_mem_cons.mpr ⟨rfl, List.forall_mem_cons.mpr ⟨rfl, fun _ h => absurd h List.not_mem_nil⟩⟩) (fun X hD hI => ?_) h
  subst hD hI
  show KO X YX6_swear (cT (k_I X) q) 0 0 (k_Q k_ei X (cT (k_I X) q)) 0 [some (.ref (q 0)), some (.int x1)] [] σ _
  unfold fX6_swear
  refine k_aload_n (pc := 0) dX6_swear_0 rfl ?_
  refine k_gTX6_house (pc := 1) kwf_X6_28 rfl dX6_swear_1 ?_
  refine k_iload_n (pc := 4) dX6_swear_4 rfl ?_
  refine k_vi1 (pc := 5) (cT_same _ _) ckX0_hasTale kwm_X6_101 cT_rv3 ⟨rfl, rfl⟩ ⟨Nat.le_of_ble_eq_true rfl, Nat.le_of_ble_eq_true rfl⟩ ⟨Nat.zero_le _, Nat.zero_le _⟩ (Nat.le_of_ble_eq_true rfl) dX6_swear_5 (fun _ _ hf => kX0_hasTale hf) (fun r1 σ2 => ?_)
  refine k_if_ne (pc := 8) 13 dX6_swear_8 (by decide) ?_ ?_
  · refine k_aload_n (pc := 13) dX6_swear_13 rfl ?_
    refine k_gTX6_house (pc := 14) kwf_X6_28 rfl dX6_swear_14 ?_
    refine k_gTX0_kinds (pc := 17) kwf_X6_104 rfl dX6_swear_17 ?_
    refine k_iload_n (pc := 20) dX6_swear_20 rfl ?_
    refine k_lT12 (pc := 21) dX6_swear_21 ?_
    refine k_iconst (pc := 22) (v := (nI 2)) dX6_swear_22 (by decide) ?_
    refine k_icmp_ne (pc := 23) 34 dX6_swear_23 (by decide) ?_ ?_
    · refine k_aload_n (pc := 34) dX6_swear_34 rfl ?_
      refine k_iconst (pc := 35) (v := (nI 4)) dX6_swear_35 (by decide) ?_
      refine k_vv1 (pc := 36) (cT_same _ _) ckX6_leaveTrace kwm_X6_256 cT_rv0 ⟨rfl, rfl⟩ ⟨Nat.le_of_ble_eq_true rfl, Nat.le_of_ble_eq_true rfl⟩ ⟨Nat.zero_le _, Nat.zero_le _⟩ (Nat.le_of_ble_eq_true rfl) dX6_swear_36 (fun _ _ hf => kX6_leaveTrace hf) (fun r3 σ4 => ?_)
      refine k_iload_n (pc := 39) dX6_swear_39 rfl ?_
      exact k_ireturn (pc := 40) rfl dX6_swear_40
    · refine k_aload_n (pc := 26) dX6_swear_26 rfl ?_
      refine k_iconst (pc := 27) (v := (nI 5)) dX6_swear_27 (by decide) ?_
      refine k_vv1 (pc := 28) (cT_same _ _) ckX6_leaveTrace kwm_X6_256 cT_rv0 ⟨rfl, rfl⟩ ⟨Nat.le_of_ble_eq_true rfl, Nat.le_of_ble_eq_true rfl⟩ ⟨Nat.zero_le _, Nat.zero_le _⟩ (Nat.le_of_ble_eq_true rfl) dX6_swear_28 (fun _ _ hf => kX6_leaveTrace hf) (fun r5 σ6 => ?_)
      refine k_bipush (pc := 31) (v := (nI 30)) dX6_swear_31 (by decide) ?_
      exact k_ireturn (pc := 33) rfl dX6_swear_33
  · refine k_iconst (pc := 11) (v := (k_ng 1)) dX6_swear_11 (by decide) ?_
    exact k_ireturn (pc := 12) rfl dX6_swear_12
-- TallTales.as(II)I
theorem ckX6_as : k_Vok yX6_as cX6_as 3 (some .int) 2 := ⟨kwk_X6_as, kwi_X6_as, kwv_X6_as, kwn_X6, by decide, by decide +kernel⟩
abbrev rmX6_as : Room := { frames := 1, cells := 0, slots := 0, locals := 21 }
abbrev YX6_as : k_Y := (rmX6_as, cX6_as, 3, RX6, (some .int))
noncomputable def fX6_as (σ : k_S) (x1 x2 : Int32) : Option (Int32 × k_S) := k_bn (k_sf σ 1 ((nI 0))) fun σ1 => k_ob (fX0_hasTale σ1 x1) fun r2 σ3 => (if r2 = 0 then some ((k_ng 1), σ3) else (if x2 < 0 then some ((k_ng 2), σ3) else (if (nI 2) < x2 then some ((k_ng 2), σ3) else k_gd (x1) 10 ((if σ3.2 5 (Int32.toNatClampNeg (x1)) < x2 then k_ob (fX6_faulty σ3 ((nI 2))) fun r4 σ5 => some (r4, σ5) else some ((nI 1), σ3))))))
set_option maxRecDepth 100000 in
set_option maxHeartbeats 4000000 in
theorem kX6_as {D : va_G} {cI : ClassId} {q : Nat → Nat} {σ : k_S} {x1 x2 : Int32} {r : Int32} {τ : k_S} (h : fX6_as σ x1 x2 = some (r, τ)) : k_Ct k_ei yX6_as cX6_as 3 (some .int) rmX6_as (cT cI q) D cI [.ref (q 0), .int x1, .int x2] σ r τ := by
  refine k_met (Y := YX6_as) (cT_same _ _) (by decide) rfl (Nat.le_of_ble_eq_true rfl) (List.forall_mem_cons.mpr ⟨rfl, List.forall_mem_cons.mpr ⟨rfl, List.forall_mem_cons.mpr ⟨rfl, fun _ h => absurd h List.not_mem_nil⟩⟩⟩) (fun X hD hI => ?_) h
  subst hD hI
  show KO X YX6_as (cT (k_I X) q) 0 0 (k_Q k_ei X (cT (k_I X) q)) 0 [some (.ref (q 0)), some (.int x1), some (.int x2)] [] σ _
  unfold fX6_as
  refine k_aload_n (pc := 0) dX6_as_0 rfl ?_
  refine k_iconst (pc := 1) (v := (nI 0)) dX6_as_1 (by decide) ?_
  refine k_pTX6_fault (pc := 2) kwf_X6_61 rfl dX6_as_2 (fun σ1 => ?_)
  refine k_aload_n (pc := 5) dX6_as_5 rfl ?_
  refine k_gTX6_house (pc := 6) kwf_X6_28 rfl dX6_as_6 ?_
  refine k_iload_n (pc := 9) dX6_as_9 rfl ?_
  refine k_vi1 (pc := 10) (cT_same _ _) ckX0_hasTale kwm_X6_101 cT_rv3 ⟨rfl, rfl⟩ ⟨Nat.le_of_ble_eq_true rfl, Nat.le_of_ble_eq_true rfl⟩ ⟨Nat.zero_le _, Nat.zero_le _⟩ (Nat.le_of_ble_eq_true rfl) dX6_as_10 (fun _ _ hf => kX0_hasTale hf) (fun r2 σ3 => ?_)
  refine k_if_ne (pc := 13) 18 dX6_as_13 (by decide) ?_ ?_
  · refine k_iload_n (pc := 18) dX6_as_18 rfl ?_
    refine k_if_lt (pc := 19) 27 dX6_as_19 (by decide) ?_ ?_
    · refine k_bipush (pc := 27) (v := (k_ng 2)) dX6_as_27 (by decide) ?_
      exact k_ireturn (pc := 29) rfl dX6_as_29
    · refine k_iload_n (pc := 22) dX6_as_22 rfl ?_
      refine k_iconst (pc := 23) (v := (nI 2)) dX6_as_23 (by decide) ?_
      refine k_icmp_le (pc := 24) 30 dX6_as_24 (by decide) ?_ ?_
      · refine k_iload_n (pc := 30) dX6_as_30 rfl ?_
        refine k_aload_n (pc := 31) dX6_as_31 rfl ?_
        refine k_gTX6_house (pc := 32) kwf_X6_28 rfl dX6_as_32 ?_
        refine k_gTX0_kinds (pc := 35) kwf_X6_104 rfl dX6_as_35 ?_
        refine k_iload_n (pc := 38) dX6_as_38 rfl ?_
        refine k_lT12 (pc := 39) dX6_as_39 ?_
        refine k_icmp_le (pc := 40) 49 dX6_as_40 (by decide) ?_ ?_
        · refine k_iconst (pc := 49) (v := (nI 1)) dX6_as_49 (by decide) ?_
          exact k_ireturn (pc := 50) rfl dX6_as_50
        · refine k_aload_n (pc := 43) dX6_as_43 rfl ?_
          refine k_iconst (pc := 44) (v := (nI 2)) dX6_as_44 (by decide) ?_
          refine k_vi1 (pc := 45) (cT_same _ _) ckX6_faulty kwm_X6_76 cT_rv0 ⟨rfl, rfl⟩ ⟨Nat.le_of_ble_eq_true rfl, Nat.le_of_ble_eq_true rfl⟩ ⟨Nat.zero_le _, Nat.zero_le _⟩ (Nat.le_of_ble_eq_true rfl) dX6_as_45 (fun _ _ hf => kX6_faulty hf) (fun r4 σ5 => ?_)
          exact k_ireturn (pc := 48) rfl dX6_as_48
      · refine k_bipush (pc := 27) (v := (k_ng 2)) dX6_as_27 (by decide) ?_
        exact k_ireturn (pc := 29) rfl dX6_as_29
  · refine k_iconst (pc := 16) (v := (k_ng 1)) dX6_as_16 (by decide) ?_
    exact k_ireturn (pc := 17) rfl dX6_as_17
-- TallTales.trace()I
theorem ckX6_trace : k_Vok yX6_trace cX6_trace 1 (some .int) 0 := ⟨kwk_X6_trace, kwi_X6_trace, kwv_X6_trace, kwn_X6, by decide, by decide +kernel⟩
abbrev rmX6_trace : Room := { frames := 0, cells := 0, slots := 0, locals := 0 }
abbrev YX6_trace : k_Y := (rmX6_trace, cX6_trace, 1, RX6, (some .int))
noncomputable def fX6_trace (σ : k_S) : Option (Int32 × k_S) := some (σ.1 0, σ)
set_option maxRecDepth 100000 in
set_option maxHeartbeats 4000000 in
theorem kX6_trace {D : va_G} {cI : ClassId} {q : Nat → Nat} {σ : k_S} {r : Int32} {τ : k_S} (h : fX6_trace σ = some (r, τ)) : k_Ct k_ei yX6_trace cX6_trace 1 (some .int) rmX6_trace (cT cI q) D cI [.ref (q 0)] σ r τ := by
  refine k_met (Y := YX6_trace) (cT_same _ _) (by decide) rfl (Nat.le_of_ble_eq_true rfl) (List.forall_mem_cons.mpr ⟨rfl, fun _ h => absurd h List.not_mem_nil⟩) (fun X hD hI => ?_) h
  subst hD hI
  show KO X YX6_trace (cT (k_I X) q) 0 0 (k_Q k_ei X (cT (k_I X) q)) 0 [some (.ref (q 0))] [] σ _
  unfold fX6_trace
  refine k_aload_n (pc := 0) dX6_trace_0 rfl ?_
  refine k_gTX6_trace (pc := 1) kwf_X6_259 rfl dX6_trace_1 ?_
  exact k_ireturn (pc := 4) rfl dX6_trace_4
-- TallTales.fault()I
theorem ckX6_fault : k_Vok yX6_fault cX6_fault 1 (some .int) 0 := ⟨kwk_X6_fault, kwi_X6_fault, kwv_X6_fault, kwn_X6, by decide, by decide +kernel⟩
abbrev rmX6_fault : Room := { frames := 0, cells := 0, slots := 0, locals := 0 }
abbrev YX6_fault : k_Y := (rmX6_fault, cX6_fault, 1, RX6, (some .int))
noncomputable def fX6_fault (σ : k_S) : Option (Int32 × k_S) := some (σ.1 1, σ)
set_option maxRecDepth 100000 in
set_option maxHeartbeats 4000000 in
theorem kX6_fault {D : va_G} {cI : ClassId} {q : Nat → Nat} {σ : k_S} {r : Int32} {τ : k_S} (h : fX6_fault σ = some (r, τ)) : k_Ct k_ei yX6_fault cX6_fault 1 (some .int) rmX6_fault (cT cI q) D cI [.ref (q 0)] σ r τ := by
  refine k_met (Y := YX6_fault) (cT_same _ _) (by decide) rfl (Nat.le_of_ble_eq_true rfl) (List.forall_mem_cons.mpr ⟨rfl, fun _ h => absurd h List.not_mem_nil⟩) (fun X hD hI => ?_) h
  subst hD hI
  show KO X YX6_fault (cT (k_I X) q) 0 0 (k_Q k_ei X (cT (k_I X) q)) 0 [some (.ref (q 0))] [] σ _
  unfold fX6_fault
  refine k_aload_n (pc := 0) dX6_fault_0 rfl ?_
  refine k_gTX6_fault (pc := 1) kwf_X6_61 rfl dX6_fault_1 ?_
  exact k_ireturn (pc := 4) rfl dX6_fault_4
-- TallTales.many(I)I
theorem ckX6_many : k_Vok yX6_many cX6_many 2 (some .int) 1 := ⟨kwk_X6_many, kwi_X6_many, kwv_X6_many, kwn_X6, by decide, by decide +kernel⟩
abbrev rmX6_many : Room := { frames := 0, cells := 0, slots := 0, locals := 0 }
abbrev YX6_many : k_Y := (rmX6_many, cX6_many, 2, RX6, (some .int))
noncomputable def fX6_many (σ : k_S) (x1 : Int32) : Option (Int32 × k_S) := (if x1 = (nI 0) then some (σ.1 3, σ) else (if x1 = (nI 1) then some (σ.1 4, σ) else (if x1 = (nI 2) then some (σ.1 6, σ) else (if x1 = (nI 3) then some (σ.1 5, σ) else some ((k_ng 2), σ)))))
set_option maxRecDepth 100000 in
set_option maxHeartbeats 4000000 in
theorem kX6_many {D : va_G} {cI : ClassId} {q : Nat → Nat} {σ : k_S} {x1 : Int32} {r : Int32} {τ : k_S} (h : fX6_many σ x1 = some (r, τ)) : k_Ct k_ei yX6_many cX6_many 2 (some .int) rmX6_many (cT cI q) D cI [.ref (q 0), .int x1] σ r τ := by
  refine k_met (Y := YX6_many) (cT_same _ _) (by decide) rfl (Nat.le_of_ble_eq_true rfl) (List.forall_mem_cons.mpr ⟨rfl, List.forall_mem_cons.mpr ⟨rfl, fun _ h => absurd h List.not_mem_nil⟩⟩) (fun X hD hI => ?_) h
  subst hD hI
  show KO X YX6_many (cT (k_I X) q) 0 0 (k_Q k_ei X (cT (k_I X) q)) 0 [some (.ref (q 0)), some (.int x1)] [] σ _
  unfold fX6_many
  refine k_iload_n (pc := 0) dX6_many_0 rfl ?_
  refine KO.ite (c := x1 = (nI 0)) (fun hs1_0 => ?_) (fun hs1_0 => ?_)
  · refine k_tableIn (off := 31) (pc := 1) 32 dX6_many_1 hs1_0 (by decide) (by decide) (by decide) (by decide) ?_
    refine k_aload_n (pc := 32) dX6_many_32 rfl ?_
    refine k_gTX6_house (pc := 33) kwf_X6_28 rfl dX6_many_33 ?_
    refine k_gTX0_guests (pc := 36) kwf_X6_208 rfl dX6_many_36 ?_
    exact k_ireturn (pc := 39) rfl dX6_many_39
  · refine KO.ite (c := x1 = (nI 1)) (fun hs1_1 => ?_) (fun hs1_1 => ?_)
    · refine k_tableIn (off := 39) (pc := 1) 40 dX6_many_1 hs1_1 (by decide) (by decide) (by decide) (by decide) ?_
      refine k_aload_n (pc := 40) dX6_many_40 rfl ?_
      refine k_gTX6_house (pc := 41) kwf_X6_28 rfl dX6_many_41 ?_
      refine k_gTX0_tales (pc := 44) kwf_X6_98 rfl dX6_many_44 ?_
      exact k_ireturn (pc := 47) rfl dX6_many_47
    · refine KO.ite (c := x1 = (nI 2)) (fun hs1_2 => ?_) (fun hs1_2 => ?_)
      · refine k_tableIn (off := 47) (pc := 1) 48 dX6_many_1 hs1_2 (by decide) (by decide) (by decide) (by decide) ?_
        refine k_aload_n (pc := 48) dX6_many_48 rfl ?_
        refine k_gTX6_house (pc := 49) kwf_X6_28 rfl dX6_many_49 ?_
        refine k_gTX0_nights (pc := 52) kwf_X6_138 rfl dX6_many_52 ?_
        exact k_ireturn (pc := 55) rfl dX6_many_55
      · refine KO.ite (c := x1 = (nI 3)) (fun hs1_3 => ?_) (fun hs1_3 => ?_)
        · refine k_tableIn (off := 55) (pc := 1) 56 dX6_many_1 hs1_3 (by decide) (by decide) (by decide) (by decide) ?_
          refine k_aload_n (pc := 56) dX6_many_56 rfl ?_
          refine k_gTX6_house (pc := 57) kwf_X6_28 rfl dX6_many_57 ?_
          refine k_gTX0_memory (pc := 60) kwf_X6_129 rfl dX6_many_60 ?_
          exact k_ireturn (pc := 63) rfl dX6_many_63
        · refine k_tableOut (pc := 1) 64 dX6_many_1 (by have g0 := lv_neT (a := 0) hs1_0 (by decide); have g1 := lv_neT (a := 1) hs1_1 (by decide); have g2 := lv_neT (a := 2) hs1_2 (by decide); have g3 := lv_neT (a := 3) hs1_3 (by decide); omega) (by decide) ?_
          refine k_bipush (pc := 64) (v := (k_ng 2)) dX6_many_64 (by decide) ?_
          exact k_ireturn (pc := 66) rfl dX6_many_66
