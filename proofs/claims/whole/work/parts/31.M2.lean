/-! ===== M: methods as pure functions, and that the bytecode answers so (by program: wip/gen/dec.py) ===== -/
-- TallTalesModel.tonight(II)I
theorem ckX7_tonight : k_Vok yX7_tonight cX7_tonight 3 (some .int) 2 := ⟨kwk_X7_tonight, kwi_X7_tonight, kwv_X7_tonight, kwn_X7, by decide, by decide +kernel⟩
abbrev rmX7_tonight : Room := { frames := 3, cells := 0, slots := 0, locals := 64 }
abbrev YX7_tonight : k_Y := (rmX7_tonight, cX7_tonight, 3, RX7, (some .int))
noncomputable def fX7_tonight (σ : k_S) (x1 x2 : Int32) : Option (Int32 × k_S) := k_ob (fX7_isGuest σ x1) fun r1 σ2 => (if r1 = 0 then some ((k_ng 1), σ2) else k_ob (fX7_layTall σ2) fun r3 σ4 => (if x2 = 0 then k_gd (x1) 5 (some (σ4.2 11 (Int32.toNatClampNeg (x1)), σ4)) else (if x2 = (nI 1) then k_ob (fX7_placeOf σ4 x1) fun r7 σ8 => some (r7, σ8) else (if x2 = (nI 2) then k_ob (fX7_need σ4 x1) fun r5 σ6 => some (r5, σ6) else some ((k_ng 2), σ4)))))
set_option maxRecDepth 100000 in
set_option maxHeartbeats 4000000 in
theorem kX7_tonight {D : va_G} {cI : ClassId} {q : Nat → Nat} {σ : k_S} {x1 x2 : Int32} {r : Int32} {τ : k_S} (h : fX7_tonight σ x1 x2 = some (r, τ)) : k_Ct k_ei yX7_tonight cX7_tonight 3 (some .int) rmX7_tonight (cM cI q) D cI [.ref (q 0), .int x1, .int x2] σ r τ := by
  refine k_met (Y := YX7_tonight) (cM_same _ _) (by decide) rfl (Nat.le_of_ble_eq_true rfl) (List.forall_mem_cons.mpr ⟨rfl, List.forall_mem_cons.mpr ⟨rfl, List.forall_mem_cons.mpr ⟨rfl, fun _ h => absurd h List.not_mem_nil⟩⟩⟩) (fun X hD hI => ?_) h
  subst hD hI
  show KO X YX7_tonight (cM (k_I X) q) 0 0 (k_Q k_ei X (cM (k_I X) q)) 0 [some (.ref (q 0)), some (.int x1), some (.int x2)] [] σ _
  unfold fX7_tonight
  refine k_aload_n (pc := 0) dX7_tonight_0 rfl ?_
  refine k_iload_n (pc := 1) dX7_tonight_1 rfl ?_
  refine k_vi1 (pc := 2) (cM_same _ _) ckX7_isGuest kwm_X7_145 cM_rv0 ⟨rfl, rfl⟩ ⟨Nat.le_of_ble_eq_true rfl, Nat.le_of_ble_eq_true rfl⟩ ⟨Nat.zero_le _, Nat.zero_le _⟩ (Nat.le_of_ble_eq_true rfl) dX7_tonight_2 (fun _ _ hf => kX7_isGuest hf) (fun r1 σ2 => ?_)
  refine k_if_ne (pc := 5) 10 dX7_tonight_5 (by decide) ?_ ?_
  · refine k_aload_n (pc := 10) dX7_tonight_10 rfl ?_
    refine k_vv0 (pc := 11) (cM_same _ _) ckX7_layTall kwm_X7_151 cM_rv0 ⟨rfl, rfl⟩ ⟨Nat.le_of_ble_eq_true rfl, Nat.le_of_ble_eq_true rfl⟩ ⟨Nat.zero_le _, Nat.zero_le _⟩ (Nat.le_of_ble_eq_true rfl) dX7_tonight_11 (fun _ _ hf => kX7_layTall hf) (fun r3 σ4 => ?_)
    refine k_iload_n (pc := 14) dX7_tonight_14 rfl ?_
    refine k_if_ne (pc := 15) 27 dX7_tonight_15 (by decide) ?_ ?_
    · refine k_iload_n (pc := 27) dX7_tonight_27 rfl ?_
      refine k_iconst (pc := 28) (v := (nI 1)) dX7_tonight_28 (by decide) ?_
      refine k_icmp_ne (pc := 29) 40 dX7_tonight_29 (by decide) ?_ ?_
      · refine k_iload_n (pc := 40) dX7_tonight_40 rfl ?_
        refine k_iconst (pc := 41) (v := (nI 2)) dX7_tonight_41 (by decide) ?_
        refine k_icmp_ne (pc := 42) 53 dX7_tonight_42 (by decide) ?_ ?_
        · refine k_bipush (pc := 53) (v := (k_ng 2)) dX7_tonight_53 (by decide) ?_
          exact k_ireturn (pc := 55) rfl dX7_tonight_55
        · refine k_aload_n (pc := 45) dX7_tonight_45 rfl ?_
          refine k_iload_n (pc := 46) dX7_tonight_46 rfl ?_
          refine k_vi1 (pc := 47) (cM_same _ _) ckX7_need kwm_X7_165 cM_rv0 ⟨rfl, rfl⟩ ⟨Nat.le_of_ble_eq_true rfl, Nat.le_of_ble_eq_true rfl⟩ ⟨Nat.zero_le _, Nat.zero_le _⟩ (Nat.le_of_ble_eq_true rfl) dX7_tonight_47 (fun _ _ hf => kX7_need hf) (fun r5 σ6 => ?_)
          refine k_goto (pc := 50) 55 dX7_tonight_50 (by decide) ?_
          exact k_ireturn (pc := 55) rfl dX7_tonight_55
      · refine k_aload_n (pc := 32) dX7_tonight_32 rfl ?_
        refine k_iload_n (pc := 33) dX7_tonight_33 rfl ?_
        refine k_vi1 (pc := 34) (cM_same _ _) ckX7_placeOf kwm_X7_148 cM_rv0 ⟨rfl, rfl⟩ ⟨Nat.le_of_ble_eq_true rfl, Nat.le_of_ble_eq_true rfl⟩ ⟨Nat.zero_le _, Nat.zero_le _⟩ (Nat.le_of_ble_eq_true rfl) dX7_tonight_34 (fun _ _ hf => kX7_placeOf hf) (fun r7 σ8 => ?_)
        refine k_goto (pc := 37) 55 dX7_tonight_37 (by decide) ?_
        exact k_ireturn (pc := 55) rfl dX7_tonight_55
    · refine k_aload_n (pc := 18) dX7_tonight_18 rfl ?_
      refine k_gMX7_chosen (pc := 19) kwf_X7_43 rfl dX7_tonight_19 ?_
      refine k_iload_n (pc := 22) dX7_tonight_22 rfl ?_
      refine k_lM12 (pc := 23) dX7_tonight_23 ?_
      refine k_goto (pc := 24) 55 dX7_tonight_24 (by decide) ?_
      exact k_ireturn (pc := 55) rfl dX7_tonight_55
  · refine k_iconst (pc := 8) (v := (k_ng 1)) dX7_tonight_8 (by decide) ?_
    exact k_ireturn (pc := 9) rfl dX7_tonight_9
-- TallTalesModel.offer(II)V
theorem ckX7_offer : k_Vok yX7_offer cX7_offer 5 none 2 := ⟨kwk_X7_offer, kwi_X7_offer, kwv_X7_offer, kwn_X7, by decide, by decide +kernel⟩
abbrev rmX7_offer : Room := { frames := 2, cells := 0, slots := 0, locals := 43 }
abbrev YX7_offer : k_Y := (rmX7_offer, cX7_offer, 5, RX7, none)
noncomputable def fX7_offer_c60 (σ : k_S) (l1 l2 l3 s0 : Int32) : Option (Unit × k_S) := k_bn (s0) fun v1 => (if v1 = 0 then some ((), σ) else k_bn (k_sf σ 9 (l2)) fun σ2 => k_bn (k_sf σ2 10 (l3)) fun σ3 => k_gd (l1) 5 (k_bn (k_sf σ3 11 (σ3.2 14 (Int32.toNatClampNeg (l1)))) fun σ4 => some ((), σ4)))
set_option maxRecDepth 100000 in
set_option maxHeartbeats 4000000 in
theorem kX7_offer_c60 {X : k_C} {q : Nat → Nat} (σ : k_S) (l1 l2 l3 s0 : Int32) : KO X YX7_offer (cM (k_I X) q) 0 0 (k_Q k_ev X (cM (k_I X) q)) 60 [some (.ref (q 0)), some (.int l1), some (.int l2), some (.int l3), none] [.int s0] σ (fX7_offer_c60 σ l1 l2 l3 s0) := by
  unfold fX7_offer_c60
  refine k_ist4 (pc := 60) dX7_offer_60 (Nat.le_of_ble_eq_true rfl) (fun v1 => ?_)
  refine k_iload (pc := 62) dX7_offer_62 rfl ?_
  refine k_if_eq (pc := 64) 87 dX7_offer_64 (by decide) ?_ ?_
  · exact k_return (pc := 87) rfl dX7_offer_87
  · refine k_aload_n (pc := 67) dX7_offer_67 rfl ?_
    refine k_iload_n (pc := 68) dX7_offer_68 rfl ?_
    refine k_pMX7_bestTale (pc := 69) kwf_X7_168 rfl dX7_offer_69 (fun σ2 => ?_)
    refine k_aload_n (pc := 72) dX7_offer_72 rfl ?_
    refine k_iload_n (pc := 73) dX7_offer_73 rfl ?_
    refine k_pMX7_bestPlace (pc := 74) kwf_X7_171 rfl dX7_offer_74 (fun σ3 => ?_)
    refine k_aload_n (pc := 77) dX7_offer_77 rfl ?_
    refine k_aload_n (pc := 78) dX7_offer_78 rfl ?_
    refine k_gMX7_tall (pc := 79) kwf_X7_52 rfl dX7_offer_79 ?_
    refine k_iload_n (pc := 82) dX7_offer_82 rfl ?_
    refine k_lM15 (pc := 83) dX7_offer_83 ?_
    refine k_pMX7_bestTall (pc := 84) kwf_X7_174 rfl dX7_offer_84 (fun σ4 => ?_)
    exact k_return (pc := 87) rfl dX7_offer_87
noncomputable def fX7_offer_c55 (σ : k_S) (l1 l2 l3 : Int32) : Option (Unit × k_S) := fX7_offer_c60 σ l1 l2 l3 ((nI 1))
set_option maxRecDepth 100000 in
set_option maxHeartbeats 4000000 in
theorem kX7_offer_c55 {X : k_C} {q : Nat → Nat} (σ : k_S) (l1 l2 l3 : Int32) : KO X YX7_offer (cM (k_I X) q) 0 0 (k_Q k_ev X (cM (k_I X) q)) 55 [some (.ref (q 0)), some (.int l1), some (.int l2), some (.int l3), none] [] σ (fX7_offer_c55 σ l1 l2 l3) := by
  unfold fX7_offer_c55
  refine k_iconst (pc := 55) (v := (nI 1)) dX7_offer_55 (by decide) ?_
  refine k_goto (pc := 56) 60 dX7_offer_56 (by decide) ?_
  exact kX7_offer_c60 σ l1 l2 l3 ((nI 1))
noncomputable def fX7_offer_c59 (σ : k_S) (l1 l2 l3 : Int32) : Option (Unit × k_S) := fX7_offer_c60 σ l1 l2 l3 ((nI 0))
set_option maxRecDepth 100000 in
set_option maxHeartbeats 4000000 in
theorem kX7_offer_c59 {X : k_C} {q : Nat → Nat} (σ : k_S) (l1 l2 l3 : Int32) : KO X YX7_offer (cM (k_I X) q) 0 0 (k_Q k_ev X (cM (k_I X) q)) 59 [some (.ref (q 0)), some (.int l1), some (.int l2), some (.int l3), none] [] σ (fX7_offer_c59 σ l1 l2 l3) := by
  unfold fX7_offer_c59
  refine k_iconst (pc := 59) (v := (nI 0)) dX7_offer_59 (by decide) ?_
  exact kX7_offer_c60 σ l1 l2 l3 ((nI 0))
noncomputable def fX7_offer (σ : k_S) (x1 x2 : Int32) : Option (Unit × k_S) := k_ob (fX7_tallNow σ x2) fun r1 σ2 => k_gd (x1) 5 (k_bn (k_sa σ2 14 (x1) (r1)) fun σ3 => k_ob (fX7_placeOf σ3 x1) fun r4 σ5 => k_bn (r4) fun v6 => (if σ5.1 9 = (k_ng 9) then fX7_offer_c55 σ5 x1 x2 v6 else (if v6 < σ5.1 10 then fX7_offer_c55 σ5 x1 x2 v6 else (if v6 = σ5.1 10 then k_gd (x1) 5 ((if σ5.2 14 (Int32.toNatClampNeg (x1)) < σ5.1 11 then fX7_offer_c55 σ5 x1 x2 v6 else fX7_offer_c59 σ5 x1 x2 v6)) else fX7_offer_c59 σ5 x1 x2 v6))))
set_option maxRecDepth 100000 in
set_option maxHeartbeats 4000000 in
theorem kX7_offer {D : va_G} {cI : ClassId} {q : Nat → Nat} {σ : k_S} {x1 x2 : Int32} {r : Unit} {τ : k_S} (h : fX7_offer σ x1 x2 = some (r, τ)) : k_Ct k_ev yX7_offer cX7_offer 5 none rmX7_offer (cM cI q) D cI [.ref (q 0), .int x1, .int x2] σ r τ := by
  refine k_met (Y := YX7_offer) (cM_same _ _) (by decide) rfl (Nat.le_of_ble_eq_true rfl) (List.forall_mem_cons.mpr ⟨rfl, List.forall_mem_cons.mpr ⟨rfl, List.forall_mem_cons.mpr ⟨rfl, fun _ h => absurd h List.not_mem_nil⟩⟩⟩) (fun X hD hI => ?_) h
  subst hD hI
  show KO X YX7_offer (cM (k_I X) q) 0 0 (k_Q k_ev X (cM (k_I X) q)) 0 [some (.ref (q 0)), some (.int x1), some (.int x2), none, none] [] σ _
  unfold fX7_offer
  refine k_aload_n (pc := 0) dX7_offer_0 rfl ?_
  refine k_gMX7_tall (pc := 1) kwf_X7_52 rfl dX7_offer_1 ?_
  refine k_iload_n (pc := 4) dX7_offer_4 rfl ?_
  refine k_aload_n (pc := 5) dX7_offer_5 rfl ?_
  refine k_iload_n (pc := 6) dX7_offer_6 rfl ?_
  refine k_vi1 (pc := 7) (cM_same _ _) ckX7_tallNow kwm_X7_142 cM_rv0 ⟨rfl, rfl⟩ ⟨Nat.le_of_ble_eq_true rfl, Nat.le_of_ble_eq_true rfl⟩ ⟨Nat.zero_le _, Nat.zero_le _⟩ (Nat.le_of_ble_eq_true rfl) dX7_offer_7 (fun _ _ hf => kX7_tallNow hf) (fun r1 σ2 => ?_)
  refine k_sM15 (pc := 10) dX7_offer_10 (fun σ3 => ?_)
  refine k_aload_n (pc := 11) dX7_offer_11 rfl ?_
  refine k_iload_n (pc := 12) dX7_offer_12 rfl ?_
  refine k_vi1 (pc := 13) (cM_same _ _) ckX7_placeOf kwm_X7_148 cM_rv0 ⟨rfl, rfl⟩ ⟨Nat.le_of_ble_eq_true rfl, Nat.le_of_ble_eq_true rfl⟩ ⟨Nat.zero_le _, Nat.zero_le _⟩ (Nat.le_of_ble_eq_true rfl) dX7_offer_13 (fun _ _ hf => kX7_placeOf hf) (fun r4 σ5 => ?_)
  refine k_ist3 (pc := 16) dX7_offer_16 (Nat.le_of_ble_eq_true rfl) (fun v6 => ?_)
  refine k_aload_n (pc := 17) dX7_offer_17 rfl ?_
  refine k_gMX7_bestTale (pc := 18) kwf_X7_168 rfl dX7_offer_18 ?_
  refine k_bipush (pc := 21) (v := (k_ng 9)) dX7_offer_21 (by decide) ?_
  refine k_icmp_eq (pc := 23) 55 dX7_offer_23 (by decide) ?_ ?_
  · exact kX7_offer_c55 σ5 x1 x2 v6
  · refine k_iload_n (pc := 26) dX7_offer_26 rfl ?_
    refine k_aload_n (pc := 27) dX7_offer_27 rfl ?_
    refine k_gMX7_bestPlace (pc := 28) kwf_X7_171 rfl dX7_offer_28 ?_
    refine k_icmp_lt (pc := 31) 55 dX7_offer_31 (by decide) ?_ ?_
    · exact kX7_offer_c55 σ5 x1 x2 v6
    · refine k_iload_n (pc := 34) dX7_offer_34 rfl ?_
      refine k_aload_n (pc := 35) dX7_offer_35 rfl ?_
      refine k_gMX7_bestPlace (pc := 36) kwf_X7_171 rfl dX7_offer_36 ?_
      refine k_icmp_ne (pc := 39) 59 dX7_offer_39 (by decide) ?_ ?_
      · exact kX7_offer_c59 σ5 x1 x2 v6
      · refine k_aload_n (pc := 42) dX7_offer_42 rfl ?_
        refine k_gMX7_tall (pc := 43) kwf_X7_52 rfl dX7_offer_43 ?_
        refine k_iload_n (pc := 46) dX7_offer_46 rfl ?_
        refine k_lM15 (pc := 47) dX7_offer_47 ?_
        refine k_aload_n (pc := 48) dX7_offer_48 rfl ?_
        refine k_gMX7_bestTall (pc := 49) kwf_X7_174 rfl dX7_offer_49 ?_
        refine k_icmp_ge (pc := 52) 59 dX7_offer_52 (by decide) ?_ ?_
        · exact kX7_offer_c59 σ5 x1 x2 v6
        · exact kX7_offer_c55 σ5 x1 x2 v6
-- TallTalesModel.found(I)I
theorem ckX7_found : k_Vok yX7_found cX7_found 2 (some .int) 1 := ⟨kwk_X7_found, kwi_X7_found, kwv_X7_found, kwn_X7, by decide, by decide +kernel⟩
abbrev rmX7_found : Room := { frames := 0, cells := 0, slots := 0, locals := 0 }
abbrev YX7_found : k_Y := (rmX7_found, cX7_found, 2, RX7, (some .int))
noncomputable def fX7_found_c13 (σ : k_S) : Option (Int32 × k_S) := some (σ.1 9, σ)
set_option maxRecDepth 100000 in
set_option maxHeartbeats 4000000 in
theorem kX7_found_c13 {X : k_C} {q : Nat → Nat} (σ : k_S) : KO X YX7_found (cM (k_I X) q) 0 0 (k_Q k_ei X (cM (k_I X) q)) 13 [some (.ref (q 0)), none] [] σ (fX7_found_c13 σ) := by
  unfold fX7_found_c13
  refine k_aload_n (pc := 13) dX7_found_13 rfl ?_
  refine k_gMX7_bestTale (pc := 14) kwf_X7_168 rfl dX7_found_14 ?_
  refine k_goto (pc := 17) 24 dX7_found_17 (by decide) ?_
  exact k_ireturn (pc := 24) rfl dX7_found_24
noncomputable def fX7_found (σ : k_S) (x1 : Int32) : Option (Int32 × k_S) := (if x1 = 0 then fX7_found_c13 σ else (if σ.1 9 = (k_ng 9) then fX7_found_c13 σ else some (σ.1 10, σ)))
set_option maxRecDepth 100000 in
set_option maxHeartbeats 4000000 in
theorem kX7_found {D : va_G} {cI : ClassId} {q : Nat → Nat} {σ : k_S} {x1 : Int32} {r : Int32} {τ : k_S} (h : fX7_found σ x1 = some (r, τ)) : k_Ct k_ei yX7_found cX7_found 2 (some .int) rmX7_found (cM cI q) D cI [.ref (q 0), .int x1] σ r τ := by
  refine k_met (Y := YX7_found) (cM_same _ _) (by decide) rfl (Nat.le_of_ble_eq_true rfl) (List.forall_mem_cons.mpr ⟨rfl, List.forall_mem_cons.mpr ⟨rfl, fun _ h => absurd h List.not_mem_nil⟩⟩) (fun X hD hI => ?_) h
  subst hD hI
  show KO X YX7_found (cM (k_I X) q) 0 0 (k_Q k_ei X (cM (k_I X) q)) 0 [some (.ref (q 0)), some (.int x1)] [] σ _
  unfold fX7_found
  refine k_iload_n (pc := 0) dX7_found_0 rfl ?_
  refine k_if_eq (pc := 1) 13 dX7_found_1 (by decide) ?_ ?_
  · refine k_fg1 ?_
    exact kX7_found_c13 σ
  · refine k_aload_n (pc := 4) dX7_found_4 rfl ?_
    refine k_gMX7_bestTale (pc := 5) kwf_X7_168 rfl dX7_found_5 ?_
    refine k_bipush (pc := 8) (v := (k_ng 9)) dX7_found_8 (by decide) ?_
    refine k_icmp_ne (pc := 10) 20 dX7_found_10 (by decide) ?_ ?_
    · refine k_aload_n (pc := 20) dX7_found_20 rfl ?_
      refine k_gMX7_bestPlace (pc := 21) kwf_X7_171 rfl dX7_found_21 ?_
      exact k_ireturn (pc := 24) rfl dX7_found_24
    · refine k_fg1 ?_
      exact kX7_found_c13 σ
-- TallTalesModel.answer(II)I
theorem ckX7_answer : k_Vok yX7_answer cX7_answer 4 (some .int) 2 := ⟨kwk_X7_answer, kwi_X7_answer, kwv_X7_answer, kwn_X7, by decide, by decide +kernel⟩
abbrev rmX7_answer : Room := { frames := 3, cells := 0, slots := 0, locals := 67 }
abbrev YX7_answer : k_Y := (rmX7_answer, cX7_answer, 4, RX7, (some .int))
noncomputable def fX7_answer_c66 (kh34 : k_S → Int32 → Int32 → Int32 → Option (Int32 × k_S)) (σ : k_S) (l1 l2 l3 : Int32) : Option (Int32 × k_S) := k_bn (l3 + (nI 1)) fun v1 => kh34 σ l1 l2 v1
set_option maxRecDepth 100000 in
set_option maxHeartbeats 4000000 in
theorem kX7_answer_c66 {X : k_C} {q : Nat → Nat} (kh34 : k_S → Int32 → Int32 → Int32 → Option (Int32 × k_S)) (hk34 : ∀ (σ : k_S) (l1 l2 l3 : Int32), KO X YX7_answer (cM (k_I X) q) 0 0 (k_Q k_ei X (cM (k_I X) q)) 34 [some (.ref (q 0)), some (.int l1), some (.int l2), some (.int l3)] [] σ (kh34 σ l1 l2 l3)) (σ : k_S) (l1 l2 l3 : Int32) : KO X YX7_answer (cM (k_I X) q) 0 0 (k_Q k_ei X (cM (k_I X) q)) 66 [some (.ref (q 0)), some (.int l1), some (.int l2), some (.int l3)] [] σ (fX7_answer_c66 kh34 σ l1 l2 l3) := by
  unfold fX7_answer_c66
  refine k_iinc3 (pc := 66) (w := (nI 1)) dX7_answer_66 rfl (by decide) (Nat.le_of_ble_eq_true rfl) (fun v1 => ?_)
  refine k_goto (pc := 69) 34 dX7_answer_69 (by decide) ?_
  exact hk34 σ l1 l2 v1
noncomputable def fX7_answer_c34 : Nat → k_S → Int32 → Int32 → Int32 → Option (Int32 × k_S)
  | 0, _, _, _, _ => none
  | n + 1, σ, l1, l2, l3 => (if l3 < σ.1 3 then k_gd (l3) 10 ((if σ.2 4 (Int32.toNatClampNeg (l3)) = l1 then k_ob (fX7_mayNow σ l3) fun r3 σ4 => (if r3 = 0 then fX7_answer_c66 (fX7_answer_c34 n) σ4 l1 l2 l3 else k_ob (fX7_offer σ4 l1 l3) fun r5 σ6 => fX7_answer_c66 (fX7_answer_c34 n) σ6 l1 l2 l3) else fX7_answer_c66 (fX7_answer_c34 n) σ l1 l2 l3)) else k_ob (fX7_found σ l2) fun r1 σ2 => some (r1, σ2))
theorem fX7_answer_c34_s (n : Nat) (σ : k_S) (l1 l2 l3 : Int32) : fX7_answer_c34 (n + 1) σ l1 l2 l3 = (if l3 < σ.1 3 then k_gd (l3) 10 ((if σ.2 4 (Int32.toNatClampNeg (l3)) = l1 then k_ob (fX7_mayNow σ l3) fun r3 σ4 => (if r3 = 0 then fX7_answer_c66 (fX7_answer_c34 n) σ4 l1 l2 l3 else k_ob (fX7_offer σ4 l1 l3) fun r5 σ6 => fX7_answer_c66 (fX7_answer_c34 n) σ6 l1 l2 l3) else fX7_answer_c66 (fX7_answer_c34 n) σ l1 l2 l3)) else k_ob (fX7_found σ l2) fun r1 σ2 => some (r1, σ2)) := rfl
set_option maxRecDepth 100000 in
set_option maxHeartbeats 4000000 in
theorem kX7_answer_c34 {X : k_C} {q : Nat → Nat} : ∀ (n : Nat) (σ : k_S) (l1 l2 l3 : Int32), KO X YX7_answer (cM (k_I X) q) 0 0 (k_Q k_ei X (cM (k_I X) q)) 34 [some (.ref (q 0)), some (.int l1), some (.int l2), some (.int l3)] [] σ (fX7_answer_c34 n σ l1 l2 l3) := by
  intro n
  induction n with
  | zero => intros; exact KO.nil
  | succ n ih =>
    intro σ l1 l2 l3
    rw [fX7_answer_c34_s]
    refine k_iload_n (pc := 34) dX7_answer_34 rfl ?_
    refine k_aload_n (pc := 35) dX7_answer_35 rfl ?_
    refine k_gMX7_tales (pc := 36) kwf_X7_80 rfl dX7_answer_36 ?_
    refine k_icmp_ge (pc := 39) 72 dX7_answer_39 (by decide) ?_ ?_
    · refine k_aload_n (pc := 72) dX7_answer_72 rfl ?_
      refine k_iload_n (pc := 73) dX7_answer_73 rfl ?_
      refine k_vi1 (pc := 74) (cM_same _ _) ckX7_found kwm_X7_181 cM_rv0 ⟨rfl, rfl⟩ ⟨Nat.le_of_ble_eq_true rfl, Nat.le_of_ble_eq_true rfl⟩ ⟨Nat.zero_le _, Nat.zero_le _⟩ (Nat.le_of_ble_eq_true rfl) dX7_answer_74 (fun _ _ hf => kX7_found hf) (fun r1 σ2 => ?_)
      exact k_ireturn (pc := 77) rfl dX7_answer_77
    · refine k_aload_n (pc := 42) dX7_answer_42 rfl ?_
      refine k_gMX7_whose (pc := 43) kwf_X7_22 rfl dX7_answer_43 ?_
      refine k_iload_n (pc := 46) dX7_answer_46 rfl ?_
      refine k_lM5 (pc := 47) dX7_answer_47 ?_
      refine k_iload_n (pc := 48) dX7_answer_48 rfl ?_
      refine k_icmp_ne (pc := 49) 66 dX7_answer_49 (by decide) ?_ ?_
      · exact kX7_answer_c66 (fX7_answer_c34 n) ih σ l1 l2 l3
      · refine k_aload_n (pc := 52) dX7_answer_52 rfl ?_
        refine k_iload_n (pc := 53) dX7_answer_53 rfl ?_
        refine k_vi1 (pc := 54) (cM_same _ _) ckX7_mayNow kwm_X7_139 cM_rv0 ⟨rfl, rfl⟩ ⟨Nat.le_of_ble_eq_true rfl, Nat.le_of_ble_eq_true rfl⟩ ⟨Nat.zero_le _, Nat.zero_le _⟩ (Nat.le_of_ble_eq_true rfl) dX7_answer_54 (fun _ _ hf => kX7_mayNow hf) (fun r3 σ4 => ?_)
        refine k_if_eq (pc := 57) 66 dX7_answer_57 (by decide) ?_ ?_
        · exact kX7_answer_c66 (fX7_answer_c34 n) ih σ4 l1 l2 l3
        · refine k_aload_n (pc := 60) dX7_answer_60 rfl ?_
          refine k_iload_n (pc := 61) dX7_answer_61 rfl ?_
          refine k_iload_n (pc := 62) dX7_answer_62 rfl ?_
          refine k_vv2 (pc := 63) (cM_same _ _) ckX7_offer kwm_X7_177 cM_rv0 ⟨rfl, rfl⟩ ⟨Nat.le_of_ble_eq_true rfl, Nat.le_of_ble_eq_true rfl⟩ ⟨Nat.zero_le _, Nat.zero_le _⟩ (Nat.le_of_ble_eq_true rfl) dX7_answer_63 (fun _ _ hf => kX7_offer hf) (fun r5 σ6 => ?_)
          exact kX7_answer_c66 (fX7_answer_c34 n) ih σ6 l1 l2 l3
noncomputable def fX7_answer (σ : k_S) (x1 x2 : Int32) : Option (Int32 × k_S) := k_ob (fX7_isGuest σ x1) fun r1 σ2 => (if r1 = 0 then some ((k_ng 1), σ2) else k_ob (fX7_within σ2 x2 ((nI 0)) ((nI 1))) fun r3 σ4 => (if r3 = 0 then some ((k_ng 2), σ4) else k_ob (fX7_layTall σ4) fun r5 σ6 => k_bn (k_sf σ6 9 ((k_ng 9))) fun σ7 => k_bn ((nI 0)) fun v8 => fX7_answer_c34 k_F σ7 x1 x2 v8))
set_option maxRecDepth 100000 in
set_option maxHeartbeats 4000000 in
theorem kX7_answer {D : va_G} {cI : ClassId} {q : Nat → Nat} {σ : k_S} {x1 x2 : Int32} {r : Int32} {τ : k_S} (h : fX7_answer σ x1 x2 = some (r, τ)) : k_Ct k_ei yX7_answer cX7_answer 4 (some .int) rmX7_answer (cM cI q) D cI [.ref (q 0), .int x1, .int x2] σ r τ := by
  refine k_met (Y := YX7_answer) (cM_same _ _) (by decide) rfl (Nat.le_of_ble_eq_true rfl) (List.forall_mem_cons.mpr ⟨rfl, List.forall_mem_cons.mpr ⟨rfl, List.forall_mem_cons.mpr ⟨rfl, fun _ h => absurd h List.not_mem_nil⟩⟩⟩) (fun X hD hI => ?_) h
  subst hD hI
  show KO X YX7_answer (cM (k_I X) q) 0 0 (k_Q k_ei X (cM (k_I X) q)) 0 [some (.ref (q 0)), some (.int x1), some (.int x2), none] [] σ _
  unfold fX7_answer
  refine k_aload_n (pc := 0) dX7_answer_0 rfl ?_
  refine k_iload_n (pc := 1) dX7_answer_1 rfl ?_
  refine k_vi1 (pc := 2) (cM_same _ _) ckX7_isGuest kwm_X7_145 cM_rv0 ⟨rfl, rfl⟩ ⟨Nat.le_of_ble_eq_true rfl, Nat.le_of_ble_eq_true rfl⟩ ⟨Nat.zero_le _, Nat.zero_le _⟩ (Nat.le_of_ble_eq_true rfl) dX7_answer_2 (fun _ _ hf => kX7_isGuest hf) (fun r1 σ2 => ?_)
  refine k_if_ne (pc := 5) 10 dX7_answer_5 (by decide) ?_ ?_
  · refine k_iload_n (pc := 10) dX7_answer_10 rfl ?_
    refine k_iconst (pc := 11) (v := (nI 0)) dX7_answer_11 (by decide) ?_
    refine k_iconst (pc := 12) (v := (nI 1)) dX7_answer_12 (by decide) ?_
    refine k_si3 (pc := 13) (cM_same _ _) ckX7_within kwm_X7_73 ⟨rfl, rfl⟩ ⟨Nat.le_of_ble_eq_true rfl, Nat.le_of_ble_eq_true rfl⟩ ⟨Nat.zero_le _, Nat.zero_le _⟩ (Nat.le_of_ble_eq_true rfl) dX7_answer_13 (fun _ _ hf => kX7_within hf) (fun r3 σ4 => ?_)
    refine k_if_ne (pc := 16) 22 dX7_answer_16 (by decide) ?_ ?_
    · refine k_aload_n (pc := 22) dX7_answer_22 rfl ?_
      refine k_vv0 (pc := 23) (cM_same _ _) ckX7_layTall kwm_X7_151 cM_rv0 ⟨rfl, rfl⟩ ⟨Nat.le_of_ble_eq_true rfl, Nat.le_of_ble_eq_true rfl⟩ ⟨Nat.zero_le _, Nat.zero_le _⟩ (Nat.le_of_ble_eq_true rfl) dX7_answer_23 (fun _ _ hf => kX7_layTall hf) (fun r5 σ6 => ?_)
      refine k_aload_n (pc := 26) dX7_answer_26 rfl ?_
      refine k_bipush (pc := 27) (v := (k_ng 9)) dX7_answer_27 (by decide) ?_
      refine k_pMX7_bestTale (pc := 29) kwf_X7_168 rfl dX7_answer_29 (fun σ7 => ?_)
      refine k_iconst (pc := 32) (v := (nI 0)) dX7_answer_32 (by decide) ?_
      refine k_ist3 (pc := 33) dX7_answer_33 (Nat.le_of_ble_eq_true rfl) (fun v8 => ?_)
      exact kX7_answer_c34 k_F σ7 x1 x2 v8
    · refine k_bipush (pc := 19) (v := (k_ng 2)) dX7_answer_19 (by decide) ?_
      exact k_ireturn (pc := 21) rfl dX7_answer_21
  · refine k_iconst (pc := 8) (v := (k_ng 1)) dX7_answer_8 (by decide) ?_
    exact k_ireturn (pc := 9) rfl dX7_answer_9
-- TallTalesModel.isChosen(I)Z
theorem ckX7_isChosen : k_Vok yX7_isChosen cX7_isChosen 3 (some .boolean) 1 := ⟨kwk_X7_isChosen, kwi_X7_isChosen, kwv_X7_isChosen, kwn_X7, by decide, by decide +kernel⟩
abbrev rmX7_isChosen : Room := { frames := 0, cells := 0, slots := 0, locals := 0 }
abbrev YX7_isChosen : k_Y := (rmX7_isChosen, cX7_isChosen, 3, RX7, (some .boolean))
noncomputable def fX7_isChosen_c2 : Nat → k_S → Int32 → Int32 → Option (Int32 × k_S)
  | 0, _, _, _ => none
  | n + 1, σ, l1, l2 => (if l2 < σ.1 2 then k_gd (l2) 5 ((if σ.2 11 (Int32.toNatClampNeg (l2)) = l1 then k_z ((nI 1)) (some ((nI 1), σ)) else k_bn (l2 + (nI 1)) fun v1 => fX7_isChosen_c2 n σ l1 v1)) else k_z ((nI 0)) (some ((nI 0), σ)))
theorem fX7_isChosen_c2_s (n : Nat) (σ : k_S) (l1 l2 : Int32) : fX7_isChosen_c2 (n + 1) σ l1 l2 = (if l2 < σ.1 2 then k_gd (l2) 5 ((if σ.2 11 (Int32.toNatClampNeg (l2)) = l1 then k_z ((nI 1)) (some ((nI 1), σ)) else k_bn (l2 + (nI 1)) fun v1 => fX7_isChosen_c2 n σ l1 v1)) else k_z ((nI 0)) (some ((nI 0), σ))) := rfl
set_option maxRecDepth 100000 in
set_option maxHeartbeats 4000000 in
theorem kX7_isChosen_c2 {X : k_C} {q : Nat → Nat} : ∀ (n : Nat) (σ : k_S) (l1 l2 : Int32), KO X YX7_isChosen (cM (k_I X) q) 0 0 (k_Q k_ei X (cM (k_I X) q)) 2 [some (.ref (q 0)), some (.int l1), some (.int l2)] [] σ (fX7_isChosen_c2 n σ l1 l2) := by
  intro n
  induction n with
  | zero => intros; exact KO.nil
  | succ n ih =>
    intro σ l1 l2
    rw [fX7_isChosen_c2_s]
    refine k_iload_n (pc := 2) dX7_isChosen_2 rfl ?_
    refine k_aload_n (pc := 3) dX7_isChosen_3 rfl ?_
    refine k_gMX7_guests (pc := 4) kwf_X7_77 rfl dX7_isChosen_4 ?_
    refine k_icmp_ge (pc := 7) 28 dX7_isChosen_7 (by decide) ?_ ?_
    · refine k_iconst (pc := 28) (v := (nI 0)) dX7_isChosen_28 (by decide) ?_
      exact k_zreturn (pc := 29) rfl dX7_isChosen_29
    · refine k_aload_n (pc := 10) dX7_isChosen_10 rfl ?_
      refine k_gMX7_chosen (pc := 11) kwf_X7_43 rfl dX7_isChosen_11 ?_
      refine k_iload_n (pc := 14) dX7_isChosen_14 rfl ?_
      refine k_lM12 (pc := 15) dX7_isChosen_15 ?_
      refine k_iload_n (pc := 16) dX7_isChosen_16 rfl ?_
      refine k_icmp_ne (pc := 17) 22 dX7_isChosen_17 (by decide) ?_ ?_
      · refine k_iinc2 (pc := 22) (w := (nI 1)) dX7_isChosen_22 rfl (by decide) (Nat.le_of_ble_eq_true rfl) (fun v1 => ?_)
        refine k_goto (pc := 25) 2 dX7_isChosen_25 (by decide) ?_
        exact ih σ l1 v1
      · refine k_iconst (pc := 20) (v := (nI 1)) dX7_isChosen_20 (by decide) ?_
        exact k_zreturn (pc := 21) rfl dX7_isChosen_21
noncomputable def fX7_isChosen (σ : k_S) (x1 : Int32) : Option (Int32 × k_S) := k_bn ((nI 0)) fun v1 => fX7_isChosen_c2 k_F σ x1 v1
set_option maxRecDepth 100000 in
set_option maxHeartbeats 4000000 in
theorem kX7_isChosen {D : va_G} {cI : ClassId} {q : Nat → Nat} {σ : k_S} {x1 : Int32} {r : Int32} {τ : k_S} (h : fX7_isChosen σ x1 = some (r, τ)) : k_Ct k_ei yX7_isChosen cX7_isChosen 3 (some .boolean) rmX7_isChosen (cM cI q) D cI [.ref (q 0), .int x1] σ r τ := by
  refine k_met (Y := YX7_isChosen) (cM_same _ _) (by decide) rfl (Nat.le_of_ble_eq_true rfl) (List.forall_mem_cons.mpr ⟨rfl, List.forall_mem_cons.mpr ⟨rfl, fun _ h => absurd h List.not_mem_nil⟩⟩) (fun X hD hI => ?_) h
  subst hD hI
  show KO X YX7_isChosen (cM (k_I X) q) 0 0 (k_Q k_ei X (cM (k_I X) q)) 0 [some (.ref (q 0)), some (.int x1), none] [] σ _
  unfold fX7_isChosen
  refine k_iconst (pc := 0) (v := (nI 0)) dX7_isChosen_0 (by decide) ?_
  refine k_ist2 (pc := 1) dX7_isChosen_1 (Nat.le_of_ble_eq_true rfl) (fun v1 => ?_)
  exact kX7_isChosen_c2 k_F σ x1 v1
-- TallTalesModel.borrowed(II)I
theorem ckX7_borrowed : k_Vok yX7_borrowed cX7_borrowed 4 (some .int) 2 := ⟨kwk_X7_borrowed, kwi_X7_borrowed, kwv_X7_borrowed, kwn_X7, by decide, by decide +kernel⟩
abbrev rmX7_borrowed : Room := { frames := 3, cells := 0, slots := 0, locals := 67 }
abbrev YX7_borrowed : k_Y := (rmX7_borrowed, cX7_borrowed, 4, RX7, (some .int))
noncomputable def fX7_borrowed_c74 (kh34 : k_S → Int32 → Int32 → Int32 → Option (Int32 × k_S)) (σ : k_S) (l1 l2 l3 : Int32) : Option (Int32 × k_S) := k_bn (l3 + (nI 1)) fun v1 => kh34 σ l1 l2 v1
set_option maxRecDepth 100000 in
set_option maxHeartbeats 4000000 in
theorem kX7_borrowed_c74 {X : k_C} {q : Nat → Nat} (kh34 : k_S → Int32 → Int32 → Int32 → Option (Int32 × k_S)) (hk34 : ∀ (σ : k_S) (l1 l2 l3 : Int32), KO X YX7_borrowed (cM (k_I X) q) 0 0 (k_Q k_ei X (cM (k_I X) q)) 34 [some (.ref (q 0)), some (.int l1), some (.int l2), some (.int l3)] [] σ (kh34 σ l1 l2 l3)) (σ : k_S) (l1 l2 l3 : Int32) : KO X YX7_borrowed (cM (k_I X) q) 0 0 (k_Q k_ei X (cM (k_I X) q)) 74 [some (.ref (q 0)), some (.int l1), some (.int l2), some (.int l3)] [] σ (fX7_borrowed_c74 kh34 σ l1 l2 l3) := by
  unfold fX7_borrowed_c74
  refine k_iinc3 (pc := 74) (w := (nI 1)) dX7_borrowed_74 rfl (by decide) (Nat.le_of_ble_eq_true rfl) (fun v1 => ?_)
  refine k_goto (pc := 77) 34 dX7_borrowed_77 (by decide) ?_
  exact hk34 σ l1 l2 v1
noncomputable def fX7_borrowed_c34 : Nat → k_S → Int32 → Int32 → Int32 → Option (Int32 × k_S)
  | 0, _, _, _, _ => none
  | n + 1, σ, l1, l2, l3 => (if l3 < σ.1 3 then k_gd (l3) 10 ((if σ.2 4 (Int32.toNatClampNeg (l3)) = l1 then fX7_borrowed_c74 (fX7_borrowed_c34 n) σ l1 l2 l3 else k_ob (fX7_mayNow σ l3) fun r3 σ4 => (if r3 = 0 then fX7_borrowed_c74 (fX7_borrowed_c34 n) σ4 l1 l2 l3 else k_ob (fX7_isChosen σ4 l3) fun r5 σ6 => (if r5 = 0 then k_ob (fX7_offer σ6 l1 l3) fun r7 σ8 => fX7_borrowed_c74 (fX7_borrowed_c34 n) σ8 l1 l2 l3 else fX7_borrowed_c74 (fX7_borrowed_c34 n) σ6 l1 l2 l3)))) else k_ob (fX7_found σ l2) fun r1 σ2 => some (r1, σ2))
theorem fX7_borrowed_c34_s (n : Nat) (σ : k_S) (l1 l2 l3 : Int32) : fX7_borrowed_c34 (n + 1) σ l1 l2 l3 = (if l3 < σ.1 3 then k_gd (l3) 10 ((if σ.2 4 (Int32.toNatClampNeg (l3)) = l1 then fX7_borrowed_c74 (fX7_borrowed_c34 n) σ l1 l2 l3 else k_ob (fX7_mayNow σ l3) fun r3 σ4 => (if r3 = 0 then fX7_borrowed_c74 (fX7_borrowed_c34 n) σ4 l1 l2 l3 else k_ob (fX7_isChosen σ4 l3) fun r5 σ6 => (if r5 = 0 then k_ob (fX7_offer σ6 l1 l3) fun r7 σ8 => fX7_borrowed_c74 (fX7_borrowed_c34 n) σ8 l1 l2 l3 else fX7_borrowed_c74 (fX7_borrowed_c34 n) σ6 l1 l2 l3)))) else k_ob (fX7_found σ l2) fun r1 σ2 => some (r1, σ2)) := rfl
set_option maxRecDepth 100000 in
set_option maxHeartbeats 4000000 in
theorem kX7_borrowed_c34 {X : k_C} {q : Nat → Nat} : ∀ (n : Nat) (σ : k_S) (l1 l2 l3 : Int32), KO X YX7_borrowed (cM (k_I X) q) 0 0 (k_Q k_ei X (cM (k_I X) q)) 34 [some (.ref (q 0)), some (.int l1), some (.int l2), some (.int l3)] [] σ (fX7_borrowed_c34 n σ l1 l2 l3) := by
  intro n
  induction n with
  | zero => intros; exact KO.nil
  | succ n ih =>
    intro σ l1 l2 l3
    rw [fX7_borrowed_c34_s]
    refine k_iload_n (pc := 34) dX7_borrowed_34 rfl ?_
    refine k_aload_n (pc := 35) dX7_borrowed_35 rfl ?_
    refine k_gMX7_tales (pc := 36) kwf_X7_80 rfl dX7_borrowed_36 ?_
    refine k_icmp_ge (pc := 39) 80 dX7_borrowed_39 (by decide) ?_ ?_
    · refine k_aload_n (pc := 80) dX7_borrowed_80 rfl ?_
      refine k_iload_n (pc := 81) dX7_borrowed_81 rfl ?_
      refine k_vi1 (pc := 82) (cM_same _ _) ckX7_found kwm_X7_181 cM_rv0 ⟨rfl, rfl⟩ ⟨Nat.le_of_ble_eq_true rfl, Nat.le_of_ble_eq_true rfl⟩ ⟨Nat.zero_le _, Nat.zero_le _⟩ (Nat.le_of_ble_eq_true rfl) dX7_borrowed_82 (fun _ _ hf => kX7_found hf) (fun r1 σ2 => ?_)
      exact k_ireturn (pc := 85) rfl dX7_borrowed_85
    · refine k_aload_n (pc := 42) dX7_borrowed_42 rfl ?_
      refine k_gMX7_whose (pc := 43) kwf_X7_22 rfl dX7_borrowed_43 ?_
      refine k_iload_n (pc := 46) dX7_borrowed_46 rfl ?_
      refine k_lM5 (pc := 47) dX7_borrowed_47 ?_
      refine k_iload_n (pc := 48) dX7_borrowed_48 rfl ?_
      refine k_icmp_eq (pc := 49) 74 dX7_borrowed_49 (by decide) ?_ ?_
      · exact kX7_borrowed_c74 (fX7_borrowed_c34 n) ih σ l1 l2 l3
      · refine k_aload_n (pc := 52) dX7_borrowed_52 rfl ?_
        refine k_iload_n (pc := 53) dX7_borrowed_53 rfl ?_
        refine k_vi1 (pc := 54) (cM_same _ _) ckX7_mayNow kwm_X7_139 cM_rv0 ⟨rfl, rfl⟩ ⟨Nat.le_of_ble_eq_true rfl, Nat.le_of_ble_eq_true rfl⟩ ⟨Nat.zero_le _, Nat.zero_le _⟩ (Nat.le_of_ble_eq_true rfl) dX7_borrowed_54 (fun _ _ hf => kX7_mayNow hf) (fun r3 σ4 => ?_)
        refine k_if_eq (pc := 57) 74 dX7_borrowed_57 (by decide) ?_ ?_
        · exact kX7_borrowed_c74 (fX7_borrowed_c34 n) ih σ4 l1 l2 l3
        · refine k_aload_n (pc := 60) dX7_borrowed_60 rfl ?_
          refine k_iload_n (pc := 61) dX7_borrowed_61 rfl ?_
          refine k_vi1 (pc := 62) (cM_same _ _) ckX7_isChosen kwm_X7_184 cM_rv0 ⟨rfl, rfl⟩ ⟨Nat.le_of_ble_eq_true rfl, Nat.le_of_ble_eq_true rfl⟩ ⟨Nat.zero_le _, Nat.zero_le _⟩ (Nat.le_of_ble_eq_true rfl) dX7_borrowed_62 (fun _ _ hf => kX7_isChosen hf) (fun r5 σ6 => ?_)
          refine k_if_ne (pc := 65) 74 dX7_borrowed_65 (by decide) ?_ ?_
          · exact kX7_borrowed_c74 (fX7_borrowed_c34 n) ih σ6 l1 l2 l3
          · refine k_aload_n (pc := 68) dX7_borrowed_68 rfl ?_
            refine k_iload_n (pc := 69) dX7_borrowed_69 rfl ?_
            refine k_iload_n (pc := 70) dX7_borrowed_70 rfl ?_
            refine k_vv2 (pc := 71) (cM_same _ _) ckX7_offer kwm_X7_177 cM_rv0 ⟨rfl, rfl⟩ ⟨Nat.le_of_ble_eq_true rfl, Nat.le_of_ble_eq_true rfl⟩ ⟨Nat.zero_le _, Nat.zero_le _⟩ (Nat.le_of_ble_eq_true rfl) dX7_borrowed_71 (fun _ _ hf => kX7_offer hf) (fun r7 σ8 => ?_)
            exact kX7_borrowed_c74 (fX7_borrowed_c34 n) ih σ8 l1 l2 l3
noncomputable def fX7_borrowed (σ : k_S) (x1 x2 : Int32) : Option (Int32 × k_S) := k_ob (fX7_isGuest σ x1) fun r1 σ2 => (if r1 = 0 then some ((k_ng 1), σ2) else k_ob (fX7_within σ2 x2 ((nI 0)) ((nI 1))) fun r3 σ4 => (if r3 = 0 then some ((k_ng 2), σ4) else k_ob (fX7_layTall σ4) fun r5 σ6 => k_bn (k_sf σ6 9 ((k_ng 9))) fun σ7 => k_bn ((nI 0)) fun v8 => fX7_borrowed_c34 k_F σ7 x1 x2 v8))
set_option maxRecDepth 100000 in
set_option maxHeartbeats 4000000 in
theorem kX7_borrowed {D : va_G} {cI : ClassId} {q : Nat → Nat} {σ : k_S} {x1 x2 : Int32} {r : Int32} {τ : k_S} (h : fX7_borrowed σ x1 x2 = some (r, τ)) : k_Ct k_ei yX7_borrowed cX7_borrowed 4 (some .int) rmX7_borrowed (cM cI q) D cI [.ref (q 0), .int x1, .int x2] σ r τ := by
  refine k_met (Y := YX7_borrowed) (cM_same _ _) (by decide) rfl (Nat.le_of_ble_eq_true rfl) (List.forall_mem_cons.mpr ⟨rfl, List.forall_mem_cons.mpr ⟨rfl, List.forall_mem_cons.mpr ⟨rfl, fun _ h => absurd h List.not_mem_nil⟩⟩⟩) (fun X hD hI => ?_) h
  subst hD hI
  show KO X YX7_borrowed (cM (k_I X) q) 0 0 (k_Q k_ei X (cM (k_I X) q)) 0 [some (.ref (q 0)), some (.int x1), some (.int x2), none] [] σ _
  unfold fX7_borrowed
  refine k_aload_n (pc := 0) dX7_borrowed_0 rfl ?_
  refine k_iload_n (pc := 1) dX7_borrowed_1 rfl ?_
  refine k_vi1 (pc := 2) (cM_same _ _) ckX7_isGuest kwm_X7_145 cM_rv0 ⟨rfl, rfl⟩ ⟨Nat.le_of_ble_eq_true rfl, Nat.le_of_ble_eq_true rfl⟩ ⟨Nat.zero_le _, Nat.zero_le _⟩ (Nat.le_of_ble_eq_true rfl) dX7_borrowed_2 (fun _ _ hf => kX7_isGuest hf) (fun r1 σ2 => ?_)
  refine k_if_ne (pc := 5) 10 dX7_borrowed_5 (by decide) ?_ ?_
  · refine k_iload_n (pc := 10) dX7_borrowed_10 rfl ?_
    refine k_iconst (pc := 11) (v := (nI 0)) dX7_borrowed_11 (by decide) ?_
    refine k_iconst (pc := 12) (v := (nI 1)) dX7_borrowed_12 (by decide) ?_
    refine k_si3 (pc := 13) (cM_same _ _) ckX7_within kwm_X7_73 ⟨rfl, rfl⟩ ⟨Nat.le_of_ble_eq_true rfl, Nat.le_of_ble_eq_true rfl⟩ ⟨Nat.zero_le _, Nat.zero_le _⟩ (Nat.le_of_ble_eq_true rfl) dX7_borrowed_13 (fun _ _ hf => kX7_within hf) (fun r3 σ4 => ?_)
    refine k_if_ne (pc := 16) 22 dX7_borrowed_16 (by decide) ?_ ?_
    · refine k_aload_n (pc := 22) dX7_borrowed_22 rfl ?_
      refine k_vv0 (pc := 23) (cM_same _ _) ckX7_layTall kwm_X7_151 cM_rv0 ⟨rfl, rfl⟩ ⟨Nat.le_of_ble_eq_true rfl, Nat.le_of_ble_eq_true rfl⟩ ⟨Nat.zero_le _, Nat.zero_le _⟩ (Nat.le_of_ble_eq_true rfl) dX7_borrowed_23 (fun _ _ hf => kX7_layTall hf) (fun r5 σ6 => ?_)
      refine k_aload_n (pc := 26) dX7_borrowed_26 rfl ?_
      refine k_bipush (pc := 27) (v := (k_ng 9)) dX7_borrowed_27 (by decide) ?_
      refine k_pMX7_bestTale (pc := 29) kwf_X7_168 rfl dX7_borrowed_29 (fun σ7 => ?_)
      refine k_iconst (pc := 32) (v := (nI 0)) dX7_borrowed_32 (by decide) ?_
      refine k_ist3 (pc := 33) dX7_borrowed_33 (Nat.le_of_ble_eq_true rfl) (fun v8 => ?_)
      exact kX7_borrowed_c34 k_F σ7 x1 x2 v8
    · refine k_bipush (pc := 19) (v := (k_ng 2)) dX7_borrowed_19 (by decide) ?_
      exact k_ireturn (pc := 21) rfl dX7_borrowed_21
  · refine k_iconst (pc := 8) (v := (k_ng 1)) dX7_borrowed_8 (by decide) ?_
    exact k_ireturn (pc := 9) rfl dX7_borrowed_9
-- TallTalesModel.bishop(I)I
theorem ckX7_bishop : k_Vok yX7_bishop cX7_bishop 4 (some .int) 1 := ⟨kwk_X7_bishop, kwi_X7_bishop, kwv_X7_bishop, kwn_X7, by decide, by decide +kernel⟩
abbrev rmX7_bishop : Room := { frames := 3, cells := 0, slots := 0, locals := 64 }
abbrev YX7_bishop : k_Y := (rmX7_bishop, cX7_bishop, 4, RX7, (some .int))
noncomputable def fX7_bishop_c67 (kh32 : k_S → Int32 → Int32 → Int32 → Option (Int32 × k_S)) (σ : k_S) (l1 l3 s0 s1 : Int32) : Option (Int32 × k_S) := k_bn ((s0 + s1)) fun v1 => k_bn (l3 + (nI 1)) fun v2 => kh32 σ l1 v1 v2
set_option maxRecDepth 100000 in
set_option maxHeartbeats 4000000 in
theorem kX7_bishop_c67 {X : k_C} {q : Nat → Nat} (kh32 : k_S → Int32 → Int32 → Int32 → Option (Int32 × k_S)) (hk32 : ∀ (σ : k_S) (l1 l2 l3 : Int32), KO X YX7_bishop (cM (k_I X) q) 0 0 (k_Q k_ei X (cM (k_I X) q)) 32 [some (.ref (q 0)), some (.int l1), some (.int l2), some (.int l3)] [] σ (kh32 σ l1 l2 l3)) (σ : k_S) (l1 l3 s0 s1 : Int32) : KO X YX7_bishop (cM (k_I X) q) 0 0 (k_Q k_ei X (cM (k_I X) q)) 67 [some (.ref (q 0)), some (.int l1), none, some (.int l3)] [.int s1, .int s0] σ (fX7_bishop_c67 kh32 σ l1 l3 s0 s1) := by
  unfold fX7_bishop_c67
  refine k_iadd (pc := 67) dX7_bishop_67 ?_
  refine k_ist2 (pc := 68) dX7_bishop_68 (Nat.le_of_ble_eq_true rfl) (fun v1 => ?_)
  refine k_iinc3 (pc := 69) (w := (nI 1)) dX7_bishop_69 rfl (by decide) (Nat.le_of_ble_eq_true rfl) (fun v2 => ?_)
  refine k_goto (pc := 72) 32 dX7_bishop_72 (by decide) ?_
  exact hk32 σ l1 v1 v2
noncomputable def fX7_bishop_c66 (kh32 : k_S → Int32 → Int32 → Int32 → Option (Int32 × k_S)) (σ : k_S) (l1 l3 s0 : Int32) : Option (Int32 × k_S) := fX7_bishop_c67 kh32 σ l1 l3 s0 ((nI 0))
set_option maxRecDepth 100000 in
set_option maxHeartbeats 4000000 in
theorem kX7_bishop_c66 {X : k_C} {q : Nat → Nat} (kh32 : k_S → Int32 → Int32 → Int32 → Option (Int32 × k_S)) (hk32 : ∀ (σ : k_S) (l1 l2 l3 : Int32), KO X YX7_bishop (cM (k_I X) q) 0 0 (k_Q k_ei X (cM (k_I X) q)) 32 [some (.ref (q 0)), some (.int l1), some (.int l2), some (.int l3)] [] σ (kh32 σ l1 l2 l3)) (σ : k_S) (l1 l3 s0 : Int32) : KO X YX7_bishop (cM (k_I X) q) 0 0 (k_Q k_ei X (cM (k_I X) q)) 66 [some (.ref (q 0)), some (.int l1), none, some (.int l3)] [.int s0] σ (fX7_bishop_c66 kh32 σ l1 l3 s0) := by
  unfold fX7_bishop_c66
  refine k_iconst (pc := 66) (v := (nI 0)) dX7_bishop_66 (by decide) ?_
  exact kX7_bishop_c67 kh32 hk32 σ l1 l3 s0 ((nI 0))
noncomputable def fX7_bishop_c32 : Nat → k_S → Int32 → Int32 → Int32 → Option (Int32 × k_S)
  | 0, _, _, _, _ => none
  | n + 1, σ, l1, l2, l3 => (if l3 < σ.1 2 then k_gd (l3) 5 ((if σ.2 11 (Int32.toNatClampNeg (l3)) = (k_ng 9) then fX7_bishop_c66 (fX7_bishop_c32 n) σ l1 l3 l2 else k_gd (l3) 5 ((if σ.2 14 (Int32.toNatClampNeg (l3)) < l1 then fX7_bishop_c66 (fX7_bishop_c32 n) σ l1 l3 l2 else fX7_bishop_c67 (fX7_bishop_c32 n) σ l1 l3 l2 ((nI 1)))))) else some (l2, σ))
theorem fX7_bishop_c32_s (n : Nat) (σ : k_S) (l1 l2 l3 : Int32) : fX7_bishop_c32 (n + 1) σ l1 l2 l3 = (if l3 < σ.1 2 then k_gd (l3) 5 ((if σ.2 11 (Int32.toNatClampNeg (l3)) = (k_ng 9) then fX7_bishop_c66 (fX7_bishop_c32 n) σ l1 l3 l2 else k_gd (l3) 5 ((if σ.2 14 (Int32.toNatClampNeg (l3)) < l1 then fX7_bishop_c66 (fX7_bishop_c32 n) σ l1 l3 l2 else fX7_bishop_c67 (fX7_bishop_c32 n) σ l1 l3 l2 ((nI 1)))))) else some (l2, σ)) := rfl
set_option maxRecDepth 100000 in
set_option maxHeartbeats 4000000 in
theorem kX7_bishop_c32 {X : k_C} {q : Nat → Nat} : ∀ (n : Nat) (σ : k_S) (l1 l2 l3 : Int32), KO X YX7_bishop (cM (k_I X) q) 0 0 (k_Q k_ei X (cM (k_I X) q)) 32 [some (.ref (q 0)), some (.int l1), some (.int l2), some (.int l3)] [] σ (fX7_bishop_c32 n σ l1 l2 l3) := by
  intro n
  induction n with
  | zero => intros; exact KO.nil
  | succ n ih =>
    intro σ l1 l2 l3
    rw [fX7_bishop_c32_s]
    refine k_iload_n (pc := 32) dX7_bishop_32 rfl ?_
    refine k_aload_n (pc := 33) dX7_bishop_33 rfl ?_
    refine k_gMX7_guests (pc := 34) kwf_X7_77 rfl dX7_bishop_34 ?_
    refine k_icmp_ge (pc := 37) 75 dX7_bishop_37 (by decide) ?_ ?_
    · refine k_iload_n (pc := 75) dX7_bishop_75 rfl ?_
      exact k_ireturn (pc := 76) rfl dX7_bishop_76
    · refine k_iload_n (pc := 40) dX7_bishop_40 rfl ?_
      refine k_aload_n (pc := 41) dX7_bishop_41 rfl ?_
      refine k_gMX7_chosen (pc := 42) kwf_X7_43 rfl dX7_bishop_42 ?_
      refine k_iload_n (pc := 45) dX7_bishop_45 rfl ?_
      refine k_lM12 (pc := 46) dX7_bishop_46 ?_
      refine k_bipush (pc := 47) (v := (k_ng 9)) dX7_bishop_47 (by decide) ?_
      refine k_icmp_eq (pc := 49) 66 dX7_bishop_49 (by decide) ?_ ?_
      · refine k_fg2 ?_
        exact kX7_bishop_c66 (fX7_bishop_c32 n) ih σ l1 l3 l2
      · refine k_aload_n (pc := 52) dX7_bishop_52 rfl ?_
        refine k_gMX7_tall (pc := 53) kwf_X7_52 rfl dX7_bishop_53 ?_
        refine k_iload_n (pc := 56) dX7_bishop_56 rfl ?_
        refine k_lM15 (pc := 57) dX7_bishop_57 ?_
        refine k_iload_n (pc := 58) dX7_bishop_58 rfl ?_
        refine k_icmp_lt (pc := 59) 66 dX7_bishop_59 (by decide) ?_ ?_
        · refine k_fg2 ?_
          exact kX7_bishop_c66 (fX7_bishop_c32 n) ih σ l1 l3 l2
        · refine k_iconst (pc := 62) (v := (nI 1)) dX7_bishop_62 (by decide) ?_
          refine k_goto (pc := 63) 67 dX7_bishop_63 (by decide) ?_
          refine k_fg2 ?_
          exact kX7_bishop_c67 (fX7_bishop_c32 n) ih σ l1 l3 l2 ((nI 1))
noncomputable def fX7_bishop (σ : k_S) (x1 : Int32) : Option (Int32 × k_S) := k_ob (fX7_within σ x1 ((nI 0)) ((nI 999))) fun r1 σ2 => (if r1 = 0 then some ((k_ng 2), σ2) else (if σ2.1 2 = 0 then some ((k_ng 3), σ2) else k_ob (fX7_layTall σ2) fun r3 σ4 => k_bn ((nI 0)) fun v5 => k_bn ((nI 0)) fun v6 => fX7_bishop_c32 k_F σ4 x1 v5 v6))
set_option maxRecDepth 100000 in
set_option maxHeartbeats 4000000 in
theorem kX7_bishop {D : va_G} {cI : ClassId} {q : Nat → Nat} {σ : k_S} {x1 : Int32} {r : Int32} {τ : k_S} (h : fX7_bishop σ x1 = some (r, τ)) : k_Ct k_ei yX7_bishop cX7_bishop 4 (some .int) rmX7_bishop (cM cI q) D cI [.ref (q 0), .int x1] σ r τ := by
  refine k_met (Y := YX7_bishop) (cM_same _ _) (by decide) rfl (Nat.le_of_ble_eq_true rfl) (List.forall_mem_cons.mpr ⟨rfl, List.forall_mem_cons.mpr ⟨rfl, fun _ h => absurd h List.not_mem_nil⟩⟩) (fun X hD hI => ?_) h
  subst hD hI
  show KO X YX7_bishop (cM (k_I X) q) 0 0 (k_Q k_ei X (cM (k_I X) q)) 0 [some (.ref (q 0)), some (.int x1), none, none] [] σ _
  unfold fX7_bishop
  refine k_iload_n (pc := 0) dX7_bishop_0 rfl ?_
  refine k_iconst (pc := 1) (v := (nI 0)) dX7_bishop_1 (by decide) ?_
  refine k_sipush (pc := 2) (v := (nI 999)) dX7_bishop_2 (by decide) ?_
  refine k_si3 (pc := 5) (cM_same _ _) ckX7_within kwm_X7_73 ⟨rfl, rfl⟩ ⟨Nat.le_of_ble_eq_true rfl, Nat.le_of_ble_eq_true rfl⟩ ⟨Nat.zero_le _, Nat.zero_le _⟩ (Nat.le_of_ble_eq_true rfl) dX7_bishop_5 (fun _ _ hf => kX7_within hf) (fun r1 σ2 => ?_)
  refine k_if_ne (pc := 8) 14 dX7_bishop_8 (by decide) ?_ ?_
  · refine k_aload_n (pc := 14) dX7_bishop_14 rfl ?_
    refine k_gMX7_guests (pc := 15) kwf_X7_77 rfl dX7_bishop_15 ?_
    refine k_if_ne (pc := 18) 24 dX7_bishop_18 (by decide) ?_ ?_
    · refine k_aload_n (pc := 24) dX7_bishop_24 rfl ?_
      refine k_vv0 (pc := 25) (cM_same _ _) ckX7_layTall kwm_X7_151 cM_rv0 ⟨rfl, rfl⟩ ⟨Nat.le_of_ble_eq_true rfl, Nat.le_of_ble_eq_true rfl⟩ ⟨Nat.zero_le _, Nat.zero_le _⟩ (Nat.le_of_ble_eq_true rfl) dX7_bishop_25 (fun _ _ hf => kX7_layTall hf) (fun r3 σ4 => ?_)
      refine k_iconst (pc := 28) (v := (nI 0)) dX7_bishop_28 (by decide) ?_
      refine k_ist2 (pc := 29) dX7_bishop_29 (Nat.le_of_ble_eq_true rfl) (fun v5 => ?_)
      refine k_iconst (pc := 30) (v := (nI 0)) dX7_bishop_30 (by decide) ?_
      refine k_ist3 (pc := 31) dX7_bishop_31 (Nat.le_of_ble_eq_true rfl) (fun v6 => ?_)
      exact kX7_bishop_c32 k_F σ4 x1 v5 v6
    · refine k_bipush (pc := 21) (v := (k_ng 3)) dX7_bishop_21 (by decide) ?_
      exact k_ireturn (pc := 23) rfl dX7_bishop_23
  · refine k_bipush (pc := 11) (v := (k_ng 2)) dX7_bishop_11 (by decide) ?_
    exact k_ireturn (pc := 13) rfl dX7_bishop_13
-- TallTalesModel.nextOwn(II)I
theorem ckX7_nextOwn : k_Vok yX7_nextOwn cX7_nextOwn 4 (some .int) 2 := ⟨kwk_X7_nextOwn, kwi_X7_nextOwn, kwv_X7_nextOwn, kwn_X7, by decide, by decide +kernel⟩
abbrev rmX7_nextOwn : Room := { frames := 2, cells := 0, slots := 0, locals := 45 }
abbrev YX7_nextOwn : k_Y := (rmX7_nextOwn, cX7_nextOwn, 4, RX7, (some .int))
noncomputable def fX7_nextOwn_c32 (kh4 : k_S → Int32 → Int32 → Option (Int32 × k_S)) (σ : k_S) (l1 l3 : Int32) : Option (Int32 × k_S) := k_bn (l3 + (nI 1)) fun v1 => kh4 σ l1 v1
set_option maxRecDepth 100000 in
set_option maxHeartbeats 4000000 in
theorem kX7_nextOwn_c32 {X : k_C} {q : Nat → Nat} (kh4 : k_S → Int32 → Int32 → Option (Int32 × k_S)) (hk4 : ∀ (σ : k_S) (l1 l3 : Int32), KO X YX7_nextOwn (cM (k_I X) q) 0 0 (k_Q k_ei X (cM (k_I X) q)) 4 [some (.ref (q 0)), some (.int l1), none, some (.int l3)] [] σ (kh4 σ l1 l3)) (σ : k_S) (l1 l3 : Int32) : KO X YX7_nextOwn (cM (k_I X) q) 0 0 (k_Q k_ei X (cM (k_I X) q)) 32 [some (.ref (q 0)), some (.int l1), none, some (.int l3)] [] σ (fX7_nextOwn_c32 kh4 σ l1 l3) := by
  unfold fX7_nextOwn_c32
  refine k_iinc3 (pc := 32) (w := (nI 1)) dX7_nextOwn_32 rfl (by decide) (Nat.le_of_ble_eq_true rfl) (fun v1 => ?_)
  refine k_goto (pc := 35) 4 dX7_nextOwn_35 (by decide) ?_
  exact hk4 σ l1 v1
noncomputable def fX7_nextOwn_c4 : Nat → k_S → Int32 → Int32 → Option (Int32 × k_S)
  | 0, _, _, _ => none
  | n + 1, σ, l1, l3 => (if l3 < σ.1 3 then k_gd (l3) 10 ((if σ.2 4 (Int32.toNatClampNeg (l3)) = l1 then k_ob (fX7_mayNow σ l3) fun r1 σ2 => (if r1 = 0 then fX7_nextOwn_c32 (fX7_nextOwn_c4 n) σ2 l1 l3 else some (l3, σ2)) else fX7_nextOwn_c32 (fX7_nextOwn_c4 n) σ l1 l3)) else some ((k_ng 9), σ))
theorem fX7_nextOwn_c4_s (n : Nat) (σ : k_S) (l1 l3 : Int32) : fX7_nextOwn_c4 (n + 1) σ l1 l3 = (if l3 < σ.1 3 then k_gd (l3) 10 ((if σ.2 4 (Int32.toNatClampNeg (l3)) = l1 then k_ob (fX7_mayNow σ l3) fun r1 σ2 => (if r1 = 0 then fX7_nextOwn_c32 (fX7_nextOwn_c4 n) σ2 l1 l3 else some (l3, σ2)) else fX7_nextOwn_c32 (fX7_nextOwn_c4 n) σ l1 l3)) else some ((k_ng 9), σ)) := rfl
set_option maxRecDepth 100000 in
set_option maxHeartbeats 4000000 in
theorem kX7_nextOwn_c4 {X : k_C} {q : Nat → Nat} : ∀ (n : Nat) (σ : k_S) (l1 l3 : Int32), KO X YX7_nextOwn (cM (k_I X) q) 0 0 (k_Q k_ei X (cM (k_I X) q)) 4 [some (.ref (q 0)), some (.int l1), none, some (.int l3)] [] σ (fX7_nextOwn_c4 n σ l1 l3) := by
  intro n
  induction n with
  | zero => intros; exact KO.nil
  | succ n ih =>
    intro σ l1 l3
    rw [fX7_nextOwn_c4_s]
    refine k_iload_n (pc := 4) dX7_nextOwn_4 rfl ?_
    refine k_aload_n (pc := 5) dX7_nextOwn_5 rfl ?_
    refine k_gMX7_tales (pc := 6) kwf_X7_80 rfl dX7_nextOwn_6 ?_
    refine k_icmp_ge (pc := 9) 38 dX7_nextOwn_9 (by decide) ?_ ?_
    · refine k_bipush (pc := 38) (v := (k_ng 9)) dX7_nextOwn_38 (by decide) ?_
      exact k_ireturn (pc := 40) rfl dX7_nextOwn_40
    · refine k_aload_n (pc := 12) dX7_nextOwn_12 rfl ?_
      refine k_gMX7_whose (pc := 13) kwf_X7_22 rfl dX7_nextOwn_13 ?_
      refine k_iload_n (pc := 16) dX7_nextOwn_16 rfl ?_
      refine k_lM5 (pc := 17) dX7_nextOwn_17 ?_
      refine k_iload_n (pc := 18) dX7_nextOwn_18 rfl ?_
      refine k_icmp_ne (pc := 19) 32 dX7_nextOwn_19 (by decide) ?_ ?_
      · exact kX7_nextOwn_c32 (fX7_nextOwn_c4 n) ih σ l1 l3
      · refine k_aload_n (pc := 22) dX7_nextOwn_22 rfl ?_
        refine k_iload_n (pc := 23) dX7_nextOwn_23 rfl ?_
        refine k_vi1 (pc := 24) (cM_same _ _) ckX7_mayNow kwm_X7_139 cM_rv0 ⟨rfl, rfl⟩ ⟨Nat.le_of_ble_eq_true rfl, Nat.le_of_ble_eq_true rfl⟩ ⟨Nat.zero_le _, Nat.zero_le _⟩ (Nat.le_of_ble_eq_true rfl) dX7_nextOwn_24 (fun _ _ hf => kX7_mayNow hf) (fun r1 σ2 => ?_)
        refine k_if_eq (pc := 27) 32 dX7_nextOwn_27 (by decide) ?_ ?_
        · exact kX7_nextOwn_c32 (fX7_nextOwn_c4 n) ih σ2 l1 l3
        · refine k_iload_n (pc := 30) dX7_nextOwn_30 rfl ?_
          exact k_ireturn (pc := 31) rfl dX7_nextOwn_31
noncomputable def fX7_nextOwn (σ : k_S) (x1 x2 : Int32) : Option (Int32 × k_S) := k_bn ((x2 + (nI 1))) fun v1 => fX7_nextOwn_c4 k_F σ x1 v1
set_option maxRecDepth 100000 in
set_option maxHeartbeats 4000000 in
theorem kX7_nextOwn {D : va_G} {cI : ClassId} {q : Nat → Nat} {σ : k_S} {x1 x2 : Int32} {r : Int32} {τ : k_S} (h : fX7_nextOwn σ x1 x2 = some (r, τ)) : k_Ct k_ei yX7_nextOwn cX7_nextOwn 4 (some .int) rmX7_nextOwn (cM cI q) D cI [.ref (q 0), .int x1, .int x2] σ r τ := by
  refine k_met (Y := YX7_nextOwn) (cM_same _ _) (by decide) rfl (Nat.le_of_ble_eq_true rfl) (List.forall_mem_cons.mpr ⟨rfl, List.forall_mem_cons.mpr ⟨rfl, List.forall_mem_cons.mpr ⟨rfl, fun _ h => absurd h List.not_mem_nil⟩⟩⟩) (fun X hD hI => ?_) h
  subst hD hI
  show KO X YX7_nextOwn (cM (k_I X) q) 0 0 (k_Q k_ei X (cM (k_I X) q)) 0 [some (.ref (q 0)), some (.int x1), some (.int x2), none] [] σ _
  unfold fX7_nextOwn
  refine k_iload_n (pc := 0) dX7_nextOwn_0 rfl ?_
  refine k_iconst (pc := 1) (v := (nI 1)) dX7_nextOwn_1 (by decide) ?_
  refine k_iadd (pc := 2) dX7_nextOwn_2 ?_
  refine k_ist3 (pc := 3) dX7_nextOwn_3 (Nat.le_of_ble_eq_true rfl) (fun v1 => ?_)
  refine k_fg2 ?_
  exact kX7_nextOwn_c4 k_F σ x1 v1
-- TallTalesModel.layTells()V
theorem ckX7_layTells : k_Vok yX7_layTells cX7_layTells 2 none 0 := ⟨kwk_X7_layTells, kwi_X7_layTells, kwv_X7_layTells, kwn_X7, by decide, by decide +kernel⟩
abbrev rmX7_layTells : Room := { frames := 2, cells := 0, slots := 0, locals := 43 }
abbrev YX7_layTells : k_Y := (rmX7_layTells, cX7_layTells, 2, RX7, none)
noncomputable def fX7_layTells_c40 (kh2 : k_S → Int32 → Option (Unit × k_S)) (σ : k_S) (l1 s1 s2 : Int32) : Option (Unit × k_S) := k_gd (s1) 5 (k_bn (k_sa σ 14 (s1) (s2)) fun σ1 => k_bn (l1 + (nI 1)) fun v2 => kh2 σ1 v2)
set_option maxRecDepth 100000 in
set_option maxHeartbeats 4000000 in
theorem kX7_layTells_c40 {X : k_C} {q : Nat → Nat} (kh2 : k_S → Int32 → Option (Unit × k_S)) (hk2 : ∀ (σ : k_S) (l1 : Int32), KO X YX7_layTells (cM (k_I X) q) 0 0 (k_Q k_ev X (cM (k_I X) q)) 2 [some (.ref (q 0)), some (.int l1)] [] σ (kh2 σ l1)) (σ : k_S) (l1 s1 s2 : Int32) : KO X YX7_layTells (cM (k_I X) q) 0 0 (k_Q k_ev X (cM (k_I X) q)) 40 [some (.ref (q 0)), some (.int l1)] [.int s2, .int s1, .ref (q 15)] σ (fX7_layTells_c40 kh2 σ l1 s1 s2) := by
  unfold fX7_layTells_c40
  refine k_sM15 (pc := 40) dX7_layTells_40 (fun σ1 => ?_)
  refine k_iinc1 (pc := 41) (w := (nI 1)) dX7_layTells_41 rfl (by decide) (Nat.le_of_ble_eq_true rfl) (fun v2 => ?_)
  refine k_goto (pc := 44) 2 dX7_layTells_44 (by decide) ?_
  exact hk2 σ1 v2
noncomputable def fX7_layTells_c2 : Nat → k_S → Int32 → Option (Unit × k_S)
  | 0, _, _ => none
  | n + 1, σ, l1 => (if l1 < σ.1 2 then k_gd (l1) 5 ((if σ.2 15 (Int32.toNatClampNeg (l1)) = (k_ng 9) then fX7_layTells_c40 (fX7_layTells_c2 n) σ l1 l1 ((nI 0)) else k_gd (l1) 5 (k_ob (fX7_tallNow σ (σ.2 15 (Int32.toNatClampNeg (l1)))) fun r1 σ2 => fX7_layTells_c40 (fX7_layTells_c2 n) σ2 l1 l1 r1))) else some ((), σ))
theorem fX7_layTells_c2_s (n : Nat) (σ : k_S) (l1 : Int32) : fX7_layTells_c2 (n + 1) σ l1 = (if l1 < σ.1 2 then k_gd (l1) 5 ((if σ.2 15 (Int32.toNatClampNeg (l1)) = (k_ng 9) then fX7_layTells_c40 (fX7_layTells_c2 n) σ l1 l1 ((nI 0)) else k_gd (l1) 5 (k_ob (fX7_tallNow σ (σ.2 15 (Int32.toNatClampNeg (l1)))) fun r1 σ2 => fX7_layTells_c40 (fX7_layTells_c2 n) σ2 l1 l1 r1))) else some ((), σ)) := rfl
set_option maxRecDepth 100000 in
set_option maxHeartbeats 4000000 in
theorem kX7_layTells_c2 {X : k_C} {q : Nat → Nat} : ∀ (n : Nat) (σ : k_S) (l1 : Int32), KO X YX7_layTells (cM (k_I X) q) 0 0 (k_Q k_ev X (cM (k_I X) q)) 2 [some (.ref (q 0)), some (.int l1)] [] σ (fX7_layTells_c2 n σ l1) := by
  intro n
  induction n with
  | zero => intros; exact KO.nil
  | succ n ih =>
    intro σ l1
    rw [fX7_layTells_c2_s]
    refine k_iload_n (pc := 2) dX7_layTells_2 rfl ?_
    refine k_aload_n (pc := 3) dX7_layTells_3 rfl ?_
    refine k_gMX7_guests (pc := 4) kwf_X7_77 rfl dX7_layTells_4 ?_
    refine k_icmp_ge (pc := 7) 47 dX7_layTells_7 (by decide) ?_ ?_
    · exact k_return (pc := 47) rfl dX7_layTells_47
    · refine k_aload_n (pc := 10) dX7_layTells_10 rfl ?_
      refine k_gMX7_tall (pc := 11) kwf_X7_52 rfl dX7_layTells_11 ?_
      refine k_iload_n (pc := 14) dX7_layTells_14 rfl ?_
      refine k_aload_n (pc := 15) dX7_layTells_15 rfl ?_
      refine k_gMX7_tells (pc := 16) kwf_X7_55 rfl dX7_layTells_16 ?_
      refine k_iload_n (pc := 19) dX7_layTells_19 rfl ?_
      refine k_lM16 (pc := 20) dX7_layTells_20 ?_
      refine k_bipush (pc := 21) (v := (k_ng 9)) dX7_layTells_21 (by decide) ?_
      refine k_icmp_ne (pc := 23) 30 dX7_layTells_23 (by decide) ?_ ?_
      · refine k_aload_n (pc := 30) dX7_layTells_30 rfl ?_
        refine k_aload_n (pc := 31) dX7_layTells_31 rfl ?_
        refine k_gMX7_tells (pc := 32) kwf_X7_55 rfl dX7_layTells_32 ?_
        refine k_iload_n (pc := 35) dX7_layTells_35 rfl ?_
        refine k_lM16 (pc := 36) dX7_layTells_36 ?_
        refine k_vi1 (pc := 37) (cM_same _ _) ckX7_tallNow kwm_X7_142 cM_rv0 ⟨rfl, rfl⟩ ⟨Nat.le_of_ble_eq_true rfl, Nat.le_of_ble_eq_true rfl⟩ ⟨Nat.zero_le _, Nat.zero_le _⟩ (Nat.le_of_ble_eq_true rfl) dX7_layTells_37 (fun _ _ hf => kX7_tallNow hf) (fun r1 σ2 => ?_)
        exact kX7_layTells_c40 (fX7_layTells_c2 n) ih σ2 l1 l1 r1
      · refine k_iconst (pc := 26) (v := (nI 0)) dX7_layTells_26 (by decide) ?_
        refine k_goto (pc := 27) 40 dX7_layTells_27 (by decide) ?_
        exact kX7_layTells_c40 (fX7_layTells_c2 n) ih σ l1 l1 ((nI 0))
noncomputable def fX7_layTells (σ : k_S) : Option (Unit × k_S) := k_bn ((nI 0)) fun v1 => fX7_layTells_c2 k_F σ v1
set_option maxRecDepth 100000 in
set_option maxHeartbeats 4000000 in
theorem kX7_layTells {D : va_G} {cI : ClassId} {q : Nat → Nat} {σ : k_S} {r : Unit} {τ : k_S} (h : fX7_layTells σ = some (r, τ)) : k_Ct k_ev yX7_layTells cX7_layTells 2 none rmX7_layTells (cM cI q) D cI [.ref (q 0)] σ r τ := by
  refine k_met (Y := YX7_layTells) (cM_same _ _) (by decide) rfl (Nat.le_of_ble_eq_true rfl) (List.forall_mem_cons.mpr ⟨rfl, fun _ h => absurd h List.not_mem_nil⟩) (fun X hD hI => ?_) h
  subst hD hI
  show KO X YX7_layTells (cM (k_I X) q) 0 0 (k_Q k_ev X (cM (k_I X) q)) 0 [some (.ref (q 0)), none] [] σ _
  unfold fX7_layTells
  refine k_iconst (pc := 0) (v := (nI 0)) dX7_layTells_0 (by decide) ?_
  refine k_ist1 (pc := 1) dX7_layTells_1 (Nat.le_of_ble_eq_true rfl) (fun v1 => ?_)
  exact kX7_layTells_c2 k_F σ v1
-- TallTalesModel.isRest()Z
theorem ckX7_isRest : k_Vok yX7_isRest cX7_isRest 4 (some .boolean) 0 := ⟨kwk_X7_isRest, kwi_X7_isRest, kwv_X7_isRest, kwn_X7, by decide, by decide +kernel⟩
abbrev rmX7_isRest : Room := { frames := 3, cells := 0, slots := 0, locals := 68 }
abbrev YX7_isRest : k_Y := (rmX7_isRest, cX7_isRest, 4, RX7, (some .boolean))
noncomputable def fX7_isRest_c27 (kh2 : k_S → Int32 → Option (Int32 × k_S)) : Nat → k_S → Int32 → Int32 → Int32 → Option (Int32 × k_S)
  | 0, _, _, _, _ => none
  | n + 1, σ, l1, l2, l3 => (if l3 = (k_ng 9) then k_bn (l1 + (nI 1)) fun v1 => kh2 σ v1 else k_ob (fX7_tallNow σ l3) fun r2 σ3 => k_gd (l1) 5 (k_bn (k_sa σ3 14 (l1) (r2)) fun σ4 => k_ob (fX7_placeOf σ4 l1) fun r5 σ6 => (if r5 < l2 then k_z ((nI 0)) (some ((nI 0), σ6)) else k_ob (fX7_nextOwn σ6 l1 l3) fun r7 σ8 => k_bn (r7) fun v9 => fX7_isRest_c27 kh2 n σ8 l1 l2 v9)))
theorem fX7_isRest_c27_s (kh2 : k_S → Int32 → Option (Int32 × k_S)) (n : Nat) (σ : k_S) (l1 l2 l3 : Int32) : fX7_isRest_c27 kh2 (n + 1) σ l1 l2 l3 = (if l3 = (k_ng 9) then k_bn (l1 + (nI 1)) fun v1 => kh2 σ v1 else k_ob (fX7_tallNow σ l3) fun r2 σ3 => k_gd (l1) 5 (k_bn (k_sa σ3 14 (l1) (r2)) fun σ4 => k_ob (fX7_placeOf σ4 l1) fun r5 σ6 => (if r5 < l2 then k_z ((nI 0)) (some ((nI 0), σ6)) else k_ob (fX7_nextOwn σ6 l1 l3) fun r7 σ8 => k_bn (r7) fun v9 => fX7_isRest_c27 kh2 n σ8 l1 l2 v9))) := rfl
set_option maxRecDepth 100000 in
set_option maxHeartbeats 4000000 in
theorem kX7_isRest_c27 {X : k_C} {q : Nat → Nat} (kh2 : k_S → Int32 → Option (Int32 × k_S)) (hk2 : ∀ (σ : k_S) (l1 : Int32), KO X YX7_isRest (cM (k_I X) q) 0 0 (k_Q k_ei X (cM (k_I X) q)) 2 [some (.ref (q 0)), some (.int l1), none, none] [] σ (kh2 σ l1)) : ∀ (n : Nat) (σ : k_S) (l1 l2 l3 : Int32), KO X YX7_isRest (cM (k_I X) q) 0 0 (k_Q k_ei X (cM (k_I X) q)) 27 [some (.ref (q 0)), some (.int l1), some (.int l2), some (.int l3)] [] σ (fX7_isRest_c27 kh2 n σ l1 l2 l3) := by
  intro n
  induction n with
  | zero => intros; exact KO.nil
  | succ n ih =>
    intro σ l1 l2 l3
    rw [fX7_isRest_c27_s]
    refine k_iload_n (pc := 27) dX7_isRest_27 rfl ?_
    refine k_bipush (pc := 28) (v := (k_ng 9)) dX7_isRest_28 (by decide) ?_
    refine k_icmp_eq (pc := 30) 65 dX7_isRest_30 (by decide) ?_ ?_
    · refine k_iinc1 (pc := 65) (w := (nI 1)) dX7_isRest_65 rfl (by decide) (Nat.le_of_ble_eq_true rfl) (fun v1 => ?_)
      refine k_goto (pc := 68) 2 dX7_isRest_68 (by decide) ?_
      refine k_fg2 ?_
      refine k_fg3 ?_
      exact hk2 σ v1
    · refine k_aload_n (pc := 33) dX7_isRest_33 rfl ?_
      refine k_gMX7_tall (pc := 34) kwf_X7_52 rfl dX7_isRest_34 ?_
      refine k_iload_n (pc := 37) dX7_isRest_37 rfl ?_
      refine k_aload_n (pc := 38) dX7_isRest_38 rfl ?_
      refine k_iload_n (pc := 39) dX7_isRest_39 rfl ?_
      refine k_vi1 (pc := 40) (cM_same _ _) ckX7_tallNow kwm_X7_142 cM_rv0 ⟨rfl, rfl⟩ ⟨Nat.le_of_ble_eq_true rfl, Nat.le_of_ble_eq_true rfl⟩ ⟨Nat.zero_le _, Nat.zero_le _⟩ (Nat.le_of_ble_eq_true rfl) dX7_isRest_40 (fun _ _ hf => kX7_tallNow hf) (fun r2 σ3 => ?_)
      refine k_sM15 (pc := 43) dX7_isRest_43 (fun σ4 => ?_)
      refine k_aload_n (pc := 44) dX7_isRest_44 rfl ?_
      refine k_iload_n (pc := 45) dX7_isRest_45 rfl ?_
      refine k_vi1 (pc := 46) (cM_same _ _) ckX7_placeOf kwm_X7_148 cM_rv0 ⟨rfl, rfl⟩ ⟨Nat.le_of_ble_eq_true rfl, Nat.le_of_ble_eq_true rfl⟩ ⟨Nat.zero_le _, Nat.zero_le _⟩ (Nat.le_of_ble_eq_true rfl) dX7_isRest_46 (fun _ _ hf => kX7_placeOf hf) (fun r5 σ6 => ?_)
      refine k_iload_n (pc := 49) dX7_isRest_49 rfl ?_
      refine k_icmp_ge (pc := 50) 55 dX7_isRest_50 (by decide) ?_ ?_
      · refine k_aload_n (pc := 55) dX7_isRest_55 rfl ?_
        refine k_iload_n (pc := 56) dX7_isRest_56 rfl ?_
        refine k_iload_n (pc := 57) dX7_isRest_57 rfl ?_
        refine k_vi2 (pc := 58) (cM_same _ _) ckX7_nextOwn kwm_X7_190 cM_rv0 ⟨rfl, rfl⟩ ⟨Nat.le_of_ble_eq_true rfl, Nat.le_of_ble_eq_true rfl⟩ ⟨Nat.zero_le _, Nat.zero_le _⟩ (Nat.le_of_ble_eq_true rfl) dX7_isRest_58 (fun _ _ hf => kX7_nextOwn hf) (fun r7 σ8 => ?_)
        refine k_ist3 (pc := 61) dX7_isRest_61 (Nat.le_of_ble_eq_true rfl) (fun v9 => ?_)
        refine k_goto (pc := 62) 27 dX7_isRest_62 (by decide) ?_
        exact ih σ8 l1 l2 v9
      · refine k_iconst (pc := 53) (v := (nI 0)) dX7_isRest_53 (by decide) ?_
        exact k_zreturn (pc := 54) rfl dX7_isRest_54
noncomputable def fX7_isRest_c2 : Nat → k_S → Int32 → Option (Int32 × k_S)
  | 0, _, _ => none
  | n + 1, σ, l1 => (if l1 < σ.1 2 then k_ob (fX7_layTells σ) fun r1 σ2 => k_ob (fX7_placeOf σ2 l1) fun r3 σ4 => k_bn (r3) fun v5 => k_ob (fX7_nextOwn σ4 l1 ((k_ng 1))) fun r6 σ7 => k_bn (r6) fun v8 => fX7_isRest_c27 (fX7_isRest_c2 n) k_F σ7 l1 v5 v8 else k_z ((nI 1)) (some ((nI 1), σ)))
theorem fX7_isRest_c2_s (n : Nat) (σ : k_S) (l1 : Int32) : fX7_isRest_c2 (n + 1) σ l1 = (if l1 < σ.1 2 then k_ob (fX7_layTells σ) fun r1 σ2 => k_ob (fX7_placeOf σ2 l1) fun r3 σ4 => k_bn (r3) fun v5 => k_ob (fX7_nextOwn σ4 l1 ((k_ng 1))) fun r6 σ7 => k_bn (r6) fun v8 => fX7_isRest_c27 (fX7_isRest_c2 n) k_F σ7 l1 v5 v8 else k_z ((nI 1)) (some ((nI 1), σ))) := rfl
set_option maxRecDepth 100000 in
set_option maxHeartbeats 4000000 in
theorem kX7_isRest_c2 {X : k_C} {q : Nat → Nat} : ∀ (n : Nat) (σ : k_S) (l1 : Int32), KO X YX7_isRest (cM (k_I X) q) 0 0 (k_Q k_ei X (cM (k_I X) q)) 2 [some (.ref (q 0)), some (.int l1), none, none] [] σ (fX7_isRest_c2 n σ l1) := by
  intro n
  induction n with
  | zero => intros; exact KO.nil
  | succ n ih =>
    intro σ l1
    rw [fX7_isRest_c2_s]
    refine k_iload_n (pc := 2) dX7_isRest_2 rfl ?_
    refine k_aload_n (pc := 3) dX7_isRest_3 rfl ?_
    refine k_gMX7_guests (pc := 4) kwf_X7_77 rfl dX7_isRest_4 ?_
    refine k_icmp_ge (pc := 7) 71 dX7_isRest_7 (by decide) ?_ ?_
    · refine k_iconst (pc := 71) (v := (nI 1)) dX7_isRest_71 (by decide) ?_
      exact k_zreturn (pc := 72) rfl dX7_isRest_72
    · refine k_aload_n (pc := 10) dX7_isRest_10 rfl ?_
      refine k_vv0 (pc := 11) (cM_same _ _) ckX7_layTells kwm_X7_187 cM_rv0 ⟨rfl, rfl⟩ ⟨Nat.le_of_ble_eq_true rfl, Nat.le_of_ble_eq_true rfl⟩ ⟨Nat.zero_le _, Nat.zero_le _⟩ (Nat.le_of_ble_eq_true rfl) dX7_isRest_11 (fun _ _ hf => kX7_layTells hf) (fun r1 σ2 => ?_)
      refine k_aload_n (pc := 14) dX7_isRest_14 rfl ?_
      refine k_iload_n (pc := 15) dX7_isRest_15 rfl ?_
      refine k_vi1 (pc := 16) (cM_same _ _) ckX7_placeOf kwm_X7_148 cM_rv0 ⟨rfl, rfl⟩ ⟨Nat.le_of_ble_eq_true rfl, Nat.le_of_ble_eq_true rfl⟩ ⟨Nat.zero_le _, Nat.zero_le _⟩ (Nat.le_of_ble_eq_true rfl) dX7_isRest_16 (fun _ _ hf => kX7_placeOf hf) (fun r3 σ4 => ?_)
      refine k_ist2 (pc := 19) dX7_isRest_19 (Nat.le_of_ble_eq_true rfl) (fun v5 => ?_)
      refine k_aload_n (pc := 20) dX7_isRest_20 rfl ?_
      refine k_iload_n (pc := 21) dX7_isRest_21 rfl ?_
      refine k_iconst (pc := 22) (v := (k_ng 1)) dX7_isRest_22 (by decide) ?_
      refine k_vi2 (pc := 23) (cM_same _ _) ckX7_nextOwn kwm_X7_190 cM_rv0 ⟨rfl, rfl⟩ ⟨Nat.le_of_ble_eq_true rfl, Nat.le_of_ble_eq_true rfl⟩ ⟨Nat.zero_le _, Nat.zero_le _⟩ (Nat.le_of_ble_eq_true rfl) dX7_isRest_23 (fun _ _ hf => kX7_nextOwn hf) (fun r6 σ7 => ?_)
      refine k_ist3 (pc := 26) dX7_isRest_26 (Nat.le_of_ble_eq_true rfl) (fun v8 => ?_)
      exact kX7_isRest_c27 (fX7_isRest_c2 n) ih k_F σ7 l1 v5 v8
noncomputable def fX7_isRest (σ : k_S) : Option (Int32 × k_S) := k_bn ((nI 0)) fun v1 => fX7_isRest_c2 k_F σ v1
set_option maxRecDepth 100000 in
set_option maxHeartbeats 4000000 in
theorem kX7_isRest {D : va_G} {cI : ClassId} {q : Nat → Nat} {σ : k_S} {r : Int32} {τ : k_S} (h : fX7_isRest σ = some (r, τ)) : k_Ct k_ei yX7_isRest cX7_isRest 4 (some .boolean) rmX7_isRest (cM cI q) D cI [.ref (q 0)] σ r τ := by
  refine k_met (Y := YX7_isRest) (cM_same _ _) (by decide) rfl (Nat.le_of_ble_eq_true rfl) (List.forall_mem_cons.mpr ⟨rfl, fun _ h => absurd h List.not_mem_nil⟩) (fun X hD hI => ?_) h
  subst hD hI
  show KO X YX7_isRest (cM (k_I X) q) 0 0 (k_Q k_ei X (cM (k_I X) q)) 0 [some (.ref (q 0)), none, none, none] [] σ _
  unfold fX7_isRest
  refine k_iconst (pc := 0) (v := (nI 0)) dX7_isRest_0 (by decide) ?_
  refine k_ist1 (pc := 1) dX7_isRest_1 (Nat.le_of_ble_eq_true rfl) (fun v1 => ?_)
  exact kX7_isRest_c2 k_F σ v1
-- TallTalesModel.nextTells()Z
theorem ckX7_nextTells : k_Vok yX7_nextTells cX7_nextTells 3 (some .boolean) 0 := ⟨kwk_X7_nextTells, kwi_X7_nextTells, kwv_X7_nextTells, kwn_X7, by decide, by decide +kernel⟩
abbrev rmX7_nextTells : Room := { frames := 3, cells := 0, slots := 0, locals := 68 }
abbrev YX7_nextTells : k_Y := (rmX7_nextTells, cX7_nextTells, 3, RX7, (some .boolean))
noncomputable def fX7_nextTells_c38 (kh7 : k_S → Int32 → Option (Int32 × k_S)) (σ : k_S) (l1 s0 : Int32) : Option (Int32 × k_S) := k_bn (s0) fun v1 => (if v1 = (k_ng 9) then k_ob (fX7_nextOwn σ l1 ((k_ng 1))) fun r2 σ3 => k_gd (l1) 5 (k_bn (k_sa σ3 15 (l1) (r2)) fun σ4 => k_bn (l1 + (k_ng 1)) fun v5 => kh7 σ4 v5) else k_gd (l1) 5 (k_bn (k_sa σ 15 (l1) (v1)) fun σ6 => k_z ((nI 1)) (some ((nI 1), σ6))))
set_option maxRecDepth 100000 in
set_option maxHeartbeats 4000000 in
theorem kX7_nextTells_c38 {X : k_C} {q : Nat → Nat} (kh7 : k_S → Int32 → Option (Int32 × k_S)) (hk7 : ∀ (σ : k_S) (l1 : Int32), KO X YX7_nextTells (cM (k_I X) q) 0 0 (k_Q k_ei X (cM (k_I X) q)) 7 [some (.ref (q 0)), some (.int l1), none] [] σ (kh7 σ l1)) (σ : k_S) (l1 s0 : Int32) : KO X YX7_nextTells (cM (k_I X) q) 0 0 (k_Q k_ei X (cM (k_I X) q)) 38 [some (.ref (q 0)), some (.int l1), none] [.int s0] σ (fX7_nextTells_c38 kh7 σ l1 s0) := by
  unfold fX7_nextTells_c38
  refine k_ist2 (pc := 38) dX7_nextTells_38 (Nat.le_of_ble_eq_true rfl) (fun v1 => ?_)
  refine k_iload_n (pc := 39) dX7_nextTells_39 rfl ?_
  refine k_bipush (pc := 40) (v := (k_ng 9)) dX7_nextTells_40 (by decide) ?_
  refine k_icmp_eq (pc := 42) 54 dX7_nextTells_42 (by decide) ?_ ?_
  · refine k_aload_n (pc := 54) dX7_nextTells_54 rfl ?_
    refine k_gMX7_tells (pc := 55) kwf_X7_55 rfl dX7_nextTells_55 ?_
    refine k_iload_n (pc := 58) dX7_nextTells_58 rfl ?_
    refine k_aload_n (pc := 59) dX7_nextTells_59 rfl ?_
    refine k_iload_n (pc := 60) dX7_nextTells_60 rfl ?_
    refine k_iconst (pc := 61) (v := (k_ng 1)) dX7_nextTells_61 (by decide) ?_
    refine k_vi2 (pc := 62) (cM_same _ _) ckX7_nextOwn kwm_X7_190 cM_rv0 ⟨rfl, rfl⟩ ⟨Nat.le_of_ble_eq_true rfl, Nat.le_of_ble_eq_true rfl⟩ ⟨Nat.zero_le _, Nat.zero_le _⟩ (Nat.le_of_ble_eq_true rfl) dX7_nextTells_62 (fun _ _ hf => kX7_nextOwn hf) (fun r2 σ3 => ?_)
    refine k_sM16 (pc := 65) dX7_nextTells_65 (fun σ4 => ?_)
    refine k_iinc1 (pc := 66) (w := (k_ng 1)) dX7_nextTells_66 rfl (by decide) (Nat.le_of_ble_eq_true rfl) (fun v5 => ?_)
    refine k_goto (pc := 69) 7 dX7_nextTells_69 (by decide) ?_
    refine k_fg2 ?_
    exact hk7 σ4 v5
  · refine k_aload_n (pc := 45) dX7_nextTells_45 rfl ?_
    refine k_gMX7_tells (pc := 46) kwf_X7_55 rfl dX7_nextTells_46 ?_
    refine k_iload_n (pc := 49) dX7_nextTells_49 rfl ?_
    refine k_iload_n (pc := 50) dX7_nextTells_50 rfl ?_
    refine k_sM16 (pc := 51) dX7_nextTells_51 (fun σ6 => ?_)
    refine k_iconst (pc := 52) (v := (nI 1)) dX7_nextTells_52 (by decide) ?_
    exact k_zreturn (pc := 53) rfl dX7_nextTells_53
noncomputable def fX7_nextTells_c7 : Nat → k_S → Int32 → Option (Int32 × k_S)
  | 0, _, _ => none
  | n + 1, σ, l1 => (if l1 < 0 then k_z ((nI 0)) (some ((nI 0), σ)) else k_gd (l1) 5 ((if σ.2 15 (Int32.toNatClampNeg (l1)) = (k_ng 9) then fX7_nextTells_c38 (fX7_nextTells_c7 n) σ l1 ((k_ng 9)) else k_gd (l1) 5 (k_ob (fX7_nextOwn σ l1 (σ.2 15 (Int32.toNatClampNeg (l1)))) fun r1 σ2 => fX7_nextTells_c38 (fX7_nextTells_c7 n) σ2 l1 r1))))
theorem fX7_nextTells_c7_s (n : Nat) (σ : k_S) (l1 : Int32) : fX7_nextTells_c7 (n + 1) σ l1 = (if l1 < 0 then k_z ((nI 0)) (some ((nI 0), σ)) else k_gd (l1) 5 ((if σ.2 15 (Int32.toNatClampNeg (l1)) = (k_ng 9) then fX7_nextTells_c38 (fX7_nextTells_c7 n) σ l1 ((k_ng 9)) else k_gd (l1) 5 (k_ob (fX7_nextOwn σ l1 (σ.2 15 (Int32.toNatClampNeg (l1)))) fun r1 σ2 => fX7_nextTells_c38 (fX7_nextTells_c7 n) σ2 l1 r1)))) := rfl
set_option maxRecDepth 100000 in
set_option maxHeartbeats 4000000 in
theorem kX7_nextTells_c7 {X : k_C} {q : Nat → Nat} : ∀ (n : Nat) (σ : k_S) (l1 : Int32), KO X YX7_nextTells (cM (k_I X) q) 0 0 (k_Q k_ei X (cM (k_I X) q)) 7 [some (.ref (q 0)), some (.int l1), none] [] σ (fX7_nextTells_c7 n σ l1) := by
  intro n
  induction n with
  | zero => intros; exact KO.nil
  | succ n ih =>
    intro σ l1
    rw [fX7_nextTells_c7_s]
    refine k_iload_n (pc := 7) dX7_nextTells_7 rfl ?_
    refine k_if_lt (pc := 8) 72 dX7_nextTells_8 (by decide) ?_ ?_
    · refine k_iconst (pc := 72) (v := (nI 0)) dX7_nextTells_72 (by decide) ?_
      exact k_zreturn (pc := 73) rfl dX7_nextTells_73
    · refine k_aload_n (pc := 11) dX7_nextTells_11 rfl ?_
      refine k_gMX7_tells (pc := 12) kwf_X7_55 rfl dX7_nextTells_12 ?_
      refine k_iload_n (pc := 15) dX7_nextTells_15 rfl ?_
      refine k_lM16 (pc := 16) dX7_nextTells_16 ?_
      refine k_bipush (pc := 17) (v := (k_ng 9)) dX7_nextTells_17 (by decide) ?_
      refine k_icmp_ne (pc := 19) 27 dX7_nextTells_19 (by decide) ?_ ?_
      · refine k_aload_n (pc := 27) dX7_nextTells_27 rfl ?_
        refine k_iload_n (pc := 28) dX7_nextTells_28 rfl ?_
        refine k_aload_n (pc := 29) dX7_nextTells_29 rfl ?_
        refine k_gMX7_tells (pc := 30) kwf_X7_55 rfl dX7_nextTells_30 ?_
        refine k_iload_n (pc := 33) dX7_nextTells_33 rfl ?_
        refine k_lM16 (pc := 34) dX7_nextTells_34 ?_
        refine k_vi2 (pc := 35) (cM_same _ _) ckX7_nextOwn kwm_X7_190 cM_rv0 ⟨rfl, rfl⟩ ⟨Nat.le_of_ble_eq_true rfl, Nat.le_of_ble_eq_true rfl⟩ ⟨Nat.zero_le _, Nat.zero_le _⟩ (Nat.le_of_ble_eq_true rfl) dX7_nextTells_35 (fun _ _ hf => kX7_nextOwn hf) (fun r1 σ2 => ?_)
        exact kX7_nextTells_c38 (fX7_nextTells_c7 n) ih σ2 l1 r1
      · refine k_bipush (pc := 22) (v := (k_ng 9)) dX7_nextTells_22 (by decide) ?_
        refine k_goto (pc := 24) 38 dX7_nextTells_24 (by decide) ?_
        exact kX7_nextTells_c38 (fX7_nextTells_c7 n) ih σ l1 ((k_ng 9))
noncomputable def fX7_nextTells (σ : k_S) : Option (Int32 × k_S) := k_bn ((σ.1 2 - (nI 1))) fun v1 => fX7_nextTells_c7 k_F σ v1
set_option maxRecDepth 100000 in
set_option maxHeartbeats 4000000 in
theorem kX7_nextTells {D : va_G} {cI : ClassId} {q : Nat → Nat} {σ : k_S} {r : Int32} {τ : k_S} (h : fX7_nextTells σ = some (r, τ)) : k_Ct k_ei yX7_nextTells cX7_nextTells 3 (some .boolean) rmX7_nextTells (cM cI q) D cI [.ref (q 0)] σ r τ := by
  refine k_met (Y := YX7_nextTells) (cM_same _ _) (by decide) rfl (Nat.le_of_ble_eq_true rfl) (List.forall_mem_cons.mpr ⟨rfl, fun _ h => absurd h List.not_mem_nil⟩) (fun X hD hI => ?_) h
  subst hD hI
  show KO X YX7_nextTells (cM (k_I X) q) 0 0 (k_Q k_ei X (cM (k_I X) q)) 0 [some (.ref (q 0)), none, none] [] σ _
  unfold fX7_nextTells
  refine k_aload_n (pc := 0) dX7_nextTells_0 rfl ?_
  refine k_gMX7_guests (pc := 1) kwf_X7_77 rfl dX7_nextTells_1 ?_
  refine k_iconst (pc := 4) (v := (nI 1)) dX7_nextTells_4 (by decide) ?_
  refine k_isub (pc := 5) dX7_nextTells_5 ?_
  refine k_ist1 (pc := 6) dX7_nextTells_6 (Nat.le_of_ble_eq_true rfl) (fun v1 => ?_)
  exact kX7_nextTells_c7 k_F σ v1
-- TallTalesModel.findRests()I
theorem ckX7_findRests : k_Vok yX7_findRests cX7_findRests 4 (some .int) 0 := ⟨kwk_X7_findRests, kwi_X7_findRests, kwv_X7_findRests, kwn_X7, by decide, by decide +kernel⟩
abbrev rmX7_findRests : Room := { frames := 4, cells := 0, slots := 0, locals := 91 }
abbrev YX7_findRests : k_Y := (rmX7_findRests, cX7_findRests, 4, RX7, (some .int))
noncomputable def fX7_findRests_c97 (kh51 : k_S → Int32 → Int32 → Option (Int32 × k_S)) (σ : k_S) (l1 : Int32) : Option (Int32 × k_S) := k_ob (fX7_nextTells σ) fun r1 σ2 => k_bn (r1) fun v3 => kh51 σ2 l1 v3
set_option maxRecDepth 100000 in
set_option maxHeartbeats 4000000 in
theorem kX7_findRests_c97 {X : k_C} {q : Nat → Nat} (kh51 : k_S → Int32 → Int32 → Option (Int32 × k_S)) (hk51 : ∀ (σ : k_S) (l1 l2 : Int32), KO X YX7_findRests (cM (k_I X) q) 0 0 (k_Q k_ei X (cM (k_I X) q)) 51 [some (.ref (q 0)), some (.int l1), some (.int l2), none] [] σ (kh51 σ l1 l2)) (σ : k_S) (l1 : Int32) : KO X YX7_findRests (cM (k_I X) q) 0 0 (k_Q k_ei X (cM (k_I X) q)) 97 [some (.ref (q 0)), some (.int l1), none, none] [] σ (fX7_findRests_c97 kh51 σ l1) := by
  unfold fX7_findRests_c97
  refine k_aload_n (pc := 97) dX7_findRests_97 rfl ?_
  refine k_vi0 (pc := 98) (cM_same _ _) ckX7_nextTells kwm_X7_197 cM_rv0 ⟨rfl, rfl⟩ ⟨Nat.le_of_ble_eq_true rfl, Nat.le_of_ble_eq_true rfl⟩ ⟨Nat.zero_le _, Nat.zero_le _⟩ (Nat.le_of_ble_eq_true rfl) dX7_findRests_98 (fun _ _ hf => kX7_nextTells hf) (fun r1 σ2 => ?_)
  refine k_ist2 (pc := 101) dX7_findRests_101 (Nat.le_of_ble_eq_true rfl) (fun v3 => ?_)
  refine k_goto (pc := 102) 51 dX7_findRests_102 (by decide) ?_
  exact hk51 σ2 l1 v3
noncomputable def fX7_findRests_c94 (kh51 : k_S → Int32 → Int32 → Option (Int32 × k_S)) (σ : k_S) (l1 : Int32) : Option (Int32 × k_S) := k_bn (l1 + (nI 1)) fun v1 => fX7_findRests_c97 kh51 σ v1
set_option maxRecDepth 100000 in
set_option maxHeartbeats 4000000 in
theorem kX7_findRests_c94 {X : k_C} {q : Nat → Nat} (kh51 : k_S → Int32 → Int32 → Option (Int32 × k_S)) (hk51 : ∀ (σ : k_S) (l1 l2 : Int32), KO X YX7_findRests (cM (k_I X) q) 0 0 (k_Q k_ei X (cM (k_I X) q)) 51 [some (.ref (q 0)), some (.int l1), some (.int l2), none] [] σ (kh51 σ l1 l2)) (σ : k_S) (l1 : Int32) : KO X YX7_findRests (cM (k_I X) q) 0 0 (k_Q k_ei X (cM (k_I X) q)) 94 [some (.ref (q 0)), some (.int l1), none, none] [] σ (fX7_findRests_c94 kh51 σ l1) := by
  unfold fX7_findRests_c94
  refine k_iinc1 (pc := 94) (w := (nI 1)) dX7_findRests_94 rfl (by decide) (Nat.le_of_ble_eq_true rfl) (fun v1 => ?_)
  exact kX7_findRests_c97 kh51 hk51 σ v1
noncomputable def fX7_findRests_c64 (kh51 : k_S → Int32 → Int32 → Option (Int32 × k_S)) : Nat → k_S → Int32 → Int32 → Option (Int32 × k_S)
  | 0, _, _, _ => none
  | n + 1, σ, l1, l3 => (if l3 < σ.1 2 then (if l1 = 0 then k_gd (l3) 5 (k_gd (l3) 5 (k_bn (k_sa σ 16 (l3) (σ.2 15 (Int32.toNatClampNeg (l3)))) fun σ1 => k_bn (l3 + (nI 1)) fun v2 => fX7_findRests_c64 kh51 n σ1 l1 v2)) else fX7_findRests_c94 kh51 σ l1) else fX7_findRests_c94 kh51 σ l1)
theorem fX7_findRests_c64_s (kh51 : k_S → Int32 → Int32 → Option (Int32 × k_S)) (n : Nat) (σ : k_S) (l1 l3 : Int32) : fX7_findRests_c64 kh51 (n + 1) σ l1 l3 = (if l3 < σ.1 2 then (if l1 = 0 then k_gd (l3) 5 (k_gd (l3) 5 (k_bn (k_sa σ 16 (l3) (σ.2 15 (Int32.toNatClampNeg (l3)))) fun σ1 => k_bn (l3 + (nI 1)) fun v2 => fX7_findRests_c64 kh51 n σ1 l1 v2)) else fX7_findRests_c94 kh51 σ l1) else fX7_findRests_c94 kh51 σ l1) := rfl
set_option maxRecDepth 100000 in
set_option maxHeartbeats 4000000 in
theorem kX7_findRests_c64 {X : k_C} {q : Nat → Nat} (kh51 : k_S → Int32 → Int32 → Option (Int32 × k_S)) (hk51 : ∀ (σ : k_S) (l1 l2 : Int32), KO X YX7_findRests (cM (k_I X) q) 0 0 (k_Q k_ei X (cM (k_I X) q)) 51 [some (.ref (q 0)), some (.int l1), some (.int l2), none] [] σ (kh51 σ l1 l2)) : ∀ (n : Nat) (σ : k_S) (l1 l3 : Int32), KO X YX7_findRests (cM (k_I X) q) 0 0 (k_Q k_ei X (cM (k_I X) q)) 64 [some (.ref (q 0)), some (.int l1), none, some (.int l3)] [] σ (fX7_findRests_c64 kh51 n σ l1 l3) := by
  intro n
  induction n with
  | zero => intros; exact KO.nil
  | succ n ih =>
    intro σ l1 l3
    rw [fX7_findRests_c64_s]
    refine k_iload_n (pc := 64) dX7_findRests_64 rfl ?_
    refine k_aload_n (pc := 65) dX7_findRests_65 rfl ?_
    refine k_gMX7_guests (pc := 66) kwf_X7_77 rfl dX7_findRests_66 ?_
    refine k_icmp_ge (pc := 69) 94 dX7_findRests_69 (by decide) ?_ ?_
    · refine k_fg3 ?_
      exact kX7_findRests_c94 kh51 hk51 σ l1
    · refine k_iload_n (pc := 72) dX7_findRests_72 rfl ?_
      refine k_if_ne (pc := 73) 94 dX7_findRests_73 (by decide) ?_ ?_
      · refine k_fg3 ?_
        exact kX7_findRests_c94 kh51 hk51 σ l1
      · refine k_aload_n (pc := 76) dX7_findRests_76 rfl ?_
        refine k_gMX7_firstRest (pc := 77) kwf_X7_58 rfl dX7_findRests_77 ?_
        refine k_iload_n (pc := 80) dX7_findRests_80 rfl ?_
        refine k_aload_n (pc := 81) dX7_findRests_81 rfl ?_
        refine k_gMX7_tells (pc := 82) kwf_X7_55 rfl dX7_findRests_82 ?_
        refine k_iload_n (pc := 85) dX7_findRests_85 rfl ?_
        refine k_lM16 (pc := 86) dX7_findRests_86 ?_
        refine k_sM17 (pc := 87) dX7_findRests_87 (fun σ1 => ?_)
        refine k_iinc3 (pc := 88) (w := (nI 1)) dX7_findRests_88 rfl (by decide) (Nat.le_of_ble_eq_true rfl) (fun v2 => ?_)
        refine k_goto (pc := 91) 64 dX7_findRests_91 (by decide) ?_
        exact ih σ1 l1 v2
noncomputable def fX7_findRests_c51 : Nat → k_S → Int32 → Int32 → Option (Int32 × k_S)
  | 0, _, _, _ => none
  | n + 1, σ, l1, l2 => (if l2 = 0 then some (l1, σ) else k_ob (fX7_isRest σ) fun r1 σ2 => (if r1 = 0 then fX7_findRests_c97 (fX7_findRests_c51 n) σ2 l1 else k_bn ((nI 0)) fun v3 => fX7_findRests_c64 (fX7_findRests_c51 n) k_F σ2 l1 v3))
theorem fX7_findRests_c51_s (n : Nat) (σ : k_S) (l1 l2 : Int32) : fX7_findRests_c51 (n + 1) σ l1 l2 = (if l2 = 0 then some (l1, σ) else k_ob (fX7_isRest σ) fun r1 σ2 => (if r1 = 0 then fX7_findRests_c97 (fX7_findRests_c51 n) σ2 l1 else k_bn ((nI 0)) fun v3 => fX7_findRests_c64 (fX7_findRests_c51 n) k_F σ2 l1 v3)) := rfl
set_option maxRecDepth 100000 in
set_option maxHeartbeats 4000000 in
theorem kX7_findRests_c51 {X : k_C} {q : Nat → Nat} : ∀ (n : Nat) (σ : k_S) (l1 l2 : Int32), KO X YX7_findRests (cM (k_I X) q) 0 0 (k_Q k_ei X (cM (k_I X) q)) 51 [some (.ref (q 0)), some (.int l1), some (.int l2), none] [] σ (fX7_findRests_c51 n σ l1 l2) := by
  intro n
  induction n with
  | zero => intros; exact KO.nil
  | succ n ih =>
    intro σ l1 l2
    rw [fX7_findRests_c51_s]
    refine k_iload_n (pc := 51) dX7_findRests_51 rfl ?_
    refine k_if_eq (pc := 52) 105 dX7_findRests_52 (by decide) ?_ ?_
    · refine k_iload_n (pc := 105) dX7_findRests_105 rfl ?_
      exact k_ireturn (pc := 106) rfl dX7_findRests_106
    · refine k_aload_n (pc := 55) dX7_findRests_55 rfl ?_
      refine k_vi0 (pc := 56) (cM_same _ _) ckX7_isRest kwm_X7_193 cM_rv0 ⟨rfl, rfl⟩ ⟨Nat.le_of_ble_eq_true rfl, Nat.le_of_ble_eq_true rfl⟩ ⟨Nat.zero_le _, Nat.zero_le _⟩ (Nat.le_of_ble_eq_true rfl) dX7_findRests_56 (fun _ _ hf => kX7_isRest hf) (fun r1 σ2 => ?_)
      refine k_if_eq (pc := 59) 97 dX7_findRests_59 (by decide) ?_ ?_
      · refine k_fg2 ?_
        exact kX7_findRests_c97 (fX7_findRests_c51 n) ih σ2 l1
      · refine k_iconst (pc := 62) (v := (nI 0)) dX7_findRests_62 (by decide) ?_
        refine k_ist3 (pc := 63) dX7_findRests_63 (Nat.le_of_ble_eq_true rfl) (fun v3 => ?_)
        refine k_fg2 ?_
        exact kX7_findRests_c64 (fX7_findRests_c51 n) ih k_F σ2 l1 v3
noncomputable def fX7_findRests_c50 (σ : k_S) (l1 s0 : Int32) : Option (Int32 × k_S) := k_bn (s0) fun v1 => fX7_findRests_c51 k_F σ l1 v1
set_option maxRecDepth 100000 in
set_option maxHeartbeats 4000000 in
theorem kX7_findRests_c50 {X : k_C} {q : Nat → Nat} (σ : k_S) (l1 s0 : Int32) : KO X YX7_findRests (cM (k_I X) q) 0 0 (k_Q k_ei X (cM (k_I X) q)) 50 [some (.ref (q 0)), some (.int l1), none, none] [.int s0] σ (fX7_findRests_c50 σ l1 s0) := by
  unfold fX7_findRests_c50
  refine k_ist2 (pc := 50) dX7_findRests_50 (Nat.le_of_ble_eq_true rfl) (fun v1 => ?_)
  exact kX7_findRests_c51 k_F σ l1 v1
noncomputable def fX7_findRests_c4 : Nat → k_S → Int32 → Int32 → Option (Int32 × k_S)
  | 0, _, _, _ => none
  | n + 1, σ, l1, l2 => (if l2 < σ.1 2 then k_ob (fX7_nextOwn σ l2 ((k_ng 1))) fun r1 σ2 => k_gd (l2) 5 (k_bn (k_sa σ2 15 (l2) (r1)) fun σ3 => k_gd (l2) 5 (k_bn (k_sa σ3 16 (l2) ((k_ng 9))) fun σ4 => k_bn (l2 + (nI 1)) fun v5 => fX7_findRests_c4 n σ4 l1 v5)) else (if 0 < σ.1 2 then fX7_findRests_c50 σ l1 ((nI 1)) else fX7_findRests_c50 σ l1 ((nI 0))))
theorem fX7_findRests_c4_s (n : Nat) (σ : k_S) (l1 l2 : Int32) : fX7_findRests_c4 (n + 1) σ l1 l2 = (if l2 < σ.1 2 then k_ob (fX7_nextOwn σ l2 ((k_ng 1))) fun r1 σ2 => k_gd (l2) 5 (k_bn (k_sa σ2 15 (l2) (r1)) fun σ3 => k_gd (l2) 5 (k_bn (k_sa σ3 16 (l2) ((k_ng 9))) fun σ4 => k_bn (l2 + (nI 1)) fun v5 => fX7_findRests_c4 n σ4 l1 v5)) else (if 0 < σ.1 2 then fX7_findRests_c50 σ l1 ((nI 1)) else fX7_findRests_c50 σ l1 ((nI 0)))) := rfl
set_option maxRecDepth 100000 in
set_option maxHeartbeats 4000000 in
theorem kX7_findRests_c4 {X : k_C} {q : Nat → Nat} : ∀ (n : Nat) (σ : k_S) (l1 l2 : Int32), KO X YX7_findRests (cM (k_I X) q) 0 0 (k_Q k_ei X (cM (k_I X) q)) 4 [some (.ref (q 0)), some (.int l1), some (.int l2), none] [] σ (fX7_findRests_c4 n σ l1 l2) := by
  intro n
  induction n with
  | zero => intros; exact KO.nil
  | succ n ih =>
    intro σ l1 l2
    rw [fX7_findRests_c4_s]
    refine k_iload_n (pc := 4) dX7_findRests_4 rfl ?_
    refine k_aload_n (pc := 5) dX7_findRests_5 rfl ?_
    refine k_gMX7_guests (pc := 6) kwf_X7_77 rfl dX7_findRests_6 ?_
    refine k_icmp_ge (pc := 9) 38 dX7_findRests_9 (by decide) ?_ ?_
    · refine k_aload_n (pc := 38) dX7_findRests_38 rfl ?_
      refine k_gMX7_guests (pc := 39) kwf_X7_77 rfl dX7_findRests_39 ?_
      refine k_if_le (pc := 42) 49 dX7_findRests_42 (by decide) ?_ ?_
      · refine k_iconst (pc := 49) (v := (nI 0)) dX7_findRests_49 (by decide) ?_
        refine k_fg2 ?_
        exact kX7_findRests_c50 σ l1 ((nI 0))
      · refine k_iconst (pc := 45) (v := (nI 1)) dX7_findRests_45 (by decide) ?_
        refine k_goto (pc := 46) 50 dX7_findRests_46 (by decide) ?_
        refine k_fg2 ?_
        exact kX7_findRests_c50 σ l1 ((nI 1))
    · refine k_aload_n (pc := 12) dX7_findRests_12 rfl ?_
      refine k_gMX7_tells (pc := 13) kwf_X7_55 rfl dX7_findRests_13 ?_
      refine k_iload_n (pc := 16) dX7_findRests_16 rfl ?_
      refine k_aload_n (pc := 17) dX7_findRests_17 rfl ?_
      refine k_iload_n (pc := 18) dX7_findRests_18 rfl ?_
      refine k_iconst (pc := 19) (v := (k_ng 1)) dX7_findRests_19 (by decide) ?_
      refine k_vi2 (pc := 20) (cM_same _ _) ckX7_nextOwn kwm_X7_190 cM_rv0 ⟨rfl, rfl⟩ ⟨Nat.le_of_ble_eq_true rfl, Nat.le_of_ble_eq_true rfl⟩ ⟨Nat.zero_le _, Nat.zero_le _⟩ (Nat.le_of_ble_eq_true rfl) dX7_findRests_20 (fun _ _ hf => kX7_nextOwn hf) (fun r1 σ2 => ?_)
      refine k_sM16 (pc := 23) dX7_findRests_23 (fun σ3 => ?_)
      refine k_aload_n (pc := 24) dX7_findRests_24 rfl ?_
      refine k_gMX7_firstRest (pc := 25) kwf_X7_58 rfl dX7_findRests_25 ?_
      refine k_iload_n (pc := 28) dX7_findRests_28 rfl ?_
      refine k_bipush (pc := 29) (v := (k_ng 9)) dX7_findRests_29 (by decide) ?_
      refine k_sM17 (pc := 31) dX7_findRests_31 (fun σ4 => ?_)
      refine k_iinc2 (pc := 32) (w := (nI 1)) dX7_findRests_32 rfl (by decide) (Nat.le_of_ble_eq_true rfl) (fun v5 => ?_)
      refine k_goto (pc := 35) 4 dX7_findRests_35 (by decide) ?_
      exact ih σ4 l1 v5
noncomputable def fX7_findRests (σ : k_S) : Option (Int32 × k_S) := k_bn ((nI 0)) fun v1 => k_bn ((nI 0)) fun v2 => fX7_findRests_c4 k_F σ v1 v2
set_option maxRecDepth 100000 in
set_option maxHeartbeats 4000000 in
theorem kX7_findRests {D : va_G} {cI : ClassId} {q : Nat → Nat} {σ : k_S} {r : Int32} {τ : k_S} (h : fX7_findRests σ = some (r, τ)) : k_Ct k_ei yX7_findRests cX7_findRests 4 (some .int) rmX7_findRests (cM cI q) D cI [.ref (q 0)] σ r τ := by
  refine k_met (Y := YX7_findRests) (cM_same _ _) (by decide) rfl (Nat.le_of_ble_eq_true rfl) (List.forall_mem_cons.mpr ⟨rfl, fun _ h => absurd h List.not_mem_nil⟩) (fun X hD hI => ?_) h
  subst hD hI
  show KO X YX7_findRests (cM (k_I X) q) 0 0 (k_Q k_ei X (cM (k_I X) q)) 0 [some (.ref (q 0)), none, none, none] [] σ _
  unfold fX7_findRests
  refine k_iconst (pc := 0) (v := (nI 0)) dX7_findRests_0 (by decide) ?_
  refine k_ist1 (pc := 1) dX7_findRests_1 (Nat.le_of_ble_eq_true rfl) (fun v1 => ?_)
  refine k_iconst (pc := 2) (v := (nI 0)) dX7_findRests_2 (by decide) ?_
  refine k_ist2 (pc := 3) dX7_findRests_3 (Nat.le_of_ble_eq_true rfl) (fun v2 => ?_)
  exact kX7_findRests_c4 k_F σ v1 v2
-- TallTalesModel.rests(I)I
theorem ckX7_rests : k_Vok yX7_rests cX7_rests 3 (some .int) 1 := ⟨kwk_X7_rests, kwi_X7_rests, kwv_X7_rests, kwn_X7, by decide, by decide +kernel⟩
abbrev rmX7_rests : Room := { frames := 5, cells := 0, slots := 0, locals := 114 }
abbrev YX7_rests : k_Y := (rmX7_rests, cX7_rests, 3, RX7, (some .int))
noncomputable def fX7_rests_c15 (σ : k_S) (l1 : Int32) : Option (Int32 × k_S) := k_ob (fX7_findRests σ) fun r1 σ2 => k_bn (r1) fun v3 => (if l1 = (k_ng 1) then some (v3, σ2) else k_gd (l1) 5 (some (σ2.2 16 (Int32.toNatClampNeg (l1)), σ2)))
set_option maxRecDepth 100000 in
set_option maxHeartbeats 4000000 in
theorem kX7_rests_c15 {X : k_C} {q : Nat → Nat} (σ : k_S) (l1 : Int32) : KO X YX7_rests (cM (k_I X) q) 0 0 (k_Q k_ei X (cM (k_I X) q)) 15 [some (.ref (q 0)), some (.int l1), none] [] σ (fX7_rests_c15 σ l1) := by
  unfold fX7_rests_c15
  refine k_aload_n (pc := 15) dX7_rests_15 rfl ?_
  refine k_vi0 (pc := 16) (cM_same _ _) ckX7_findRests kwm_X7_200 cM_rv0 ⟨rfl, rfl⟩ ⟨Nat.le_of_ble_eq_true rfl, Nat.le_of_ble_eq_true rfl⟩ ⟨Nat.zero_le _, Nat.zero_le _⟩ (Nat.le_of_ble_eq_true rfl) dX7_rests_16 (fun _ _ hf => kX7_findRests hf) (fun r1 σ2 => ?_)
  refine k_ist2 (pc := 19) dX7_rests_19 (Nat.le_of_ble_eq_true rfl) (fun v3 => ?_)
  refine k_iload_n (pc := 20) dX7_rests_20 rfl ?_
  refine k_iconst (pc := 21) (v := (k_ng 1)) dX7_rests_21 (by decide) ?_
  refine k_icmp_ne (pc := 22) 29 dX7_rests_22 (by decide) ?_ ?_
  · refine k_aload_n (pc := 29) dX7_rests_29 rfl ?_
    refine k_gMX7_firstRest (pc := 30) kwf_X7_58 rfl dX7_rests_30 ?_
    refine k_iload_n (pc := 33) dX7_rests_33 rfl ?_
    refine k_lM17 (pc := 34) dX7_rests_34 ?_
    exact k_ireturn (pc := 35) rfl dX7_rests_35
  · refine k_iload_n (pc := 25) dX7_rests_25 rfl ?_
    refine k_goto (pc := 26) 35 dX7_rests_26 (by decide) ?_
    exact k_ireturn (pc := 35) rfl dX7_rests_35
noncomputable def fX7_rests (σ : k_S) (x1 : Int32) : Option (Int32 × k_S) := (if x1 = (k_ng 1) then fX7_rests_c15 σ x1 else k_ob (fX7_isGuest σ x1) fun r1 σ2 => (if r1 = 0 then some ((k_ng 1), σ2) else fX7_rests_c15 σ2 x1))
set_option maxRecDepth 100000 in
set_option maxHeartbeats 4000000 in
theorem kX7_rests {D : va_G} {cI : ClassId} {q : Nat → Nat} {σ : k_S} {x1 : Int32} {r : Int32} {τ : k_S} (h : fX7_rests σ x1 = some (r, τ)) : k_Ct k_ei yX7_rests cX7_rests 3 (some .int) rmX7_rests (cM cI q) D cI [.ref (q 0), .int x1] σ r τ := by
  refine k_met (Y := YX7_rests) (cM_same _ _) (by decide) rfl (Nat.le_of_ble_eq_true rfl) (List.forall_mem_cons.mpr ⟨rfl, List.forall_mem_cons.mpr ⟨rfl, fun _ h => absurd h List.not_mem_nil⟩⟩) (fun X hD hI => ?_) h
  subst hD hI
  show KO X YX7_rests (cM (k_I X) q) 0 0 (k_Q k_ei X (cM (k_I X) q)) 0 [some (.ref (q 0)), some (.int x1), none] [] σ _
  unfold fX7_rests
  refine k_iload_n (pc := 0) dX7_rests_0 rfl ?_
  refine k_iconst (pc := 1) (v := (k_ng 1)) dX7_rests_1 (by decide) ?_
  refine k_icmp_eq (pc := 2) 15 dX7_rests_2 (by decide) ?_ ?_
  · exact kX7_rests_c15 σ x1
  · refine k_aload_n (pc := 5) dX7_rests_5 rfl ?_
    refine k_iload_n (pc := 6) dX7_rests_6 rfl ?_
    refine k_vi1 (pc := 7) (cM_same _ _) ckX7_isGuest kwm_X7_145 cM_rv0 ⟨rfl, rfl⟩ ⟨Nat.le_of_ble_eq_true rfl, Nat.le_of_ble_eq_true rfl⟩ ⟨Nat.zero_le _, Nat.zero_le _⟩ (Nat.le_of_ble_eq_true rfl) dX7_rests_7 (fun _ _ hf => kX7_isGuest hf) (fun r1 σ2 => ?_)
    refine k_if_ne (pc := 10) 15 dX7_rests_10 (by decide) ?_ ?_
    · exact kX7_rests_c15 σ2 x1
    · refine k_iconst (pc := 13) (v := (k_ng 1)) dX7_rests_13 (by decide) ?_
      exact k_ireturn (pc := 14) rfl dX7_rests_14
-- TallTalesModel.mayWinter(IIII)Z
theorem ckX7_mayWinter : k_Vok yX7_mayWinter cX7_mayWinter 8 (some .boolean) 4 := ⟨kwk_X7_mayWinter, kwi_X7_mayWinter, kwv_X7_mayWinter, kwn_X7, by decide, by decide +kernel⟩
abbrev rmX7_mayWinter : Room := { frames := 1, cells := 0, slots := 0, locals := 24 }
abbrev YX7_mayWinter : k_Y := (rmX7_mayWinter, cX7_mayWinter, 8, RX7, (some .boolean))
noncomputable def fX7_mayWinter_c81 (kh31 : k_S → Int32 → Int32 → Int32 → Int32 → Int32 → Int32 → Option (Int32 × k_S)) (σ : k_S) (l2 l3 l4 l5 l7 s0 : Int32) : Option (Int32 × k_S) := k_bn (s0) fun v1 => k_bn (l7 + (nI 1)) fun v2 => kh31 σ l2 l3 l4 l5 v1 v2
set_option maxRecDepth 100000 in
set_option maxHeartbeats 4000000 in
theorem kX7_mayWinter_c81 {X : k_C} {q : Nat → Nat} (kh31 : k_S → Int32 → Int32 → Int32 → Int32 → Int32 → Int32 → Option (Int32 × k_S)) (hk31 : ∀ (σ : k_S) (l2 l3 l4 l5 l6 l7 : Int32), KO X YX7_mayWinter (cM (k_I X) q) 0 0 (k_Q k_ei X (cM (k_I X) q)) 31 [some (.ref (q 0)), none, some (.int l2), some (.int l3), some (.int l4), some (.int l5), some (.int l6), some (.int l7)] [] σ (kh31 σ l2 l3 l4 l5 l6 l7)) (σ : k_S) (l2 l3 l4 l5 l7 s0 : Int32) : KO X YX7_mayWinter (cM (k_I X) q) 0 0 (k_Q k_ei X (cM (k_I X) q)) 81 [some (.ref (q 0)), none, some (.int l2), some (.int l3), some (.int l4), some (.int l5), none, some (.int l7)] [.int s0] σ (fX7_mayWinter_c81 kh31 σ l2 l3 l4 l5 l7 s0) := by
  unfold fX7_mayWinter_c81
  refine k_ist6 (pc := 81) dX7_mayWinter_81 (Nat.le_of_ble_eq_true rfl) (fun v1 => ?_)
  refine k_iinc7 (pc := 83) (w := (nI 1)) dX7_mayWinter_83 rfl (by decide) (Nat.le_of_ble_eq_true rfl) (fun v2 => ?_)
  refine k_goto (pc := 86) 31 dX7_mayWinter_86 (by decide) ?_
  exact hk31 σ l2 l3 l4 l5 v1 v2
noncomputable def fX7_mayWinter_c55 (kh31 : k_S → Int32 → Int32 → Int32 → Int32 → Int32 → Int32 → Option (Int32 × k_S)) (σ : k_S) (l2 l3 l4 l6 l7 s0 s1 : Int32) : Option (Int32 × k_S) := k_bn ((s0 + s1)) fun v1 => k_gd (l7) 6 ((if σ.2 17 (Int32.toNatClampNeg (l7)) = l3 then fX7_mayWinter_c81 kh31 σ l2 l3 l4 v1 l7 ((σ.1 8 + l7)) else fX7_mayWinter_c81 kh31 σ l2 l3 l4 v1 l7 l6))
set_option maxRecDepth 100000 in
set_option maxHeartbeats 4000000 in
theorem kX7_mayWinter_c55 {X : k_C} {q : Nat → Nat} (kh31 : k_S → Int32 → Int32 → Int32 → Int32 → Int32 → Int32 → Option (Int32 × k_S)) (hk31 : ∀ (σ : k_S) (l2 l3 l4 l5 l6 l7 : Int32), KO X YX7_mayWinter (cM (k_I X) q) 0 0 (k_Q k_ei X (cM (k_I X) q)) 31 [some (.ref (q 0)), none, some (.int l2), some (.int l3), some (.int l4), some (.int l5), some (.int l6), some (.int l7)] [] σ (kh31 σ l2 l3 l4 l5 l6 l7)) (σ : k_S) (l2 l3 l4 l6 l7 s0 s1 : Int32) : KO X YX7_mayWinter (cM (k_I X) q) 0 0 (k_Q k_ei X (cM (k_I X) q)) 55 [some (.ref (q 0)), none, some (.int l2), some (.int l3), some (.int l4), none, some (.int l6), some (.int l7)] [.int s1, .int s0] σ (fX7_mayWinter_c55 kh31 σ l2 l3 l4 l6 l7 s0 s1) := by
  unfold fX7_mayWinter_c55
  refine k_iadd (pc := 55) dX7_mayWinter_55 ?_
  refine k_ist5 (pc := 56) dX7_mayWinter_56 (Nat.le_of_ble_eq_true rfl) (fun v1 => ?_)
  refine k_aload_n (pc := 58) dX7_mayWinter_58 rfl ?_
  refine k_gMX7_winterTells (pc := 59) kwf_X7_61 rfl dX7_mayWinter_59 ?_
  refine k_iload (pc := 62) dX7_mayWinter_62 rfl ?_
  refine k_lM18 (pc := 64) dX7_mayWinter_64 ?_
  refine k_iload_n (pc := 65) dX7_mayWinter_65 rfl ?_
  refine k_icmp_ne (pc := 66) 79 dX7_mayWinter_66 (by decide) ?_ ?_
  · refine k_iload (pc := 79) dX7_mayWinter_79 rfl ?_
    refine k_fg6 ?_
    exact kX7_mayWinter_c81 kh31 hk31 σ l2 l3 l4 v1 l7 l6
  · refine k_aload_n (pc := 69) dX7_mayWinter_69 rfl ?_
    refine k_gMX7_over (pc := 70) kwf_X7_113 rfl dX7_mayWinter_70 ?_
    refine k_iload (pc := 73) dX7_mayWinter_73 rfl ?_
    refine k_iadd (pc := 75) dX7_mayWinter_75 ?_
    refine k_goto (pc := 76) 81 dX7_mayWinter_76 (by decide) ?_
    refine k_fg6 ?_
    exact kX7_mayWinter_c81 kh31 hk31 σ l2 l3 l4 v1 l7 ((σ.1 8 + l7))
noncomputable def fX7_mayWinter_c31 : Nat → k_S → Int32 → Int32 → Int32 → Int32 → Int32 → Int32 → Option (Int32 × k_S)
  | 0, _, _, _, _, _, _, _ => none
  | n + 1, σ, l2, l3, l4, l5, l6, l7 => (if l7 < l2 then k_gd (l7) 6 ((if σ.2 17 (Int32.toNatClampNeg (l7)) = l3 then fX7_mayWinter_c55 (fX7_mayWinter_c31 n) σ l2 l3 l4 l6 l7 l5 ((nI 1)) else fX7_mayWinter_c55 (fX7_mayWinter_c31 n) σ l2 l3 l4 l6 l7 l5 ((nI 0)))) else k_ob (fX7_mayBe σ l3 l5 l6 ((σ.1 8 + l2))) fun r1 σ2 => (if r1 = 0 then k_z ((nI 0)) (some ((nI 0), σ2)) else k_ob (fX7_tallBy σ2 l3 l5) fun r3 σ4 => (if l4 < r3 then k_z ((nI 1)) (some ((nI 1), σ4)) else k_z ((nI 0)) (some ((nI 0), σ4)))))
theorem fX7_mayWinter_c31_s (n : Nat) (σ : k_S) (l2 l3 l4 l5 l6 l7 : Int32) : fX7_mayWinter_c31 (n + 1) σ l2 l3 l4 l5 l6 l7 = (if l7 < l2 then k_gd (l7) 6 ((if σ.2 17 (Int32.toNatClampNeg (l7)) = l3 then fX7_mayWinter_c55 (fX7_mayWinter_c31 n) σ l2 l3 l4 l6 l7 l5 ((nI 1)) else fX7_mayWinter_c55 (fX7_mayWinter_c31 n) σ l2 l3 l4 l6 l7 l5 ((nI 0)))) else k_ob (fX7_mayBe σ l3 l5 l6 ((σ.1 8 + l2))) fun r1 σ2 => (if r1 = 0 then k_z ((nI 0)) (some ((nI 0), σ2)) else k_ob (fX7_tallBy σ2 l3 l5) fun r3 σ4 => (if l4 < r3 then k_z ((nI 1)) (some ((nI 1), σ4)) else k_z ((nI 0)) (some ((nI 0), σ4))))) := rfl
set_option maxRecDepth 100000 in
set_option maxHeartbeats 4000000 in
theorem kX7_mayWinter_c31 {X : k_C} {q : Nat → Nat} : ∀ (n : Nat) (σ : k_S) (l2 l3 l4 l5 l6 l7 : Int32), KO X YX7_mayWinter (cM (k_I X) q) 0 0 (k_Q k_ei X (cM (k_I X) q)) 31 [some (.ref (q 0)), none, some (.int l2), some (.int l3), some (.int l4), some (.int l5), some (.int l6), some (.int l7)] [] σ (fX7_mayWinter_c31 n σ l2 l3 l4 l5 l6 l7) := by
  intro n
  induction n with
  | zero => intros; exact KO.nil
  | succ n ih =>
    intro σ l2 l3 l4 l5 l6 l7
    rw [fX7_mayWinter_c31_s]
    refine k_iload (pc := 31) dX7_mayWinter_31 rfl ?_
    refine k_iload_n (pc := 33) dX7_mayWinter_33 rfl ?_
    refine k_icmp_ge (pc := 34) 89 dX7_mayWinter_34 (by decide) ?_ ?_
    · refine k_aload_n (pc := 89) dX7_mayWinter_89 rfl ?_
      refine k_iload_n (pc := 90) dX7_mayWinter_90 rfl ?_
      refine k_iload (pc := 91) dX7_mayWinter_91 rfl ?_
      refine k_iload (pc := 93) dX7_mayWinter_93 rfl ?_
      refine k_aload_n (pc := 95) dX7_mayWinter_95 rfl ?_
      refine k_gMX7_over (pc := 96) kwf_X7_113 rfl dX7_mayWinter_96 ?_
      refine k_iload_n (pc := 99) dX7_mayWinter_99 rfl ?_
      refine k_iadd (pc := 100) dX7_mayWinter_100 ?_
      refine k_vi4 (pc := 101) (cM_same _ _) ckX7_mayBe kwm_X7_129 cM_rv0 ⟨rfl, rfl⟩ ⟨Nat.le_of_ble_eq_true rfl, Nat.le_of_ble_eq_true rfl⟩ ⟨Nat.zero_le _, Nat.zero_le _⟩ (Nat.le_of_ble_eq_true rfl) dX7_mayWinter_101 (fun _ _ hf => kX7_mayBe hf) (fun r1 σ2 => ?_)
      refine k_if_eq (pc := 104) 123 dX7_mayWinter_104 (by decide) ?_ ?_
      · refine k_iconst (pc := 123) (v := (nI 0)) dX7_mayWinter_123 (by decide) ?_
        exact k_zreturn (pc := 124) rfl dX7_mayWinter_124
      · refine k_aload_n (pc := 107) dX7_mayWinter_107 rfl ?_
        refine k_iload_n (pc := 108) dX7_mayWinter_108 rfl ?_
        refine k_iload (pc := 109) dX7_mayWinter_109 rfl ?_
        refine k_vi2 (pc := 111) (cM_same _ _) ckX7_tallBy kwm_X7_133 cM_rv0 ⟨rfl, rfl⟩ ⟨Nat.le_of_ble_eq_true rfl, Nat.le_of_ble_eq_true rfl⟩ ⟨Nat.zero_le _, Nat.zero_le _⟩ (Nat.le_of_ble_eq_true rfl) dX7_mayWinter_111 (fun _ _ hf => kX7_tallBy hf) (fun r3 σ4 => ?_)
        refine k_iload (pc := 114) dX7_mayWinter_114 rfl ?_
        refine k_icmp_le (pc := 116) 123 dX7_mayWinter_116 (by decide) ?_ ?_
        · refine k_iconst (pc := 123) (v := (nI 0)) dX7_mayWinter_123 (by decide) ?_
          exact k_zreturn (pc := 124) rfl dX7_mayWinter_124
        · refine k_iconst (pc := 119) (v := (nI 1)) dX7_mayWinter_119 (by decide) ?_
          refine k_goto (pc := 120) 124 dX7_mayWinter_120 (by decide) ?_
          exact k_zreturn (pc := 124) rfl dX7_mayWinter_124
    · refine k_iload (pc := 37) dX7_mayWinter_37 rfl ?_
      refine k_aload_n (pc := 39) dX7_mayWinter_39 rfl ?_
      refine k_gMX7_winterTells (pc := 40) kwf_X7_61 rfl dX7_mayWinter_40 ?_
      refine k_iload (pc := 43) dX7_mayWinter_43 rfl ?_
      refine k_lM18 (pc := 45) dX7_mayWinter_45 ?_
      refine k_iload_n (pc := 46) dX7_mayWinter_46 rfl ?_
      refine k_icmp_ne (pc := 47) 54 dX7_mayWinter_47 (by decide) ?_ ?_
      · refine k_iconst (pc := 54) (v := (nI 0)) dX7_mayWinter_54 (by decide) ?_
        refine k_fg5 ?_
        exact kX7_mayWinter_c55 (fX7_mayWinter_c31 n) ih σ l2 l3 l4 l6 l7 l5 ((nI 0))
      · refine k_iconst (pc := 50) (v := (nI 1)) dX7_mayWinter_50 (by decide) ?_
        refine k_goto (pc := 51) 55 dX7_mayWinter_51 (by decide) ?_
        refine k_fg5 ?_
        exact kX7_mayWinter_c55 (fX7_mayWinter_c31 n) ih σ l2 l3 l4 l6 l7 l5 ((nI 1))
noncomputable def fX7_mayWinter (σ : k_S) (x1 x2 x3 x4 : Int32) : Option (Int32 × k_S) := k_gd (x3) 10 ((if σ.2 4 (Int32.toNatClampNeg (x3)) = x1 then k_gd (x3) 10 (k_bn (σ.2 12 (Int32.toNatClampNeg (x3))) fun v1 => k_gd (x3) 10 (k_bn (σ.2 13 (Int32.toNatClampNeg (x3))) fun v2 => k_bn ((nI 0)) fun v3 => fX7_mayWinter_c31 k_F σ x2 x3 x4 v1 v2 v3)) else k_z ((nI 0)) (some ((nI 0), σ))))
set_option maxRecDepth 100000 in
set_option maxHeartbeats 4000000 in
theorem kX7_mayWinter {D : va_G} {cI : ClassId} {q : Nat → Nat} {σ : k_S} {x1 x2 x3 x4 : Int32} {r : Int32} {τ : k_S} (h : fX7_mayWinter σ x1 x2 x3 x4 = some (r, τ)) : k_Ct k_ei yX7_mayWinter cX7_mayWinter 8 (some .boolean) rmX7_mayWinter (cM cI q) D cI [.ref (q 0), .int x1, .int x2, .int x3, .int x4] σ r τ := by
  refine k_met (Y := YX7_mayWinter) (cM_same _ _) (by decide) rfl (Nat.le_of_ble_eq_true rfl) (List.forall_mem_cons.mpr ⟨rfl, List.forall_mem_cons.mpr ⟨rfl, List.forall_mem_cons.mpr ⟨rfl, List.forall_mem_cons.mpr ⟨rfl, List.forall_mem_cons.mpr ⟨rfl, fun _ h => absurd h List.not_mem_nil⟩⟩⟩⟩⟩) (fun X hD hI => ?_) h
  subst hD hI
  show KO X YX7_mayWinter (cM (k_I X) q) 0 0 (k_Q k_ei X (cM (k_I X) q)) 0 [some (.ref (q 0)), some (.int x1), some (.int x2), some (.int x3), some (.int x4), none, none, none] [] σ _
  unfold fX7_mayWinter
  refine k_aload_n (pc := 0) dX7_mayWinter_0 rfl ?_
  refine k_gMX7_whose (pc := 1) kwf_X7_22 rfl dX7_mayWinter_1 ?_
  refine k_iload_n (pc := 4) dX7_mayWinter_4 rfl ?_
  refine k_lM5 (pc := 5) dX7_mayWinter_5 ?_
  refine k_iload_n (pc := 6) dX7_mayWinter_6 rfl ?_
  refine k_icmp_eq (pc := 7) 12 dX7_mayWinter_7 (by decide) ?_ ?_
  · refine k_aload_n (pc := 12) dX7_mayWinter_12 rfl ?_
    refine k_gMX7_times (pc := 13) kwf_X7_46 rfl dX7_mayWinter_13 ?_
    refine k_iload_n (pc := 16) dX7_mayWinter_16 rfl ?_
    refine k_lM13 (pc := 17) dX7_mayWinter_17 ?_
    refine k_ist5 (pc := 18) dX7_mayWinter_18 (Nat.le_of_ble_eq_true rfl) (fun v1 => ?_)
    refine k_aload_n (pc := 20) dX7_mayWinter_20 rfl ?_
    refine k_gMX7_last (pc := 21) kwf_X7_49 rfl dX7_mayWinter_21 ?_
    refine k_iload_n (pc := 24) dX7_mayWinter_24 rfl ?_
    refine k_lM14 (pc := 25) dX7_mayWinter_25 ?_
    refine k_ist6 (pc := 26) dX7_mayWinter_26 (Nat.le_of_ble_eq_true rfl) (fun v2 => ?_)
    refine k_iconst (pc := 28) (v := (nI 0)) dX7_mayWinter_28 (by decide) ?_
    refine k_ist7 (pc := 29) dX7_mayWinter_29 (Nat.le_of_ble_eq_true rfl) (fun v3 => ?_)
    refine k_fg1 ?_
    exact kX7_mayWinter_c31 k_F σ x2 x3 x4 v1 v2 v3
  · refine k_iconst (pc := 10) (v := (nI 0)) dX7_mayWinter_10 (by decide) ?_
    exact k_zreturn (pc := 11) rfl dX7_mayWinter_11
-- TallTalesModel.nightsOf([II)I
theorem ckX7_nightsOf : k_Sok yX7_nightsOf cX7_nightsOf 4 (some .int) 2 := ⟨kwk_X7_nightsOf, kws_X7_nightsOf, kwn_X7, by decide, by decide +kernel⟩
abbrev rmX7_nightsOf : Room := { frames := 0, cells := 0, slots := 0, locals := 0 }
abbrev YX7_nightsOf : k_Y := (rmX7_nightsOf, cX7_nightsOf, 4, RX7, (some .int))
noncomputable def fX7_nightsOf_c23 (kh4 : k_S → Int32 → Int32 → Int32 → Option (Int32 × k_S)) (σ : k_S) (l1 l3 s0 s1 : Int32) : Option (Int32 × k_S) := k_bn ((s0 + s1)) fun v1 => k_bn (l3 + (nI 1)) fun v2 => kh4 σ l1 v1 v2
set_option maxRecDepth 100000 in
set_option maxHeartbeats 4000000 in
theorem kX7_nightsOf_c23 {X : k_C} {q : Nat → Nat} (kh4 : k_S → Int32 → Int32 → Int32 → Option (Int32 × k_S)) (hk4 : ∀ (σ : k_S) (l1 l2 l3 : Int32), KO X YX7_nightsOf (cM (k_I X) q) 0 0 (k_Q k_ei X (cM (k_I X) q)) 4 [some (.ref (q 18)), some (.int l1), some (.int l2), some (.int l3)] [] σ (kh4 σ l1 l2 l3)) (σ : k_S) (l1 l3 s0 s1 : Int32) : KO X YX7_nightsOf (cM (k_I X) q) 0 0 (k_Q k_ei X (cM (k_I X) q)) 23 [some (.ref (q 18)), some (.int l1), none, some (.int l3)] [.int s1, .int s0] σ (fX7_nightsOf_c23 kh4 σ l1 l3 s0 s1) := by
  unfold fX7_nightsOf_c23
  refine k_iadd (pc := 23) dX7_nightsOf_23 ?_
  refine k_ist2 (pc := 24) dX7_nightsOf_24 (Nat.le_of_ble_eq_true rfl) (fun v1 => ?_)
  refine k_iinc3 (pc := 25) (w := (nI 1)) dX7_nightsOf_25 rfl (by decide) (Nat.le_of_ble_eq_true rfl) (fun v2 => ?_)
  refine k_goto (pc := 28) 4 dX7_nightsOf_28 (by decide) ?_
  exact hk4 σ l1 v1 v2
noncomputable def fX7_nightsOf_c4 : Nat → k_S → Int32 → Int32 → Int32 → Option (Int32 × k_S)
  | 0, _, _, _, _ => none
  | n + 1, σ, l1, l2, l3 => (if l3 < l1 then k_gd (l3) 6 ((if σ.2 17 (Int32.toNatClampNeg (l3)) = (nI 10) then fX7_nightsOf_c23 (fX7_nightsOf_c4 n) σ l1 l3 l2 ((nI 0)) else fX7_nightsOf_c23 (fX7_nightsOf_c4 n) σ l1 l3 l2 ((nI 1)))) else some (l2, σ))
theorem fX7_nightsOf_c4_s (n : Nat) (σ : k_S) (l1 l2 l3 : Int32) : fX7_nightsOf_c4 (n + 1) σ l1 l2 l3 = (if l3 < l1 then k_gd (l3) 6 ((if σ.2 17 (Int32.toNatClampNeg (l3)) = (nI 10) then fX7_nightsOf_c23 (fX7_nightsOf_c4 n) σ l1 l3 l2 ((nI 0)) else fX7_nightsOf_c23 (fX7_nightsOf_c4 n) σ l1 l3 l2 ((nI 1)))) else some (l2, σ)) := rfl
set_option maxRecDepth 100000 in
set_option maxHeartbeats 4000000 in
theorem kX7_nightsOf_c4 {X : k_C} {q : Nat → Nat} : ∀ (n : Nat) (σ : k_S) (l1 l2 l3 : Int32), KO X YX7_nightsOf (cM (k_I X) q) 0 0 (k_Q k_ei X (cM (k_I X) q)) 4 [some (.ref (q 18)), some (.int l1), some (.int l2), some (.int l3)] [] σ (fX7_nightsOf_c4 n σ l1 l2 l3) := by
  intro n
  induction n with
  | zero => intros; exact KO.nil
  | succ n ih =>
    intro σ l1 l2 l3
    rw [fX7_nightsOf_c4_s]
    refine k_iload_n (pc := 4) dX7_nightsOf_4 rfl ?_
    refine k_iload_n (pc := 5) dX7_nightsOf_5 rfl ?_
    refine k_icmp_ge (pc := 6) 31 dX7_nightsOf_6 (by decide) ?_ ?_
    · refine k_iload_n (pc := 31) dX7_nightsOf_31 rfl ?_
      exact k_ireturn (pc := 32) rfl dX7_nightsOf_32
    · refine k_iload_n (pc := 9) dX7_nightsOf_9 rfl ?_
      refine k_aload_n (pc := 10) dX7_nightsOf_10 rfl ?_
      refine k_iload_n (pc := 11) dX7_nightsOf_11 rfl ?_
      refine k_lM18 (pc := 12) dX7_nightsOf_12 ?_
      refine k_bipush (pc := 13) (v := (nI 10)) dX7_nightsOf_13 (by decide) ?_
      refine k_icmp_ne (pc := 15) 22 dX7_nightsOf_15 (by decide) ?_ ?_
      · refine k_iconst (pc := 22) (v := (nI 1)) dX7_nightsOf_22 (by decide) ?_
        refine k_fg2 ?_
        exact kX7_nightsOf_c23 (fX7_nightsOf_c4 n) ih σ l1 l3 l2 ((nI 1))
      · refine k_iconst (pc := 18) (v := (nI 0)) dX7_nightsOf_18 (by decide) ?_
        refine k_goto (pc := 19) 23 dX7_nightsOf_19 (by decide) ?_
        refine k_fg2 ?_
        exact kX7_nightsOf_c23 (fX7_nightsOf_c4 n) ih σ l1 l3 l2 ((nI 0))
noncomputable def fX7_nightsOf (σ : k_S) (x1 : Int32) : Option (Int32 × k_S) := k_bn ((nI 0)) fun v1 => k_bn ((nI 0)) fun v2 => fX7_nightsOf_c4 k_F σ x1 v1 v2
set_option maxRecDepth 100000 in
set_option maxHeartbeats 4000000 in
theorem kX7_nightsOf {D : va_G} {cI : ClassId} {q : Nat → Nat} {σ : k_S} {x1 : Int32} {r : Int32} {τ : k_S} (h : fX7_nightsOf σ x1 = some (r, τ)) : k_Ct k_ei yX7_nightsOf cX7_nightsOf 4 (some .int) rmX7_nightsOf (cM cI q) D cI [.ref (q 18), .int x1] σ r τ := by
  refine k_met (Y := YX7_nightsOf) (cM_same _ _) (by decide) rfl (Nat.le_of_ble_eq_true rfl) (List.forall_mem_cons.mpr ⟨rfl, List.forall_mem_cons.mpr ⟨rfl, fun _ h => absurd h List.not_mem_nil⟩⟩) (fun X hD hI => ?_) h
  subst hD hI
  show KO X YX7_nightsOf (cM (k_I X) q) 0 0 (k_Q k_ei X (cM (k_I X) q)) 0 [some (.ref (q 18)), some (.int x1), none, none] [] σ _
  unfold fX7_nightsOf
  refine k_iconst (pc := 0) (v := (nI 0)) dX7_nightsOf_0 (by decide) ?_
  refine k_ist2 (pc := 1) dX7_nightsOf_1 (Nat.le_of_ble_eq_true rfl) (fun v1 => ?_)
  refine k_iconst (pc := 2) (v := (nI 0)) dX7_nightsOf_2 (by decide) ?_
  refine k_ist3 (pc := 3) dX7_nightsOf_3 (Nat.le_of_ble_eq_true rfl) (fun v2 => ?_)
  exact kX7_nightsOf_c4 k_F σ x1 v1 v2
-- TallTalesModel.findWinter(III)I
theorem ckX7_findWinter : k_Vok yX7_findWinter cX7_findWinter 8 (some .int) 3 := ⟨kwk_X7_findWinter, kwi_X7_findWinter, kwv_X7_findWinter, kwn_X7, by decide, by decide +kernel⟩
abbrev rmX7_findWinter : Room := { frames := 2, cells := 0, slots := 0, locals := 51 }
abbrev YX7_findWinter : k_Y := (rmX7_findWinter, cX7_findWinter, 8, RX7, (some .int))
noncomputable def fX7_findWinter_c82 (kh14 : k_S → Int32 → Int32 → Int32 → Int32 → Int32 → Option (Int32 × k_S)) (kh30 : k_S → Int32 → Int32 → Int32 → Int32 → Int32 → Option (Int32 × k_S)) (σ : k_S) (l1 l2 l3 l4 l5 : Int32) : Option (Int32 × k_S) := k_gd (l5) 6 (k_gd (l5) 6 (k_bn (k_sa σ 17 (l5) ((σ.2 17 (Int32.toNatClampNeg (l5)) + (nI 1)))) fun σ1 => kh30 σ1 l1 l2 l3 l4 l5))
set_option maxRecDepth 100000 in
set_option maxHeartbeats 4000000 in
theorem kX7_findWinter_c82 {X : k_C} {q : Nat → Nat} (kh14 : k_S → Int32 → Int32 → Int32 → Int32 → Int32 → Option (Int32 × k_S)) (hk14 : ∀ (σ : k_S) (l1 l2 l3 l4 l5 : Int32), KO X YX7_findWinter (cM (k_I X) q) 0 0 (k_Q k_ei X (cM (k_I X) q)) 14 [some (.ref (q 0)), some (.int l1), some (.int l2), some (.int l3), some (.int l4), some (.int l5), none, none] [] σ (kh14 σ l1 l2 l3 l4 l5)) (kh30 : k_S → Int32 → Int32 → Int32 → Int32 → Int32 → Option (Int32 × k_S)) (hk30 : ∀ (σ : k_S) (l1 l2 l3 l4 l5 : Int32), KO X YX7_findWinter (cM (k_I X) q) 0 0 (k_Q k_ei X (cM (k_I X) q)) 30 [some (.ref (q 0)), some (.int l1), some (.int l2), some (.int l3), some (.int l4), some (.int l5), none, none] [] σ (kh30 σ l1 l2 l3 l4 l5)) (σ : k_S) (l1 l2 l3 l4 l5 : Int32) : KO X YX7_findWinter (cM (k_I X) q) 0 0 (k_Q k_ei X (cM (k_I X) q)) 82 [some (.ref (q 0)), some (.int l1), some (.int l2), some (.int l3), some (.int l4), some (.int l5), none, none] [] σ (fX7_findWinter_c82 kh14 kh30 σ l1 l2 l3 l4 l5) := by
  unfold fX7_findWinter_c82
  refine k_aload_n (pc := 82) dX7_findWinter_82 rfl ?_
  refine k_gMX7_winterTells (pc := 83) kwf_X7_61 rfl dX7_findWinter_83 ?_
  refine k_iload (pc := 86) dX7_findWinter_86 rfl ?_
  refine k_dup2 (pc := 88) dX7_findWinter_88 rfl rfl ?_
  refine k_lM18 (pc := 89) dX7_findWinter_89 ?_
  refine k_iconst (pc := 90) (v := (nI 1)) dX7_findWinter_90 (by decide) ?_
  refine k_iadd (pc := 91) dX7_findWinter_91 ?_
  refine k_sM18 (pc := 92) dX7_findWinter_92 (fun σ1 => ?_)
  refine k_goto (pc := 93) 30 dX7_findWinter_93 (by decide) ?_
  exact hk30 σ1 l1 l2 l3 l4 l5
noncomputable def fX7_findWinter_c235 (kh14 : k_S → Int32 → Int32 → Int32 → Int32 → Int32 → Option (Int32 × k_S)) (σ : k_S) (l1 l2 l3 l4 l5 : Int32) : Option (Int32 × k_S) := kh14 σ l1 l2 l3 l4 l5
set_option maxRecDepth 100000 in
set_option maxHeartbeats 4000000 in
theorem kX7_findWinter_c235 {X : k_C} {q : Nat → Nat} (kh14 : k_S → Int32 → Int32 → Int32 → Int32 → Int32 → Option (Int32 × k_S)) (hk14 : ∀ (σ : k_S) (l1 l2 l3 l4 l5 : Int32), KO X YX7_findWinter (cM (k_I X) q) 0 0 (k_Q k_ei X (cM (k_I X) q)) 14 [some (.ref (q 0)), some (.int l1), some (.int l2), some (.int l3), some (.int l4), some (.int l5), none, none] [] σ (kh14 σ l1 l2 l3 l4 l5)) (σ : k_S) (l1 l2 l3 l4 l5 : Int32) : KO X YX7_findWinter (cM (k_I X) q) 0 0 (k_Q k_ei X (cM (k_I X) q)) 235 [some (.ref (q 0)), some (.int l1), some (.int l2), some (.int l3), some (.int l4), some (.int l5), none, none] [] σ (fX7_findWinter_c235 kh14 σ l1 l2 l3 l4 l5) := by
  unfold fX7_findWinter_c235
  refine k_goto (pc := 235) 14 dX7_findWinter_235 (by decide) ?_
  exact hk14 σ l1 l2 l3 l4 l5
noncomputable def fX7_findWinter_c190 (kh14 : k_S → Int32 → Int32 → Int32 → Int32 → Int32 → Option (Int32 × k_S)) : Nat → k_S → Int32 → Int32 → Int32 → Int32 → Int32 → Int32 → Option (Int32 × k_S)
  | 0, _, _, _, _, _, _, _ => none
  | n + 1, σ, l1, l2, l3, l4, l5, l7 => (if l7 < l3 then k_gd (l7) 6 (k_gd (l7) 6 (k_bn (k_sa σ 18 (l7) (σ.2 17 (Int32.toNatClampNeg (l7)))) fun σ1 => k_bn (l7 + (nI 1)) fun v2 => fX7_findWinter_c190 kh14 n σ1 l1 l2 l3 l4 l5 v2)) else fX7_findWinter_c235 kh14 σ l1 l2 l3 l4 l5)
theorem fX7_findWinter_c190_s (kh14 : k_S → Int32 → Int32 → Int32 → Int32 → Int32 → Option (Int32 × k_S)) (n : Nat) (σ : k_S) (l1 l2 l3 l4 l5 l7 : Int32) : fX7_findWinter_c190 kh14 (n + 1) σ l1 l2 l3 l4 l5 l7 = (if l7 < l3 then k_gd (l7) 6 (k_gd (l7) 6 (k_bn (k_sa σ 18 (l7) (σ.2 17 (Int32.toNatClampNeg (l7)))) fun σ1 => k_bn (l7 + (nI 1)) fun v2 => fX7_findWinter_c190 kh14 n σ1 l1 l2 l3 l4 l5 v2)) else fX7_findWinter_c235 kh14 σ l1 l2 l3 l4 l5) := rfl
set_option maxRecDepth 100000 in
set_option maxHeartbeats 4000000 in
theorem kX7_findWinter_c190 {X : k_C} {q : Nat → Nat} (kh14 : k_S → Int32 → Int32 → Int32 → Int32 → Int32 → Option (Int32 × k_S)) (hk14 : ∀ (σ : k_S) (l1 l2 l3 l4 l5 : Int32), KO X YX7_findWinter (cM (k_I X) q) 0 0 (k_Q k_ei X (cM (k_I X) q)) 14 [some (.ref (q 0)), some (.int l1), some (.int l2), some (.int l3), some (.int l4), some (.int l5), none, none] [] σ (kh14 σ l1 l2 l3 l4 l5)) : ∀ (n : Nat) (σ : k_S) (l1 l2 l3 l4 l5 l7 : Int32), KO X YX7_findWinter (cM (k_I X) q) 0 0 (k_Q k_ei X (cM (k_I X) q)) 190 [some (.ref (q 0)), some (.int l1), some (.int l2), some (.int l3), some (.int l4), some (.int l5), none, some (.int l7)] [] σ (fX7_findWinter_c190 kh14 n σ l1 l2 l3 l4 l5 l7) := by
  intro n
  induction n with
  | zero => intros; exact KO.nil
  | succ n ih =>
    intro σ l1 l2 l3 l4 l5 l7
    rw [fX7_findWinter_c190_s]
    refine k_iload (pc := 190) dX7_findWinter_190 rfl ?_
    refine k_iload_n (pc := 192) dX7_findWinter_192 rfl ?_
    refine k_icmp_ge (pc := 193) 216 dX7_findWinter_193 (by decide) ?_ ?_
    · refine k_goto (pc := 216) 235 dX7_findWinter_216 (by decide) ?_
      refine k_fg7 ?_
      exact kX7_findWinter_c235 kh14 hk14 σ l1 l2 l3 l4 l5
    · refine k_aload_n (pc := 196) dX7_findWinter_196 rfl ?_
      refine k_gMX7_winterBest (pc := 197) kwf_X7_64 rfl dX7_findWinter_197 ?_
      refine k_iload (pc := 200) dX7_findWinter_200 rfl ?_
      refine k_aload_n (pc := 202) dX7_findWinter_202 rfl ?_
      refine k_gMX7_winterTells (pc := 203) kwf_X7_61 rfl dX7_findWinter_203 ?_
      refine k_iload (pc := 206) dX7_findWinter_206 rfl ?_
      refine k_lM18 (pc := 208) dX7_findWinter_208 ?_
      refine k_sM19 (pc := 209) dX7_findWinter_209 (fun σ1 => ?_)
      refine k_iinc7 (pc := 210) (w := (nI 1)) dX7_findWinter_210 rfl (by decide) (Nat.le_of_ble_eq_true rfl) (fun v2 => ?_)
      refine k_goto (pc := 213) 190 dX7_findWinter_213 (by decide) ?_
      exact ih σ1 l1 l2 l3 l4 l5 v2
noncomputable def fX7_findWinter_c136 (kh14 : k_S → Int32 → Int32 → Int32 → Int32 → Int32 → Option (Int32 × k_S)) (σ : k_S) (l1 l2 l3 l4 l5 s0 : Int32) : Option (Int32 × k_S) := k_bn (s0) fun v1 => k_gd (l5) 6 ((if (nI 10) < σ.2 17 (Int32.toNatClampNeg (l5)) then k_bn (l5 + (k_ng 1)) fun v10 => fX7_findWinter_c235 kh14 σ l1 l2 l3 l4 v10 else (if l5 = (l3 - (nI 1)) then k_ob (fX7_nightsOf σ l3) fun r4 σ5 => (if l4 < r4 then k_ob (fX7_nightsOf σ5 l3) fun r6 σ7 => k_bn (r6) fun v8 => k_bn ((nI 0)) fun v9 => fX7_findWinter_c190 kh14 k_F σ7 l1 l2 l3 v8 l5 v9 else fX7_findWinter_c235 kh14 σ5 l1 l2 l3 l4 l5) else (if v1 = 0 then k_bn (l5 + (nI 1)) fun v2 => k_gd (v2) 6 (k_bn (k_sa σ 17 (v2) ((k_ng 1))) fun σ3 => fX7_findWinter_c235 kh14 σ3 l1 l2 l3 l4 v2) else fX7_findWinter_c235 kh14 σ l1 l2 l3 l4 l5))))
set_option maxRecDepth 100000 in
set_option maxHeartbeats 4000000 in
theorem kX7_findWinter_c136 {X : k_C} {q : Nat → Nat} (kh14 : k_S → Int32 → Int32 → Int32 → Int32 → Int32 → Option (Int32 × k_S)) (hk14 : ∀ (σ : k_S) (l1 l2 l3 l4 l5 : Int32), KO X YX7_findWinter (cM (k_I X) q) 0 0 (k_Q k_ei X (cM (k_I X) q)) 14 [some (.ref (q 0)), some (.int l1), some (.int l2), some (.int l3), some (.int l4), some (.int l5), none, none] [] σ (kh14 σ l1 l2 l3 l4 l5)) (σ : k_S) (l1 l2 l3 l4 l5 s0 : Int32) : KO X YX7_findWinter (cM (k_I X) q) 0 0 (k_Q k_ei X (cM (k_I X) q)) 136 [some (.ref (q 0)), some (.int l1), some (.int l2), some (.int l3), some (.int l4), some (.int l5), none, none] [.int s0] σ (fX7_findWinter_c136 kh14 σ l1 l2 l3 l4 l5 s0) := by
  unfold fX7_findWinter_c136
  refine k_ist6 (pc := 136) dX7_findWinter_136 (Nat.le_of_ble_eq_true rfl) (fun v1 => ?_)
  refine k_aload_n (pc := 138) dX7_findWinter_138 rfl ?_
  refine k_gMX7_winterTells (pc := 139) kwf_X7_61 rfl dX7_findWinter_139 ?_
  refine k_iload (pc := 142) dX7_findWinter_142 rfl ?_
  refine k_lM18 (pc := 144) dX7_findWinter_144 ?_
  refine k_bipush (pc := 145) (v := (nI 10)) dX7_findWinter_145 (by decide) ?_
  refine k_icmp_le (pc := 147) 156 dX7_findWinter_147 (by decide) ?_ ?_
  · refine k_iload (pc := 156) dX7_findWinter_156 rfl ?_
    refine k_iload_n (pc := 158) dX7_findWinter_158 rfl ?_
    refine k_iconst (pc := 159) (v := (nI 1)) dX7_findWinter_159 (by decide) ?_
    refine k_isub (pc := 160) dX7_findWinter_160 ?_
    refine k_icmp_ne (pc := 161) 219 dX7_findWinter_161 (by decide) ?_ ?_
    · refine k_iload (pc := 219) dX7_findWinter_219 rfl ?_
      refine k_if_ne (pc := 221) 235 dX7_findWinter_221 (by decide) ?_ ?_
      · refine k_fg6 ?_
        exact kX7_findWinter_c235 kh14 hk14 σ l1 l2 l3 l4 l5
      · refine k_iinc5 (pc := 224) (w := (nI 1)) dX7_findWinter_224 rfl (by decide) (Nat.le_of_ble_eq_true rfl) (fun v2 => ?_)
        refine k_aload_n (pc := 227) dX7_findWinter_227 rfl ?_
        refine k_gMX7_winterTells (pc := 228) kwf_X7_61 rfl dX7_findWinter_228 ?_
        refine k_iload (pc := 231) dX7_findWinter_231 rfl ?_
        refine k_iconst (pc := 233) (v := (k_ng 1)) dX7_findWinter_233 (by decide) ?_
        refine k_sM18 (pc := 234) dX7_findWinter_234 (fun σ3 => ?_)
        refine k_fg6 ?_
        exact kX7_findWinter_c235 kh14 hk14 σ3 l1 l2 l3 l4 v2
    · refine k_aload_n (pc := 164) dX7_findWinter_164 rfl ?_
      refine k_gMX7_winterTells (pc := 165) kwf_X7_61 rfl dX7_findWinter_165 ?_
      refine k_iload_n (pc := 168) dX7_findWinter_168 rfl ?_
      refine k_si2 (pc := 169) (cM_same _ _) ckX7_nightsOf kwm_X7_206 ⟨rfl, rfl⟩ ⟨Nat.le_of_ble_eq_true rfl, Nat.le_of_ble_eq_true rfl⟩ ⟨Nat.zero_le _, Nat.zero_le _⟩ (Nat.le_of_ble_eq_true rfl) dX7_findWinter_169 (fun _ _ hf => kX7_nightsOf hf) (fun r4 σ5 => ?_)
      refine k_iload (pc := 172) dX7_findWinter_172 rfl ?_
      refine k_icmp_le (pc := 174) 235 dX7_findWinter_174 (by decide) ?_ ?_
      · refine k_fg6 ?_
        exact kX7_findWinter_c235 kh14 hk14 σ5 l1 l2 l3 l4 l5
      · refine k_aload_n (pc := 177) dX7_findWinter_177 rfl ?_
        refine k_gMX7_winterTells (pc := 178) kwf_X7_61 rfl dX7_findWinter_178 ?_
        refine k_iload_n (pc := 181) dX7_findWinter_181 rfl ?_
        refine k_si2 (pc := 182) (cM_same _ _) ckX7_nightsOf kwm_X7_206 ⟨rfl, rfl⟩ ⟨Nat.le_of_ble_eq_true rfl, Nat.le_of_ble_eq_true rfl⟩ ⟨Nat.zero_le _, Nat.zero_le _⟩ (Nat.le_of_ble_eq_true rfl) dX7_findWinter_182 (fun _ _ hf => kX7_nightsOf hf) (fun r6 σ7 => ?_)
        refine k_ist4 (pc := 185) dX7_findWinter_185 (Nat.le_of_ble_eq_true rfl) (fun v8 => ?_)
        refine k_iconst (pc := 187) (v := (nI 0)) dX7_findWinter_187 (by decide) ?_
        refine k_ist7 (pc := 188) dX7_findWinter_188 (Nat.le_of_ble_eq_true rfl) (fun v9 => ?_)
        refine k_fg6 ?_
        exact kX7_findWinter_c190 kh14 hk14 k_F σ7 l1 l2 l3 v8 l5 v9
  · refine k_iinc5 (pc := 150) (w := (k_ng 1)) dX7_findWinter_150 rfl (by decide) (Nat.le_of_ble_eq_true rfl) (fun v10 => ?_)
    refine k_goto (pc := 153) 235 dX7_findWinter_153 (by decide) ?_
    refine k_fg6 ?_
    exact kX7_findWinter_c235 kh14 hk14 σ l1 l2 l3 l4 v10
noncomputable def fX7_findWinter_c135 (kh14 : k_S → Int32 → Int32 → Int32 → Int32 → Int32 → Option (Int32 × k_S)) (σ : k_S) (l1 l2 l3 l4 l5 : Int32) : Option (Int32 × k_S) := fX7_findWinter_c136 kh14 σ l1 l2 l3 l4 l5 ((nI 0))
set_option maxRecDepth 100000 in
set_option maxHeartbeats 4000000 in
theorem kX7_findWinter_c135 {X : k_C} {q : Nat → Nat} (kh14 : k_S → Int32 → Int32 → Int32 → Int32 → Int32 → Option (Int32 × k_S)) (hk14 : ∀ (σ : k_S) (l1 l2 l3 l4 l5 : Int32), KO X YX7_findWinter (cM (k_I X) q) 0 0 (k_Q k_ei X (cM (k_I X) q)) 14 [some (.ref (q 0)), some (.int l1), some (.int l2), some (.int l3), some (.int l4), some (.int l5), none, none] [] σ (kh14 σ l1 l2 l3 l4 l5)) (σ : k_S) (l1 l2 l3 l4 l5 : Int32) : KO X YX7_findWinter (cM (k_I X) q) 0 0 (k_Q k_ei X (cM (k_I X) q)) 135 [some (.ref (q 0)), some (.int l1), some (.int l2), some (.int l3), some (.int l4), some (.int l5), none, none] [] σ (fX7_findWinter_c135 kh14 σ l1 l2 l3 l4 l5) := by
  unfold fX7_findWinter_c135
  refine k_iconst (pc := 135) (v := (nI 0)) dX7_findWinter_135 (by decide) ?_
  exact kX7_findWinter_c136 kh14 hk14 σ l1 l2 l3 l4 l5 ((nI 0))
noncomputable def fX7_findWinter_c96 (kh14 : k_S → Int32 → Int32 → Int32 → Int32 → Int32 → Option (Int32 × k_S)) (σ : k_S) (l1 l2 l3 l4 l5 : Int32) : Option (Int32 × k_S) := k_gd (l5) 6 ((if (nI 10) < σ.2 17 (Int32.toNatClampNeg (l5)) then fX7_findWinter_c135 kh14 σ l1 l2 l3 l4 l5 else k_ob (fX7_nightsOf σ ((l5 + (nI 1)))) fun r1 σ2 => (if l4 < (((r1 + l3) - (nI 1)) - l5) then fX7_findWinter_c135 kh14 σ2 l1 l2 l3 l4 l5 else fX7_findWinter_c136 kh14 σ2 l1 l2 l3 l4 l5 ((nI 1)))))
set_option maxRecDepth 100000 in
set_option maxHeartbeats 4000000 in
theorem kX7_findWinter_c96 {X : k_C} {q : Nat → Nat} (kh14 : k_S → Int32 → Int32 → Int32 → Int32 → Int32 → Option (Int32 × k_S)) (hk14 : ∀ (σ : k_S) (l1 l2 l3 l4 l5 : Int32), KO X YX7_findWinter (cM (k_I X) q) 0 0 (k_Q k_ei X (cM (k_I X) q)) 14 [some (.ref (q 0)), some (.int l1), some (.int l2), some (.int l3), some (.int l4), some (.int l5), none, none] [] σ (kh14 σ l1 l2 l3 l4 l5)) (σ : k_S) (l1 l2 l3 l4 l5 : Int32) : KO X YX7_findWinter (cM (k_I X) q) 0 0 (k_Q k_ei X (cM (k_I X) q)) 96 [some (.ref (q 0)), some (.int l1), some (.int l2), some (.int l3), some (.int l4), some (.int l5), none, none] [] σ (fX7_findWinter_c96 kh14 σ l1 l2 l3 l4 l5) := by
  unfold fX7_findWinter_c96
  refine k_aload_n (pc := 96) dX7_findWinter_96 rfl ?_
  refine k_gMX7_winterTells (pc := 97) kwf_X7_61 rfl dX7_findWinter_97 ?_
  refine k_iload (pc := 100) dX7_findWinter_100 rfl ?_
  refine k_lM18 (pc := 102) dX7_findWinter_102 ?_
  refine k_bipush (pc := 103) (v := (nI 10)) dX7_findWinter_103 (by decide) ?_
  refine k_icmp_gt (pc := 105) 135 dX7_findWinter_105 (by decide) ?_ ?_
  · exact kX7_findWinter_c135 kh14 hk14 σ l1 l2 l3 l4 l5
  · refine k_aload_n (pc := 108) dX7_findWinter_108 rfl ?_
    refine k_gMX7_winterTells (pc := 109) kwf_X7_61 rfl dX7_findWinter_109 ?_
    refine k_iload (pc := 112) dX7_findWinter_112 rfl ?_
    refine k_iconst (pc := 114) (v := (nI 1)) dX7_findWinter_114 (by decide) ?_
    refine k_iadd (pc := 115) dX7_findWinter_115 ?_
    refine k_si2 (pc := 116) (cM_same _ _) ckX7_nightsOf kwm_X7_206 ⟨rfl, rfl⟩ ⟨Nat.le_of_ble_eq_true rfl, Nat.le_of_ble_eq_true rfl⟩ ⟨Nat.zero_le _, Nat.zero_le _⟩ (Nat.le_of_ble_eq_true rfl) dX7_findWinter_116 (fun _ _ hf => kX7_nightsOf hf) (fun r1 σ2 => ?_)
    refine k_iload_n (pc := 119) dX7_findWinter_119 rfl ?_
    refine k_iadd (pc := 120) dX7_findWinter_120 ?_
    refine k_iconst (pc := 121) (v := (nI 1)) dX7_findWinter_121 (by decide) ?_
    refine k_isub (pc := 122) dX7_findWinter_122 ?_
    refine k_iload (pc := 123) dX7_findWinter_123 rfl ?_
    refine k_isub (pc := 125) dX7_findWinter_125 ?_
    refine k_iload (pc := 126) dX7_findWinter_126 rfl ?_
    refine k_icmp_gt (pc := 128) 135 dX7_findWinter_128 (by decide) ?_ ?_
    · exact kX7_findWinter_c135 kh14 hk14 σ2 l1 l2 l3 l4 l5
    · refine k_iconst (pc := 131) (v := (nI 1)) dX7_findWinter_131 (by decide) ?_
      refine k_goto (pc := 132) 136 dX7_findWinter_132 (by decide) ?_
      exact kX7_findWinter_c136 kh14 hk14 σ2 l1 l2 l3 l4 l5 ((nI 1))
noncomputable def fX7_findWinter_c30 (kh14 : k_S → Int32 → Int32 → Int32 → Int32 → Int32 → Option (Int32 × k_S)) : Nat → k_S → Int32 → Int32 → Int32 → Int32 → Int32 → Option (Int32 × k_S)
  | 0, _, _, _, _, _, _ => none
  | n + 1, σ, l1, l2, l3, l4, l5 => k_gd (l5) 6 ((if σ.2 17 (Int32.toNatClampNeg (l5)) < (nI 10) then k_gd (l5) 6 ((if σ.2 17 (Int32.toNatClampNeg (l5)) < σ.1 3 then k_gd (l5) 6 (k_gd ((l2 + l5)) 240 (k_ob (fX7_mayWinter σ l1 l5 (σ.2 17 (Int32.toNatClampNeg (l5))) (σ.2 2 (Int32.toNatClampNeg ((l2 + l5))))) fun r1 σ2 => (if r1 = 0 then fX7_findWinter_c82 kh14 (fX7_findWinter_c30 kh14 n) σ2 l1 l2 l3 l4 l5 else fX7_findWinter_c96 kh14 σ2 l1 l2 l3 l4 l5))) else fX7_findWinter_c82 kh14 (fX7_findWinter_c30 kh14 n) σ l1 l2 l3 l4 l5)) else fX7_findWinter_c96 kh14 σ l1 l2 l3 l4 l5))
theorem fX7_findWinter_c30_s (kh14 : k_S → Int32 → Int32 → Int32 → Int32 → Int32 → Option (Int32 × k_S)) (n : Nat) (σ : k_S) (l1 l2 l3 l4 l5 : Int32) : fX7_findWinter_c30 kh14 (n + 1) σ l1 l2 l3 l4 l5 = k_gd (l5) 6 ((if σ.2 17 (Int32.toNatClampNeg (l5)) < (nI 10) then k_gd (l5) 6 ((if σ.2 17 (Int32.toNatClampNeg (l5)) < σ.1 3 then k_gd (l5) 6 (k_gd ((l2 + l5)) 240 (k_ob (fX7_mayWinter σ l1 l5 (σ.2 17 (Int32.toNatClampNeg (l5))) (σ.2 2 (Int32.toNatClampNeg ((l2 + l5))))) fun r1 σ2 => (if r1 = 0 then fX7_findWinter_c82 kh14 (fX7_findWinter_c30 kh14 n) σ2 l1 l2 l3 l4 l5 else fX7_findWinter_c96 kh14 σ2 l1 l2 l3 l4 l5))) else fX7_findWinter_c82 kh14 (fX7_findWinter_c30 kh14 n) σ l1 l2 l3 l4 l5)) else fX7_findWinter_c96 kh14 σ l1 l2 l3 l4 l5)) := rfl
set_option maxRecDepth 100000 in
set_option maxHeartbeats 4000000 in
theorem kX7_findWinter_c30 {X : k_C} {q : Nat → Nat} (kh14 : k_S → Int32 → Int32 → Int32 → Int32 → Int32 → Option (Int32 × k_S)) (hk14 : ∀ (σ : k_S) (l1 l2 l3 l4 l5 : Int32), KO X YX7_findWinter (cM (k_I X) q) 0 0 (k_Q k_ei X (cM (k_I X) q)) 14 [some (.ref (q 0)), some (.int l1), some (.int l2), some (.int l3), some (.int l4), some (.int l5), none, none] [] σ (kh14 σ l1 l2 l3 l4 l5)) : ∀ (n : Nat) (σ : k_S) (l1 l2 l3 l4 l5 : Int32), KO X YX7_findWinter (cM (k_I X) q) 0 0 (k_Q k_ei X (cM (k_I X) q)) 30 [some (.ref (q 0)), some (.int l1), some (.int l2), some (.int l3), some (.int l4), some (.int l5), none, none] [] σ (fX7_findWinter_c30 kh14 n σ l1 l2 l3 l4 l5) := by
  intro n
  induction n with
  | zero => intros; exact KO.nil
  | succ n ih =>
    intro σ l1 l2 l3 l4 l5
    rw [fX7_findWinter_c30_s]
    refine k_aload_n (pc := 30) dX7_findWinter_30 rfl ?_
    refine k_gMX7_winterTells (pc := 31) kwf_X7_61 rfl dX7_findWinter_31 ?_
    refine k_iload (pc := 34) dX7_findWinter_34 rfl ?_
    refine k_lM18 (pc := 36) dX7_findWinter_36 ?_
    refine k_bipush (pc := 37) (v := (nI 10)) dX7_findWinter_37 (by decide) ?_
    refine k_icmp_ge (pc := 39) 96 dX7_findWinter_39 (by decide) ?_ ?_
    · exact kX7_findWinter_c96 kh14 hk14 σ l1 l2 l3 l4 l5
    · refine k_aload_n (pc := 42) dX7_findWinter_42 rfl ?_
      refine k_gMX7_winterTells (pc := 43) kwf_X7_61 rfl dX7_findWinter_43 ?_
      refine k_iload (pc := 46) dX7_findWinter_46 rfl ?_
      refine k_lM18 (pc := 48) dX7_findWinter_48 ?_
      refine k_aload_n (pc := 49) dX7_findWinter_49 rfl ?_
      refine k_gMX7_tales (pc := 50) kwf_X7_80 rfl dX7_findWinter_50 ?_
      refine k_icmp_ge (pc := 53) 82 dX7_findWinter_53 (by decide) ?_ ?_
      · exact kX7_findWinter_c82 kh14 hk14 (fX7_findWinter_c30 kh14 n) ih σ l1 l2 l3 l4 l5
      · refine k_aload_n (pc := 56) dX7_findWinter_56 rfl ?_
        refine k_iload_n (pc := 57) dX7_findWinter_57 rfl ?_
        refine k_iload (pc := 58) dX7_findWinter_58 rfl ?_
        refine k_aload_n (pc := 60) dX7_findWinter_60 rfl ?_
        refine k_gMX7_winterTells (pc := 61) kwf_X7_61 rfl dX7_findWinter_61 ?_
        refine k_iload (pc := 64) dX7_findWinter_64 rfl ?_
        refine k_lM18 (pc := 66) dX7_findWinter_66 ?_
        refine k_aload_n (pc := 67) dX7_findWinter_67 rfl ?_
        refine k_gMX7_cells (pc := 68) kwf_X7_16 rfl dX7_findWinter_68 ?_
        refine k_iload_n (pc := 71) dX7_findWinter_71 rfl ?_
        refine k_iload (pc := 72) dX7_findWinter_72 rfl ?_
        refine k_iadd (pc := 74) dX7_findWinter_74 ?_
        refine k_lM3 (pc := 75) dX7_findWinter_75 ?_
        refine k_vi4 (pc := 76) (cM_same _ _) ckX7_mayWinter kwm_X7_203 cM_rv0 ⟨rfl, rfl⟩ ⟨Nat.le_of_ble_eq_true rfl, Nat.le_of_ble_eq_true rfl⟩ ⟨Nat.zero_le _, Nat.zero_le _⟩ (Nat.le_of_ble_eq_true rfl) dX7_findWinter_76 (fun _ _ hf => kX7_mayWinter hf) (fun r1 σ2 => ?_)
        refine k_if_ne (pc := 79) 96 dX7_findWinter_79 (by decide) ?_ ?_
        · exact kX7_findWinter_c96 kh14 hk14 σ2 l1 l2 l3 l4 l5
        · exact kX7_findWinter_c82 kh14 hk14 (fX7_findWinter_c30 kh14 n) ih σ2 l1 l2 l3 l4 l5
noncomputable def fX7_findWinter_c14 : Nat → k_S → Int32 → Int32 → Int32 → Int32 → Int32 → Option (Int32 × k_S)
  | 0, _, _, _, _, _, _ => none
  | n + 1, σ, l1, l2, l3, l4, l5 => (if l5 < 0 then some (l4, σ) else k_gd (l5) 6 (k_gd (l5) 6 (k_bn (k_sa σ 17 (l5) ((σ.2 17 (Int32.toNatClampNeg (l5)) + (nI 1)))) fun σ1 => fX7_findWinter_c30 (fX7_findWinter_c14 n) k_F σ1 l1 l2 l3 l4 l5)))
theorem fX7_findWinter_c14_s (n : Nat) (σ : k_S) (l1 l2 l3 l4 l5 : Int32) : fX7_findWinter_c14 (n + 1) σ l1 l2 l3 l4 l5 = (if l5 < 0 then some (l4, σ) else k_gd (l5) 6 (k_gd (l5) 6 (k_bn (k_sa σ 17 (l5) ((σ.2 17 (Int32.toNatClampNeg (l5)) + (nI 1)))) fun σ1 => fX7_findWinter_c30 (fX7_findWinter_c14 n) k_F σ1 l1 l2 l3 l4 l5))) := rfl
set_option maxRecDepth 100000 in
set_option maxHeartbeats 4000000 in
theorem kX7_findWinter_c14 {X : k_C} {q : Nat → Nat} : ∀ (n : Nat) (σ : k_S) (l1 l2 l3 l4 l5 : Int32), KO X YX7_findWinter (cM (k_I X) q) 0 0 (k_Q k_ei X (cM (k_I X) q)) 14 [some (.ref (q 0)), some (.int l1), some (.int l2), some (.int l3), some (.int l4), some (.int l5), none, none] [] σ (fX7_findWinter_c14 n σ l1 l2 l3 l4 l5) := by
  intro n
  induction n with
  | zero => intros; exact KO.nil
  | succ n ih =>
    intro σ l1 l2 l3 l4 l5
    rw [fX7_findWinter_c14_s]
    refine k_iload (pc := 14) dX7_findWinter_14 rfl ?_
    refine k_if_lt (pc := 16) 238 dX7_findWinter_16 (by decide) ?_ ?_
    · refine k_iload (pc := 238) dX7_findWinter_238 rfl ?_
      exact k_ireturn (pc := 240) rfl dX7_findWinter_240
    · refine k_aload_n (pc := 19) dX7_findWinter_19 rfl ?_
      refine k_gMX7_winterTells (pc := 20) kwf_X7_61 rfl dX7_findWinter_20 ?_
      refine k_iload (pc := 23) dX7_findWinter_23 rfl ?_
      refine k_dup2 (pc := 25) dX7_findWinter_25 rfl rfl ?_
      refine k_lM18 (pc := 26) dX7_findWinter_26 ?_
      refine k_iconst (pc := 27) (v := (nI 1)) dX7_findWinter_27 (by decide) ?_
      refine k_iadd (pc := 28) dX7_findWinter_28 ?_
      refine k_sM18 (pc := 29) dX7_findWinter_29 (fun σ1 => ?_)
      exact kX7_findWinter_c30 (fX7_findWinter_c14 n) ih k_F σ1 l1 l2 l3 l4 l5
noncomputable def fX7_findWinter (σ : k_S) (x1 x2 x3 : Int32) : Option (Int32 × k_S) := k_bn ((k_ng 9)) fun v1 => k_bn ((nI 0)) fun v2 => k_gd ((nI 0)) 6 (k_bn (k_sa σ 17 ((nI 0)) ((k_ng 1))) fun σ3 => fX7_findWinter_c14 k_F σ3 x1 x2 x3 v1 v2)
set_option maxRecDepth 100000 in
set_option maxHeartbeats 4000000 in
theorem kX7_findWinter {D : va_G} {cI : ClassId} {q : Nat → Nat} {σ : k_S} {x1 x2 x3 : Int32} {r : Int32} {τ : k_S} (h : fX7_findWinter σ x1 x2 x3 = some (r, τ)) : k_Ct k_ei yX7_findWinter cX7_findWinter 8 (some .int) rmX7_findWinter (cM cI q) D cI [.ref (q 0), .int x1, .int x2, .int x3] σ r τ := by
  refine k_met (Y := YX7_findWinter) (cM_same _ _) (by decide) rfl (Nat.le_of_ble_eq_true rfl) (List.forall_mem_cons.mpr ⟨rfl, List.forall_mem_cons.mpr ⟨rfl, List.forall_mem_cons.mpr ⟨rfl, List.forall_mem_cons.mpr ⟨rfl, fun _ h => absurd h List.not_mem_nil⟩⟩⟩⟩) (fun X hD hI => ?_) h
  subst hD hI
  show KO X YX7_findWinter (cM (k_I X) q) 0 0 (k_Q k_ei X (cM (k_I X) q)) 0 [some (.ref (q 0)), some (.int x1), some (.int x2), some (.int x3), none, none, none, none] [] σ _
  unfold fX7_findWinter
  refine k_bipush (pc := 0) (v := (k_ng 9)) dX7_findWinter_0 (by decide) ?_
  refine k_ist4 (pc := 2) dX7_findWinter_2 (Nat.le_of_ble_eq_true rfl) (fun v1 => ?_)
  refine k_iconst (pc := 4) (v := (nI 0)) dX7_findWinter_4 (by decide) ?_
  refine k_ist5 (pc := 5) dX7_findWinter_5 (Nat.le_of_ble_eq_true rfl) (fun v2 => ?_)
  refine k_aload_n (pc := 7) dX7_findWinter_7 rfl ?_
  refine k_gMX7_winterTells (pc := 8) kwf_X7_61 rfl dX7_findWinter_8 ?_
  refine k_iconst (pc := 11) (v := (nI 0)) dX7_findWinter_11 (by decide) ?_
  refine k_iconst (pc := 12) (v := (k_ng 1)) dX7_findWinter_12 (by decide) ?_
  refine k_sM18 (pc := 13) dX7_findWinter_13 (fun σ3 => ?_)
  exact kX7_findWinter_c14 k_F σ3 x1 x2 x3 v1 v2
-- TallTalesModel.winter(IIIIII)I
theorem ckX7_winter : k_Vok yX7_winter cX7_winter 9 (some .int) 6 := ⟨kwk_X7_winter, kwi_X7_winter, kwv_X7_winter, kwn_X7, by decide, by decide +kernel⟩
abbrev rmX7_winter : Room := { frames := 3, cells := 0, slots := 0, locals := 78 }
abbrev YX7_winter : k_Y := (rmX7_winter, cX7_winter, 9, RX7, (some .int))
noncomputable def fX7_winter (σ : k_S) (x1 x2 x3 x4 x5 x6 : Int32) : Option (Int32 × k_S) := k_bn (k_sf σ 0 ((nI 0))) fun σ1 => k_ob (fX7_isGuest σ1 x1) fun r2 σ3 => (if r2 = 0 then some ((k_ng 1), σ3) else k_ob (fX7_isSheet σ3 x2) fun r4 σ5 => (if r4 = 0 then some ((k_ng 1), σ5) else k_ob (fX7_isSort σ5 x3) fun r6 σ7 => (if r6 = 0 then some ((k_ng 2), σ7) else k_ob (fX7_against σ7 x2 x3 x4 x5) fun r8 σ9 => k_bn (r8) fun v10 => (if v10 = 0 then k_ob (fX7_within σ9 x5 ((nI 1)) ((nI 6))) fun r11 σ12 => (if r11 = 0 then some ((k_ng 2), σ12) else k_ob (fX7_within σ12 x6 ((k_ng 1)) ((x5 - (nI 1)))) fun r13 σ14 => (if r13 = 0 then some ((k_ng 1), σ14) else k_ob (fX7_findWinter σ14 x1 ((((nI 60) * x2) + x4)) x5) fun r15 σ16 => k_bn (r15) fun v17 => (if x6 = (k_ng 1) then some (v17, σ16) else k_gd (x6) 6 ((if σ16.2 18 (Int32.toNatClampNeg (x6)) = (nI 10) then some ((k_ng 9), σ16) else k_gd (x6) 6 (some (σ16.2 18 (Int32.toNatClampNeg (x6)), σ16))))))) else k_ob (fX7_fails σ9 v10) fun r18 σ19 => some (r18, σ19)))))
set_option maxRecDepth 100000 in
set_option maxHeartbeats 4000000 in
theorem kX7_winter {D : va_G} {cI : ClassId} {q : Nat → Nat} {σ : k_S} {x1 x2 x3 x4 x5 x6 : Int32} {r : Int32} {τ : k_S} (h : fX7_winter σ x1 x2 x3 x4 x5 x6 = some (r, τ)) : k_Ct k_ei yX7_winter cX7_winter 9 (some .int) rmX7_winter (cM cI q) D cI [.ref (q 0), .int x1, .int x2, .int x3, .int x4, .int x5, .int x6] σ r τ := by
  refine k_met (Y := YX7_winter) (cM_same _ _) (by decide) rfl (Nat.le_of_ble_eq_true rfl) (List.forall_mem_cons.mpr ⟨rfl, List.forall_mem_cons.mpr ⟨rfl, List.forall_mem_cons.mpr ⟨rfl, List.forall_mem_cons.mpr ⟨rfl, List.forall_mem_cons.mpr ⟨rfl, List.forall_mem_cons.mpr ⟨rfl, List.forall_mem_cons.mpr ⟨rfl, fun _ h => absurd h List.not_mem_nil⟩⟩⟩⟩⟩⟩⟩) (fun X hD hI => ?_) h
  subst hD hI
  show KO X YX7_winter (cM (k_I X) q) 0 0 (k_Q k_ei X (cM (k_I X) q)) 0 [some (.ref (q 0)), some (.int x1), some (.int x2), some (.int x3), some (.int x4), some (.int x5), some (.int x6), none, none] [] σ _
  unfold fX7_winter
  refine k_aload_n (pc := 0) dX7_winter_0 rfl ?_
  refine k_iconst (pc := 1) (v := (nI 0)) dX7_winter_1 (by decide) ?_
  refine k_pMX7_fault (pc := 2) kwf_X7_67 rfl dX7_winter_2 (fun σ1 => ?_)
  refine k_aload_n (pc := 5) dX7_winter_5 rfl ?_
  refine k_iload_n (pc := 6) dX7_winter_6 rfl ?_
  refine k_vi1 (pc := 7) (cM_same _ _) ckX7_isGuest kwm_X7_145 cM_rv0 ⟨rfl, rfl⟩ ⟨Nat.le_of_ble_eq_true rfl, Nat.le_of_ble_eq_true rfl⟩ ⟨Nat.zero_le _, Nat.zero_le _⟩ (Nat.le_of_ble_eq_true rfl) dX7_winter_7 (fun _ _ hf => kX7_isGuest hf) (fun r2 σ3 => ?_)
  refine k_if_eq (pc := 10) 20 dX7_winter_10 (by decide) ?_ ?_
  · refine k_iconst (pc := 20) (v := (k_ng 1)) dX7_winter_20 (by decide) ?_
    exact k_ireturn (pc := 21) rfl dX7_winter_21
  · refine k_iload_n (pc := 13) dX7_winter_13 rfl ?_
    refine k_si1 (pc := 14) (cM_same _ _) ckX7_isSheet kwm_X7_83 ⟨rfl, rfl⟩ ⟨Nat.le_of_ble_eq_true rfl, Nat.le_of_ble_eq_true rfl⟩ ⟨Nat.zero_le _, Nat.zero_le _⟩ (Nat.le_of_ble_eq_true rfl) dX7_winter_14 (fun _ _ hf => kX7_isSheet hf) (fun r4 σ5 => ?_)
    refine k_if_ne (pc := 17) 22 dX7_winter_17 (by decide) ?_ ?_
    · refine k_iload_n (pc := 22) dX7_winter_22 rfl ?_
      refine k_si1 (pc := 23) (cM_same _ _) ckX7_isSort kwm_X7_87 ⟨rfl, rfl⟩ ⟨Nat.le_of_ble_eq_true rfl, Nat.le_of_ble_eq_true rfl⟩ ⟨Nat.zero_le _, Nat.zero_le _⟩ (Nat.le_of_ble_eq_true rfl) dX7_winter_23 (fun _ _ hf => kX7_isSort hf) (fun r6 σ7 => ?_)
      refine k_if_ne (pc := 26) 32 dX7_winter_26 (by decide) ?_ ?_
      · refine k_aload_n (pc := 32) dX7_winter_32 rfl ?_
        refine k_iload_n (pc := 33) dX7_winter_33 rfl ?_
        refine k_iload_n (pc := 34) dX7_winter_34 rfl ?_
        refine k_iload (pc := 35) dX7_winter_35 rfl ?_
        refine k_iload (pc := 37) dX7_winter_37 rfl ?_
        refine k_vi4 (pc := 39) (cM_same _ _) ckX7_against kwm_X7_90 cM_rv0 ⟨rfl, rfl⟩ ⟨Nat.le_of_ble_eq_true rfl, Nat.le_of_ble_eq_true rfl⟩ ⟨Nat.zero_le _, Nat.zero_le _⟩ (Nat.le_of_ble_eq_true rfl) dX7_winter_39 (fun _ _ hf => kX7_against hf) (fun r8 σ9 => ?_)
        refine k_ist7 (pc := 42) dX7_winter_42 (Nat.le_of_ble_eq_true rfl) (fun v10 => ?_)
        refine k_iload (pc := 44) dX7_winter_44 rfl ?_
        refine k_if_eq (pc := 46) 56 dX7_winter_46 (by decide) ?_ ?_
        · refine k_iload (pc := 56) dX7_winter_56 rfl ?_
          refine k_iconst (pc := 58) (v := (nI 1)) dX7_winter_58 (by decide) ?_
          refine k_bipush (pc := 59) (v := (nI 6)) dX7_winter_59 (by decide) ?_
          refine k_si3 (pc := 61) (cM_same _ _) ckX7_within kwm_X7_73 ⟨rfl, rfl⟩ ⟨Nat.le_of_ble_eq_true rfl, Nat.le_of_ble_eq_true rfl⟩ ⟨Nat.zero_le _, Nat.zero_le _⟩ (Nat.le_of_ble_eq_true rfl) dX7_winter_61 (fun _ _ hf => kX7_within hf) (fun r11 σ12 => ?_)
          refine k_if_ne (pc := 64) 70 dX7_winter_64 (by decide) ?_ ?_
          · refine k_iload (pc := 70) dX7_winter_70 rfl ?_
            refine k_iconst (pc := 72) (v := (k_ng 1)) dX7_winter_72 (by decide) ?_
            refine k_iload (pc := 73) dX7_winter_73 rfl ?_
            refine k_iconst (pc := 75) (v := (nI 1)) dX7_winter_75 (by decide) ?_
            refine k_isub (pc := 76) dX7_winter_76 ?_
            refine k_si3 (pc := 77) (cM_same _ _) ckX7_within kwm_X7_73 ⟨rfl, rfl⟩ ⟨Nat.le_of_ble_eq_true rfl, Nat.le_of_ble_eq_true rfl⟩ ⟨Nat.zero_le _, Nat.zero_le _⟩ (Nat.le_of_ble_eq_true rfl) dX7_winter_77 (fun _ _ hf => kX7_within hf) (fun r13 σ14 => ?_)
            refine k_if_ne (pc := 80) 85 dX7_winter_80 (by decide) ?_ ?_
            · refine k_aload_n (pc := 85) dX7_winter_85 rfl ?_
              refine k_iload_n (pc := 86) dX7_winter_86 rfl ?_
              refine k_bipush (pc := 87) (v := (nI 60)) dX7_winter_87 (by decide) ?_
              refine k_iload_n (pc := 89) dX7_winter_89 rfl ?_
              refine k_imul (pc := 90) dX7_winter_90 ?_
              refine k_iload (pc := 91) dX7_winter_91 rfl ?_
              refine k_iadd (pc := 93) dX7_winter_93 ?_
              refine k_iload (pc := 94) dX7_winter_94 rfl ?_
              refine k_vi3 (pc := 96) (cM_same _ _) ckX7_findWinter kwm_X7_210 cM_rv0 ⟨rfl, rfl⟩ ⟨Nat.le_of_ble_eq_true rfl, Nat.le_of_ble_eq_true rfl⟩ ⟨Nat.zero_le _, Nat.zero_le _⟩ (Nat.le_of_ble_eq_true rfl) dX7_winter_96 (fun _ _ hf => kX7_findWinter hf) (fun r15 σ16 => ?_)
              refine k_ist8 (pc := 99) dX7_winter_99 (Nat.le_of_ble_eq_true rfl) (fun v17 => ?_)
              refine k_iload (pc := 101) dX7_winter_101 rfl ?_
              refine k_iconst (pc := 103) (v := (k_ng 1)) dX7_winter_103 (by decide) ?_
              refine k_icmp_ne (pc := 104) 112 dX7_winter_104 (by decide) ?_ ?_
              · refine k_aload_n (pc := 112) dX7_winter_112 rfl ?_
                refine k_gMX7_winterBest (pc := 113) kwf_X7_64 rfl dX7_winter_113 ?_
                refine k_iload (pc := 116) dX7_winter_116 rfl ?_
                refine k_lM19 (pc := 118) dX7_winter_118 ?_
                refine k_bipush (pc := 119) (v := (nI 10)) dX7_winter_119 (by decide) ?_
                refine k_icmp_ne (pc := 121) 129 dX7_winter_121 (by decide) ?_ ?_
                · refine k_aload_n (pc := 129) dX7_winter_129 rfl ?_
                  refine k_gMX7_winterBest (pc := 130) kwf_X7_64 rfl dX7_winter_130 ?_
                  refine k_iload (pc := 133) dX7_winter_133 rfl ?_
                  refine k_lM19 (pc := 135) dX7_winter_135 ?_
                  exact k_ireturn (pc := 136) rfl dX7_winter_136
                · refine k_bipush (pc := 124) (v := (k_ng 9)) dX7_winter_124 (by decide) ?_
                  refine k_goto (pc := 126) 136 dX7_winter_126 (by decide) ?_
                  exact k_ireturn (pc := 136) rfl dX7_winter_136
              · refine k_iload (pc := 107) dX7_winter_107 rfl ?_
                refine k_goto (pc := 109) 136 dX7_winter_109 (by decide) ?_
                exact k_ireturn (pc := 136) rfl dX7_winter_136
            · refine k_iconst (pc := 83) (v := (k_ng 1)) dX7_winter_83 (by decide) ?_
              exact k_ireturn (pc := 84) rfl dX7_winter_84
          · refine k_bipush (pc := 67) (v := (k_ng 2)) dX7_winter_67 (by decide) ?_
            exact k_ireturn (pc := 69) rfl dX7_winter_69
        · refine k_aload_n (pc := 49) dX7_winter_49 rfl ?_
          refine k_iload (pc := 50) dX7_winter_50 rfl ?_
          refine k_vi1 (pc := 52) (cM_same _ _) ckX7_fails kwm_X7_94 cM_rv0 ⟨rfl, rfl⟩ ⟨Nat.le_of_ble_eq_true rfl, Nat.le_of_ble_eq_true rfl⟩ ⟨Nat.zero_le _, Nat.zero_le _⟩ (Nat.le_of_ble_eq_true rfl) dX7_winter_52 (fun _ _ hf => kX7_fails hf) (fun r18 σ19 => ?_)
          exact k_ireturn (pc := 55) rfl dX7_winter_55
      · refine k_bipush (pc := 29) (v := (k_ng 2)) dX7_winter_29 (by decide) ?_
        exact k_ireturn (pc := 31) rfl dX7_winter_31
    · refine k_iconst (pc := 20) (v := (k_ng 1)) dX7_winter_20 (by decide) ?_
      exact k_ireturn (pc := 21) rfl dX7_winter_21
-- TallTalesModel.strong(I)I
theorem ckX7_strong : k_Vok yX7_strong cX7_strong 5 (some .int) 1 := ⟨kwk_X7_strong, kwi_X7_strong, kwv_X7_strong, kwn_X7, by decide, by decide +kernel⟩
abbrev rmX7_strong : Room := { frames := 2, cells := 0, slots := 0, locals := 45 }
abbrev YX7_strong : k_Y := (rmX7_strong, cX7_strong, 5, RX7, (some .int))
noncomputable def fX7_strong_c48 (kh4 : k_S → Int32 → Int32 → Int32 → Option (Int32 × k_S)) (σ : k_S) (l1 l3 s0 : Int32) : Option (Int32 × k_S) := k_bn (s0) fun v1 => k_bn (l3 + (nI 1)) fun v2 => kh4 σ l1 v1 v2
set_option maxRecDepth 100000 in
set_option maxHeartbeats 4000000 in
theorem kX7_strong_c48 {X : k_C} {q : Nat → Nat} (kh4 : k_S → Int32 → Int32 → Int32 → Option (Int32 × k_S)) (hk4 : ∀ (σ : k_S) (l1 l2 l3 : Int32), KO X YX7_strong (cM (k_I X) q) 0 0 (k_Q k_ei X (cM (k_I X) q)) 4 [some (.ref (q 0)), some (.int l1), some (.int l2), some (.int l3), none] [] σ (kh4 σ l1 l2 l3)) (σ : k_S) (l1 l3 s0 : Int32) : KO X YX7_strong (cM (k_I X) q) 0 0 (k_Q k_ei X (cM (k_I X) q)) 48 [some (.ref (q 0)), some (.int l1), none, some (.int l3), none] [.int s0] σ (fX7_strong_c48 kh4 σ l1 l3 s0) := by
  unfold fX7_strong_c48
  refine k_ist2 (pc := 48) dX7_strong_48 (Nat.le_of_ble_eq_true rfl) (fun v1 => ?_)
  refine k_iinc3 (pc := 49) (w := (nI 1)) dX7_strong_49 rfl (by decide) (Nat.le_of_ble_eq_true rfl) (fun v2 => ?_)
  refine k_goto (pc := 52) 4 dX7_strong_52 (by decide) ?_
  exact hk4 σ l1 v1 v2
noncomputable def fX7_strong_c47 (kh4 : k_S → Int32 → Int32 → Int32 → Option (Int32 × k_S)) (σ : k_S) (l1 l2 l3 : Int32) : Option (Int32 × k_S) := fX7_strong_c48 kh4 σ l1 l3 l2
set_option maxRecDepth 100000 in
set_option maxHeartbeats 4000000 in
theorem kX7_strong_c47 {X : k_C} {q : Nat → Nat} (kh4 : k_S → Int32 → Int32 → Int32 → Option (Int32 × k_S)) (hk4 : ∀ (σ : k_S) (l1 l2 l3 : Int32), KO X YX7_strong (cM (k_I X) q) 0 0 (k_Q k_ei X (cM (k_I X) q)) 4 [some (.ref (q 0)), some (.int l1), some (.int l2), some (.int l3), none] [] σ (kh4 σ l1 l2 l3)) (σ : k_S) (l1 l2 l3 : Int32) : KO X YX7_strong (cM (k_I X) q) 0 0 (k_Q k_ei X (cM (k_I X) q)) 47 [some (.ref (q 0)), some (.int l1), some (.int l2), some (.int l3), none] [] σ (fX7_strong_c47 kh4 σ l1 l2 l3) := by
  unfold fX7_strong_c47
  refine k_iload_n (pc := 47) dX7_strong_47 rfl ?_
  refine k_fg2 ?_
  exact kX7_strong_c48 kh4 hk4 σ l1 l3 l2
noncomputable def fX7_strong_c105 (kh60 : k_S → Int32 → Int32 → Int32 → Int32 → Option (Int32 × k_S)) (σ : k_S) (l1 l2 l4 s0 s1 : Int32) : Option (Int32 × k_S) := k_bn ((s0 + s1)) fun v1 => k_bn (l4 + (nI 1)) fun v2 => kh60 σ l1 l2 v1 v2
set_option maxRecDepth 100000 in
set_option maxHeartbeats 4000000 in
theorem kX7_strong_c105 {X : k_C} {q : Nat → Nat} (kh60 : k_S → Int32 → Int32 → Int32 → Int32 → Option (Int32 × k_S)) (hk60 : ∀ (σ : k_S) (l1 l2 l3 l4 : Int32), KO X YX7_strong (cM (k_I X) q) 0 0 (k_Q k_ei X (cM (k_I X) q)) 60 [some (.ref (q 0)), some (.int l1), some (.int l2), some (.int l3), some (.int l4)] [] σ (kh60 σ l1 l2 l3 l4)) (σ : k_S) (l1 l2 l4 s0 s1 : Int32) : KO X YX7_strong (cM (k_I X) q) 0 0 (k_Q k_ei X (cM (k_I X) q)) 105 [some (.ref (q 0)), some (.int l1), some (.int l2), none, some (.int l4)] [.int s1, .int s0] σ (fX7_strong_c105 kh60 σ l1 l2 l4 s0 s1) := by
  unfold fX7_strong_c105
  refine k_iadd (pc := 105) dX7_strong_105 ?_
  refine k_ist3 (pc := 106) dX7_strong_106 (Nat.le_of_ble_eq_true rfl) (fun v1 => ?_)
  refine k_iinc4 (pc := 107) (w := (nI 1)) dX7_strong_107 rfl (by decide) (Nat.le_of_ble_eq_true rfl) (fun v2 => ?_)
  refine k_goto (pc := 110) 60 dX7_strong_110 (by decide) ?_
  exact hk60 σ l1 l2 v1 v2
noncomputable def fX7_strong_c104 (kh60 : k_S → Int32 → Int32 → Int32 → Int32 → Option (Int32 × k_S)) (σ : k_S) (l1 l2 l4 s0 : Int32) : Option (Int32 × k_S) := fX7_strong_c105 kh60 σ l1 l2 l4 s0 ((nI 0))
set_option maxRecDepth 100000 in
set_option maxHeartbeats 4000000 in
theorem kX7_strong_c104 {X : k_C} {q : Nat → Nat} (kh60 : k_S → Int32 → Int32 → Int32 → Int32 → Option (Int32 × k_S)) (hk60 : ∀ (σ : k_S) (l1 l2 l3 l4 : Int32), KO X YX7_strong (cM (k_I X) q) 0 0 (k_Q k_ei X (cM (k_I X) q)) 60 [some (.ref (q 0)), some (.int l1), some (.int l2), some (.int l3), some (.int l4)] [] σ (kh60 σ l1 l2 l3 l4)) (σ : k_S) (l1 l2 l4 s0 : Int32) : KO X YX7_strong (cM (k_I X) q) 0 0 (k_Q k_ei X (cM (k_I X) q)) 104 [some (.ref (q 0)), some (.int l1), some (.int l2), none, some (.int l4)] [.int s0] σ (fX7_strong_c104 kh60 σ l1 l2 l4 s0) := by
  unfold fX7_strong_c104
  refine k_iconst (pc := 104) (v := (nI 0)) dX7_strong_104 (by decide) ?_
  exact kX7_strong_c105 kh60 hk60 σ l1 l2 l4 s0 ((nI 0))
noncomputable def fX7_strong_c60 : Nat → k_S → Int32 → Int32 → Int32 → Int32 → Option (Int32 × k_S)
  | 0, _, _, _, _, _ => none
  | n + 1, σ, l1, l2, l3, l4 => (if l4 < σ.1 3 then k_gd (l4) 10 ((if σ.2 4 (Int32.toNatClampNeg (l4)) = l1 then k_ob (fX7_mayNow σ l4) fun r1 σ2 => (if r1 = 0 then fX7_strong_c104 (fX7_strong_c60 n) σ2 l1 l2 l4 l3 else k_ob (fX7_tallNow σ2 l4) fun r3 σ4 => (if l2 < r3 then fX7_strong_c105 (fX7_strong_c60 n) σ4 l1 l2 l4 l3 ((nI 1)) else fX7_strong_c104 (fX7_strong_c60 n) σ4 l1 l2 l4 l3)) else fX7_strong_c104 (fX7_strong_c60 n) σ l1 l2 l4 l3)) else some (l3, σ))
theorem fX7_strong_c60_s (n : Nat) (σ : k_S) (l1 l2 l3 l4 : Int32) : fX7_strong_c60 (n + 1) σ l1 l2 l3 l4 = (if l4 < σ.1 3 then k_gd (l4) 10 ((if σ.2 4 (Int32.toNatClampNeg (l4)) = l1 then k_ob (fX7_mayNow σ l4) fun r1 σ2 => (if r1 = 0 then fX7_strong_c104 (fX7_strong_c60 n) σ2 l1 l2 l4 l3 else k_ob (fX7_tallNow σ2 l4) fun r3 σ4 => (if l2 < r3 then fX7_strong_c105 (fX7_strong_c60 n) σ4 l1 l2 l4 l3 ((nI 1)) else fX7_strong_c104 (fX7_strong_c60 n) σ4 l1 l2 l4 l3)) else fX7_strong_c104 (fX7_strong_c60 n) σ l1 l2 l4 l3)) else some (l3, σ)) := rfl
set_option maxRecDepth 100000 in
set_option maxHeartbeats 4000000 in
theorem kX7_strong_c60 {X : k_C} {q : Nat → Nat} : ∀ (n : Nat) (σ : k_S) (l1 l2 l3 l4 : Int32), KO X YX7_strong (cM (k_I X) q) 0 0 (k_Q k_ei X (cM (k_I X) q)) 60 [some (.ref (q 0)), some (.int l1), some (.int l2), some (.int l3), some (.int l4)] [] σ (fX7_strong_c60 n σ l1 l2 l3 l4) := by
  intro n
  induction n with
  | zero => intros; exact KO.nil
  | succ n ih =>
    intro σ l1 l2 l3 l4
    rw [fX7_strong_c60_s]
    refine k_iload (pc := 60) dX7_strong_60 rfl ?_
    refine k_aload_n (pc := 62) dX7_strong_62 rfl ?_
    refine k_gMX7_tales (pc := 63) kwf_X7_80 rfl dX7_strong_63 ?_
    refine k_icmp_ge (pc := 66) 113 dX7_strong_66 (by decide) ?_ ?_
    · refine k_iload_n (pc := 113) dX7_strong_113 rfl ?_
      exact k_ireturn (pc := 114) rfl dX7_strong_114
    · refine k_iload_n (pc := 69) dX7_strong_69 rfl ?_
      refine k_aload_n (pc := 70) dX7_strong_70 rfl ?_
      refine k_gMX7_whose (pc := 71) kwf_X7_22 rfl dX7_strong_71 ?_
      refine k_iload (pc := 74) dX7_strong_74 rfl ?_
      refine k_lM5 (pc := 76) dX7_strong_76 ?_
      refine k_iload_n (pc := 77) dX7_strong_77 rfl ?_
      refine k_icmp_ne (pc := 78) 104 dX7_strong_78 (by decide) ?_ ?_
      · refine k_fg3 ?_
        exact kX7_strong_c104 (fX7_strong_c60 n) ih σ l1 l2 l4 l3
      · refine k_aload_n (pc := 81) dX7_strong_81 rfl ?_
        refine k_iload (pc := 82) dX7_strong_82 rfl ?_
        refine k_vi1 (pc := 84) (cM_same _ _) ckX7_mayNow kwm_X7_139 cM_rv0 ⟨rfl, rfl⟩ ⟨Nat.le_of_ble_eq_true rfl, Nat.le_of_ble_eq_true rfl⟩ ⟨Nat.zero_le _, Nat.zero_le _⟩ (Nat.le_of_ble_eq_true rfl) dX7_strong_84 (fun _ _ hf => kX7_mayNow hf) (fun r1 σ2 => ?_)
        refine k_if_eq (pc := 87) 104 dX7_strong_87 (by decide) ?_ ?_
        · refine k_fg3 ?_
          exact kX7_strong_c104 (fX7_strong_c60 n) ih σ2 l1 l2 l4 l3
        · refine k_aload_n (pc := 90) dX7_strong_90 rfl ?_
          refine k_iload (pc := 91) dX7_strong_91 rfl ?_
          refine k_vi1 (pc := 93) (cM_same _ _) ckX7_tallNow kwm_X7_142 cM_rv0 ⟨rfl, rfl⟩ ⟨Nat.le_of_ble_eq_true rfl, Nat.le_of_ble_eq_true rfl⟩ ⟨Nat.zero_le _, Nat.zero_le _⟩ (Nat.le_of_ble_eq_true rfl) dX7_strong_93 (fun _ _ hf => kX7_tallNow hf) (fun r3 σ4 => ?_)
          refine k_iload_n (pc := 96) dX7_strong_96 rfl ?_
          refine k_icmp_le (pc := 97) 104 dX7_strong_97 (by decide) ?_ ?_
          · refine k_fg3 ?_
            exact kX7_strong_c104 (fX7_strong_c60 n) ih σ4 l1 l2 l4 l3
          · refine k_iconst (pc := 100) (v := (nI 1)) dX7_strong_100 (by decide) ?_
            refine k_goto (pc := 101) 105 dX7_strong_101 (by decide) ?_
            refine k_fg3 ?_
            exact kX7_strong_c105 (fX7_strong_c60 n) ih σ4 l1 l2 l4 l3 ((nI 1))
noncomputable def fX7_strong_c4 : Nat → k_S → Int32 → Int32 → Int32 → Option (Int32 × k_S)
  | 0, _, _, _, _ => none
  | n + 1, σ, l1, l2, l3 => (if l3 < σ.1 3 then k_gd (l3) 10 ((if σ.2 4 (Int32.toNatClampNeg (l3)) = l1 then fX7_strong_c47 (fX7_strong_c4 n) σ l1 l2 l3 else k_ob (fX7_mayNow σ l3) fun r3 σ4 => (if r3 = 0 then fX7_strong_c47 (fX7_strong_c4 n) σ4 l1 l2 l3 else k_ob (fX7_tallNow σ4 l3) fun r5 σ6 => (if l2 < r5 then k_ob (fX7_tallNow σ6 l3) fun r7 σ8 => fX7_strong_c48 (fX7_strong_c4 n) σ8 l1 l3 r7 else fX7_strong_c47 (fX7_strong_c4 n) σ6 l1 l2 l3)))) else k_bn ((nI 0)) fun v1 => k_bn ((nI 0)) fun v2 => fX7_strong_c60 k_F σ l1 l2 v1 v2)
theorem fX7_strong_c4_s (n : Nat) (σ : k_S) (l1 l2 l3 : Int32) : fX7_strong_c4 (n + 1) σ l1 l2 l3 = (if l3 < σ.1 3 then k_gd (l3) 10 ((if σ.2 4 (Int32.toNatClampNeg (l3)) = l1 then fX7_strong_c47 (fX7_strong_c4 n) σ l1 l2 l3 else k_ob (fX7_mayNow σ l3) fun r3 σ4 => (if r3 = 0 then fX7_strong_c47 (fX7_strong_c4 n) σ4 l1 l2 l3 else k_ob (fX7_tallNow σ4 l3) fun r5 σ6 => (if l2 < r5 then k_ob (fX7_tallNow σ6 l3) fun r7 σ8 => fX7_strong_c48 (fX7_strong_c4 n) σ8 l1 l3 r7 else fX7_strong_c47 (fX7_strong_c4 n) σ6 l1 l2 l3)))) else k_bn ((nI 0)) fun v1 => k_bn ((nI 0)) fun v2 => fX7_strong_c60 k_F σ l1 l2 v1 v2) := rfl
set_option maxRecDepth 100000 in
set_option maxHeartbeats 4000000 in
theorem kX7_strong_c4 {X : k_C} {q : Nat → Nat} : ∀ (n : Nat) (σ : k_S) (l1 l2 l3 : Int32), KO X YX7_strong (cM (k_I X) q) 0 0 (k_Q k_ei X (cM (k_I X) q)) 4 [some (.ref (q 0)), some (.int l1), some (.int l2), some (.int l3), none] [] σ (fX7_strong_c4 n σ l1 l2 l3) := by
  intro n
  induction n with
  | zero => intros; exact KO.nil
  | succ n ih =>
    intro σ l1 l2 l3
    rw [fX7_strong_c4_s]
    refine k_iload_n (pc := 4) dX7_strong_4 rfl ?_
    refine k_aload_n (pc := 5) dX7_strong_5 rfl ?_
    refine k_gMX7_tales (pc := 6) kwf_X7_80 rfl dX7_strong_6 ?_
    refine k_icmp_ge (pc := 9) 55 dX7_strong_9 (by decide) ?_ ?_
    · refine k_iconst (pc := 55) (v := (nI 0)) dX7_strong_55 (by decide) ?_
      refine k_ist3 (pc := 56) dX7_strong_56 (Nat.le_of_ble_eq_true rfl) (fun v1 => ?_)
      refine k_iconst (pc := 57) (v := (nI 0)) dX7_strong_57 (by decide) ?_
      refine k_ist4 (pc := 58) dX7_strong_58 (Nat.le_of_ble_eq_true rfl) (fun v2 => ?_)
      exact kX7_strong_c60 k_F σ l1 l2 v1 v2
    · refine k_aload_n (pc := 12) dX7_strong_12 rfl ?_
      refine k_gMX7_whose (pc := 13) kwf_X7_22 rfl dX7_strong_13 ?_
      refine k_iload_n (pc := 16) dX7_strong_16 rfl ?_
      refine k_lM5 (pc := 17) dX7_strong_17 ?_
      refine k_iload_n (pc := 18) dX7_strong_18 rfl ?_
      refine k_icmp_eq (pc := 19) 47 dX7_strong_19 (by decide) ?_ ?_
      · exact kX7_strong_c47 (fX7_strong_c4 n) ih σ l1 l2 l3
      · refine k_aload_n (pc := 22) dX7_strong_22 rfl ?_
        refine k_iload_n (pc := 23) dX7_strong_23 rfl ?_
        refine k_vi1 (pc := 24) (cM_same _ _) ckX7_mayNow kwm_X7_139 cM_rv0 ⟨rfl, rfl⟩ ⟨Nat.le_of_ble_eq_true rfl, Nat.le_of_ble_eq_true rfl⟩ ⟨Nat.zero_le _, Nat.zero_le _⟩ (Nat.le_of_ble_eq_true rfl) dX7_strong_24 (fun _ _ hf => kX7_mayNow hf) (fun r3 σ4 => ?_)
        refine k_if_eq (pc := 27) 47 dX7_strong_27 (by decide) ?_ ?_
        · exact kX7_strong_c47 (fX7_strong_c4 n) ih σ4 l1 l2 l3
        · refine k_aload_n (pc := 30) dX7_strong_30 rfl ?_
          refine k_iload_n (pc := 31) dX7_strong_31 rfl ?_
          refine k_vi1 (pc := 32) (cM_same _ _) ckX7_tallNow kwm_X7_142 cM_rv0 ⟨rfl, rfl⟩ ⟨Nat.le_of_ble_eq_true rfl, Nat.le_of_ble_eq_true rfl⟩ ⟨Nat.zero_le _, Nat.zero_le _⟩ (Nat.le_of_ble_eq_true rfl) dX7_strong_32 (fun _ _ hf => kX7_tallNow hf) (fun r5 σ6 => ?_)
          refine k_iload_n (pc := 35) dX7_strong_35 rfl ?_
          refine k_icmp_le (pc := 36) 47 dX7_strong_36 (by decide) ?_ ?_
          · exact kX7_strong_c47 (fX7_strong_c4 n) ih σ6 l1 l2 l3
          · refine k_aload_n (pc := 39) dX7_strong_39 rfl ?_
            refine k_iload_n (pc := 40) dX7_strong_40 rfl ?_
            refine k_vi1 (pc := 41) (cM_same _ _) ckX7_tallNow kwm_X7_142 cM_rv0 ⟨rfl, rfl⟩ ⟨Nat.le_of_ble_eq_true rfl, Nat.le_of_ble_eq_true rfl⟩ ⟨Nat.zero_le _, Nat.zero_le _⟩ (Nat.le_of_ble_eq_true rfl) dX7_strong_41 (fun _ _ hf => kX7_tallNow hf) (fun r7 σ8 => ?_)
            refine k_goto (pc := 44) 48 dX7_strong_44 (by decide) ?_
            refine k_fg2 ?_
            exact kX7_strong_c48 (fX7_strong_c4 n) ih σ8 l1 l3 r7
noncomputable def fX7_strong (σ : k_S) (x1 : Int32) : Option (Int32 × k_S) := k_bn ((k_ng 1)) fun v1 => k_bn ((nI 0)) fun v2 => fX7_strong_c4 k_F σ x1 v1 v2
set_option maxRecDepth 100000 in
set_option maxHeartbeats 4000000 in
theorem kX7_strong {D : va_G} {cI : ClassId} {q : Nat → Nat} {σ : k_S} {x1 : Int32} {r : Int32} {τ : k_S} (h : fX7_strong σ x1 = some (r, τ)) : k_Ct k_ei yX7_strong cX7_strong 5 (some .int) rmX7_strong (cM cI q) D cI [.ref (q 0), .int x1] σ r τ := by
  refine k_met (Y := YX7_strong) (cM_same _ _) (by decide) rfl (Nat.le_of_ble_eq_true rfl) (List.forall_mem_cons.mpr ⟨rfl, List.forall_mem_cons.mpr ⟨rfl, fun _ h => absurd h List.not_mem_nil⟩⟩) (fun X hD hI => ?_) h
  subst hD hI
  show KO X YX7_strong (cM (k_I X) q) 0 0 (k_Q k_ei X (cM (k_I X) q)) 0 [some (.ref (q 0)), some (.int x1), none, none, none] [] σ _
  unfold fX7_strong
  refine k_iconst (pc := 0) (v := (k_ng 1)) dX7_strong_0 (by decide) ?_
  refine k_ist2 (pc := 1) dX7_strong_1 (Nat.le_of_ble_eq_true rfl) (fun v1 => ?_)
  refine k_iconst (pc := 2) (v := (nI 0)) dX7_strong_2 (by decide) ?_
  refine k_ist3 (pc := 3) dX7_strong_3 (Nat.le_of_ble_eq_true rfl) (fun v2 => ?_)
  exact kX7_strong_c4 k_F σ x1 v1 v2
-- TallTalesModel.trade(II)I
theorem ckX7_trade : k_Vok yX7_trade cX7_trade 7 (some .int) 2 := ⟨kwk_X7_trade, kwi_X7_trade, kwv_X7_trade, kwn_X7, by decide, by decide +kernel⟩
abbrev rmX7_trade : Room := { frames := 3, cells := 0, slots := 0, locals := 69 }
abbrev YX7_trade : k_Y := (rmX7_trade, cX7_trade, 7, RX7, (some .int))
noncomputable def fX7_trade (σ : k_S) (x1 x2 : Int32) : Option (Int32 × k_S) := k_ob (fX7_isTale σ x1) fun r1 σ2 => (if r1 = 0 then some ((k_ng 1), σ2) else k_ob (fX7_isTale σ2 x2) fun r3 σ4 => (if r3 = 0 then some ((k_ng 1), σ4) else k_gd (x1) 10 (k_bn (σ4.2 4 (Int32.toNatClampNeg (x1))) fun v5 => k_gd (x2) 10 (k_bn (σ4.2 4 (Int32.toNatClampNeg (x2))) fun v6 => (if v5 = v6 then some ((k_ng 3), σ4) else k_ob (fX7_strong σ4 v5) fun r7 σ8 => k_bn (r7) fun v9 => k_gd (x1) 10 (k_bn (k_sa σ8 4 (x1) (v6)) fun σ10 => k_gd (x2) 10 (k_bn (k_sa σ10 4 (x2) (v5)) fun σ11 => k_ob (fX7_strong σ11 v5) fun r12 σ13 => k_bn (r12) fun v14 => k_gd (x1) 10 (k_bn (k_sa σ13 4 (x1) (v5)) fun σ15 => k_gd (x2) 10 (k_bn (k_sa σ15 4 (x2) (v6)) fun σ16 => some (((v14 - v9) + (nI 100)), σ16))))))))))
set_option maxRecDepth 100000 in
set_option maxHeartbeats 4000000 in
theorem kX7_trade {D : va_G} {cI : ClassId} {q : Nat → Nat} {σ : k_S} {x1 x2 : Int32} {r : Int32} {τ : k_S} (h : fX7_trade σ x1 x2 = some (r, τ)) : k_Ct k_ei yX7_trade cX7_trade 7 (some .int) rmX7_trade (cM cI q) D cI [.ref (q 0), .int x1, .int x2] σ r τ := by
  refine k_met (Y := YX7_trade) (cM_same _ _) (by decide) rfl (Nat.le_of_ble_eq_true rfl) (List.forall_mem_cons.mpr ⟨rfl, List.forall_mem_cons.mpr ⟨rfl, List.forall_mem_cons.mpr ⟨rfl, fun _ h => absurd h List.not_mem_nil⟩⟩⟩) (fun X hD hI => ?_) h
  subst hD hI
  show KO X YX7_trade (cM (k_I X) q) 0 0 (k_Q k_ei X (cM (k_I X) q)) 0 [some (.ref (q 0)), some (.int x1), some (.int x2), none, none, none, none] [] σ _
  unfold fX7_trade
  refine k_aload_n (pc := 0) dX7_trade_0 rfl ?_
  refine k_iload_n (pc := 1) dX7_trade_1 rfl ?_
  refine k_vi1 (pc := 2) (cM_same _ _) ckX7_isTale kwm_X7_136 cM_rv0 ⟨rfl, rfl⟩ ⟨Nat.le_of_ble_eq_true rfl, Nat.le_of_ble_eq_true rfl⟩ ⟨Nat.zero_le _, Nat.zero_le _⟩ (Nat.le_of_ble_eq_true rfl) dX7_trade_2 (fun _ _ hf => kX7_isTale hf) (fun r1 σ2 => ?_)
  refine k_if_eq (pc := 5) 16 dX7_trade_5 (by decide) ?_ ?_
  · refine k_iconst (pc := 16) (v := (k_ng 1)) dX7_trade_16 (by decide) ?_
    exact k_ireturn (pc := 17) rfl dX7_trade_17
  · refine k_aload_n (pc := 8) dX7_trade_8 rfl ?_
    refine k_iload_n (pc := 9) dX7_trade_9 rfl ?_
    refine k_vi1 (pc := 10) (cM_same _ _) ckX7_isTale kwm_X7_136 cM_rv0 ⟨rfl, rfl⟩ ⟨Nat.le_of_ble_eq_true rfl, Nat.le_of_ble_eq_true rfl⟩ ⟨Nat.zero_le _, Nat.zero_le _⟩ (Nat.le_of_ble_eq_true rfl) dX7_trade_10 (fun _ _ hf => kX7_isTale hf) (fun r3 σ4 => ?_)
    refine k_if_ne (pc := 13) 18 dX7_trade_13 (by decide) ?_ ?_
    · refine k_aload_n (pc := 18) dX7_trade_18 rfl ?_
      refine k_gMX7_whose (pc := 19) kwf_X7_22 rfl dX7_trade_19 ?_
      refine k_iload_n (pc := 22) dX7_trade_22 rfl ?_
      refine k_lM5 (pc := 23) dX7_trade_23 ?_
      refine k_ist3 (pc := 24) dX7_trade_24 (Nat.le_of_ble_eq_true rfl) (fun v5 => ?_)
      refine k_aload_n (pc := 25) dX7_trade_25 rfl ?_
      refine k_gMX7_whose (pc := 26) kwf_X7_22 rfl dX7_trade_26 ?_
      refine k_iload_n (pc := 29) dX7_trade_29 rfl ?_
      refine k_lM5 (pc := 30) dX7_trade_30 ?_
      refine k_ist4 (pc := 31) dX7_trade_31 (Nat.le_of_ble_eq_true rfl) (fun v6 => ?_)
      refine k_iload_n (pc := 33) dX7_trade_33 rfl ?_
      refine k_iload (pc := 34) dX7_trade_34 rfl ?_
      refine k_icmp_ne (pc := 36) 42 dX7_trade_36 (by decide) ?_ ?_
      · refine k_aload_n (pc := 42) dX7_trade_42 rfl ?_
        refine k_iload_n (pc := 43) dX7_trade_43 rfl ?_
        refine k_vi1 (pc := 44) (cM_same _ _) ckX7_strong kwm_X7_214 cM_rv0 ⟨rfl, rfl⟩ ⟨Nat.le_of_ble_eq_true rfl, Nat.le_of_ble_eq_true rfl⟩ ⟨Nat.zero_le _, Nat.zero_le _⟩ (Nat.le_of_ble_eq_true rfl) dX7_trade_44 (fun _ _ hf => kX7_strong hf) (fun r7 σ8 => ?_)
        refine k_ist5 (pc := 47) dX7_trade_47 (Nat.le_of_ble_eq_true rfl) (fun v9 => ?_)
        refine k_aload_n (pc := 49) dX7_trade_49 rfl ?_
        refine k_gMX7_whose (pc := 50) kwf_X7_22 rfl dX7_trade_50 ?_
        refine k_iload_n (pc := 53) dX7_trade_53 rfl ?_
        refine k_iload (pc := 54) dX7_trade_54 rfl ?_
        refine k_sM5 (pc := 56) dX7_trade_56 (fun σ10 => ?_)
        refine k_aload_n (pc := 57) dX7_trade_57 rfl ?_
        refine k_gMX7_whose (pc := 58) kwf_X7_22 rfl dX7_trade_58 ?_
        refine k_iload_n (pc := 61) dX7_trade_61 rfl ?_
        refine k_iload_n (pc := 62) dX7_trade_62 rfl ?_
        refine k_sM5 (pc := 63) dX7_trade_63 (fun σ11 => ?_)
        refine k_aload_n (pc := 64) dX7_trade_64 rfl ?_
        refine k_iload_n (pc := 65) dX7_trade_65 rfl ?_
        refine k_vi1 (pc := 66) (cM_same _ _) ckX7_strong kwm_X7_214 cM_rv0 ⟨rfl, rfl⟩ ⟨Nat.le_of_ble_eq_true rfl, Nat.le_of_ble_eq_true rfl⟩ ⟨Nat.zero_le _, Nat.zero_le _⟩ (Nat.le_of_ble_eq_true rfl) dX7_trade_66 (fun _ _ hf => kX7_strong hf) (fun r12 σ13 => ?_)
        refine k_ist6 (pc := 69) dX7_trade_69 (Nat.le_of_ble_eq_true rfl) (fun v14 => ?_)
        refine k_aload_n (pc := 71) dX7_trade_71 rfl ?_
        refine k_gMX7_whose (pc := 72) kwf_X7_22 rfl dX7_trade_72 ?_
        refine k_iload_n (pc := 75) dX7_trade_75 rfl ?_
        refine k_iload_n (pc := 76) dX7_trade_76 rfl ?_
        refine k_sM5 (pc := 77) dX7_trade_77 (fun σ15 => ?_)
        refine k_aload_n (pc := 78) dX7_trade_78 rfl ?_
        refine k_gMX7_whose (pc := 79) kwf_X7_22 rfl dX7_trade_79 ?_
        refine k_iload_n (pc := 82) dX7_trade_82 rfl ?_
        refine k_iload (pc := 83) dX7_trade_83 rfl ?_
        refine k_sM5 (pc := 85) dX7_trade_85 (fun σ16 => ?_)
        refine k_iload (pc := 86) dX7_trade_86 rfl ?_
        refine k_iload (pc := 88) dX7_trade_88 rfl ?_
        refine k_isub (pc := 90) dX7_trade_90 ?_
        refine k_bipush (pc := 91) (v := (nI 100)) dX7_trade_91 (by decide) ?_
        refine k_iadd (pc := 93) dX7_trade_93 ?_
        exact k_ireturn (pc := 94) rfl dX7_trade_94
      · refine k_bipush (pc := 39) (v := (k_ng 3)) dX7_trade_39 (by decide) ?_
        exact k_ireturn (pc := 41) rfl dX7_trade_41
    · refine k_iconst (pc := 16) (v := (k_ng 1)) dX7_trade_16 (by decide) ?_
      exact k_ireturn (pc := 17) rfl dX7_trade_17
