/-! ===== M: methods as pure functions, and that the bytecode answers so (by program: wip/gen/dec.py) ===== -/
-- TallTalesModel.areAllGuests(I)Z
theorem ckX7_areAllGuests : k_Vok yX7_areAllGuests cX7_areAllGuests 4 (some .boolean) 1 := ⟨kwk_X7_areAllGuests, kwi_X7_areAllGuests, kwv_X7_areAllGuests, kwn_X7, by decide, by decide +kernel⟩
abbrev rmX7_areAllGuests : Room := { frames := 1, cells := 0, slots := 0, locals := 21 }
abbrev YX7_areAllGuests : k_Y := (rmX7_areAllGuests, cX7_areAllGuests, 4, RX7, (some .boolean))
noncomputable def fX7_areAllGuests_c4 : Nat → k_S → Int32 → Int32 → Int32 → Option (Int32 × k_S)
  | 0, _, _, _, _ => none
  | n + 1, σ, l1, l2, l3 => (if l3 < σ.1 2 then k_gd ((l1 + l3)) 240 (k_ob (fX7_isGuest σ (σ.2 2 (Int32.toNatClampNeg ((l1 + l3))))) fun r1 σ2 => (if r1 = 0 then k_z ((nI 0)) (some ((nI 0), σ2)) else k_gd ((l1 + l3)) 240 (k_bn ((l2 ||| (((nI 1) : Int32) <<< ((σ2.2 2 (Int32.toNatClampNeg ((l1 + l3))) : Int32) &&& 31)))) fun v3 => k_bn (l3 + (nI 1)) fun v4 => fX7_areAllGuests_c4 n σ2 l1 v3 v4))) else (if l2 = ((((nI 1) : Int32) <<< ((σ.1 2 : Int32) &&& 31)) - (nI 1)) then k_z ((nI 1)) (some ((nI 1), σ)) else k_z ((nI 0)) (some ((nI 0), σ))))
theorem fX7_areAllGuests_c4_s (n : Nat) (σ : k_S) (l1 l2 l3 : Int32) : fX7_areAllGuests_c4 (n + 1) σ l1 l2 l3 = (if l3 < σ.1 2 then k_gd ((l1 + l3)) 240 (k_ob (fX7_isGuest σ (σ.2 2 (Int32.toNatClampNeg ((l1 + l3))))) fun r1 σ2 => (if r1 = 0 then k_z ((nI 0)) (some ((nI 0), σ2)) else k_gd ((l1 + l3)) 240 (k_bn ((l2 ||| (((nI 1) : Int32) <<< ((σ2.2 2 (Int32.toNatClampNeg ((l1 + l3))) : Int32) &&& 31)))) fun v3 => k_bn (l3 + (nI 1)) fun v4 => fX7_areAllGuests_c4 n σ2 l1 v3 v4))) else (if l2 = ((((nI 1) : Int32) <<< ((σ.1 2 : Int32) &&& 31)) - (nI 1)) then k_z ((nI 1)) (some ((nI 1), σ)) else k_z ((nI 0)) (some ((nI 0), σ)))) := rfl
set_option maxRecDepth 100000 in
set_option maxHeartbeats 4000000 in
theorem kX7_areAllGuests_c4 {X : k_C} {q : Nat → Nat} : ∀ (n : Nat) (σ : k_S) (l1 l2 l3 : Int32), KO X YX7_areAllGuests (cM (k_I X) q) 0 0 (k_Q k_ei X (cM (k_I X) q)) 4 [some (.ref (q 0)), some (.int l1), some (.int l2), some (.int l3)] [] σ (fX7_areAllGuests_c4 n σ l1 l2 l3) := by
  intro n
  induction n with
  | zero => intros; exact KO.nil
  | succ n ih =>
    intro σ l1 l2 l3
    rw [fX7_areAllGuests_c4_s]
    refine k_iload_n (pc := 4) dX7_areAllGuests_4 rfl ?_
    refine k_aload_n (pc := 5) dX7_areAllGuests_5 rfl ?_
    refine k_gMX7_guests (pc := 6) kwf_X7_77 rfl dX7_areAllGuests_6 ?_
    refine k_icmp_ge (pc := 9) 48 dX7_areAllGuests_9 (by decide) ?_ ?_
    · refine k_iload_n (pc := 48) dX7_areAllGuests_48 rfl ?_
      refine k_iconst (pc := 49) (v := (nI 1)) dX7_areAllGuests_49 (by decide) ?_
      refine k_aload_n (pc := 50) dX7_areAllGuests_50 rfl ?_
      refine k_gMX7_guests (pc := 51) kwf_X7_77 rfl dX7_areAllGuests_51 ?_
      refine k_ishl (pc := 54) dX7_areAllGuests_54 ?_
      refine k_iconst (pc := 55) (v := (nI 1)) dX7_areAllGuests_55 (by decide) ?_
      refine k_isub (pc := 56) dX7_areAllGuests_56 ?_
      refine k_icmp_ne (pc := 57) 64 dX7_areAllGuests_57 (by decide) ?_ ?_
      · refine k_iconst (pc := 64) (v := (nI 0)) dX7_areAllGuests_64 (by decide) ?_
        exact k_zreturn (pc := 65) rfl dX7_areAllGuests_65
      · refine k_iconst (pc := 60) (v := (nI 1)) dX7_areAllGuests_60 (by decide) ?_
        refine k_goto (pc := 61) 65 dX7_areAllGuests_61 (by decide) ?_
        exact k_zreturn (pc := 65) rfl dX7_areAllGuests_65
    · refine k_aload_n (pc := 12) dX7_areAllGuests_12 rfl ?_
      refine k_aload_n (pc := 13) dX7_areAllGuests_13 rfl ?_
      refine k_gMX7_cells (pc := 14) kwf_X7_16 rfl dX7_areAllGuests_14 ?_
      refine k_iload_n (pc := 17) dX7_areAllGuests_17 rfl ?_
      refine k_iload_n (pc := 18) dX7_areAllGuests_18 rfl ?_
      refine k_iadd (pc := 19) dX7_areAllGuests_19 ?_
      refine k_lM3 (pc := 20) dX7_areAllGuests_20 ?_
      refine k_vi1 (pc := 21) (cM_same _ _) ckX7_isGuest kwm_X7_145 cM_rv0 ⟨rfl, rfl⟩ ⟨Nat.le_of_ble_eq_true rfl, Nat.le_of_ble_eq_true rfl⟩ ⟨Nat.zero_le _, Nat.zero_le _⟩ (Nat.le_of_ble_eq_true rfl) dX7_areAllGuests_21 (fun _ _ hf => kX7_isGuest hf) (fun r1 σ2 => ?_)
      refine k_if_ne (pc := 24) 29 dX7_areAllGuests_24 (by decide) ?_ ?_
      · refine k_iload_n (pc := 29) dX7_areAllGuests_29 rfl ?_
        refine k_iconst (pc := 30) (v := (nI 1)) dX7_areAllGuests_30 (by decide) ?_
        refine k_aload_n (pc := 31) dX7_areAllGuests_31 rfl ?_
        refine k_gMX7_cells (pc := 32) kwf_X7_16 rfl dX7_areAllGuests_32 ?_
        refine k_iload_n (pc := 35) dX7_areAllGuests_35 rfl ?_
        refine k_iload_n (pc := 36) dX7_areAllGuests_36 rfl ?_
        refine k_iadd (pc := 37) dX7_areAllGuests_37 ?_
        refine k_lM3 (pc := 38) dX7_areAllGuests_38 ?_
        refine k_ishl (pc := 39) dX7_areAllGuests_39 ?_
        refine k_ior (pc := 40) dX7_areAllGuests_40 ?_
        refine k_ist2 (pc := 41) dX7_areAllGuests_41 (Nat.le_of_ble_eq_true rfl) (fun v3 => ?_)
        refine k_iinc3 (pc := 42) (w := (nI 1)) dX7_areAllGuests_42 rfl (by decide) (Nat.le_of_ble_eq_true rfl) (fun v4 => ?_)
        refine k_goto (pc := 45) 4 dX7_areAllGuests_45 (by decide) ?_
        exact ih σ2 l1 v3 v4
      · refine k_iconst (pc := 27) (v := (nI 0)) dX7_areAllGuests_27 (by decide) ?_
        exact k_zreturn (pc := 28) rfl dX7_areAllGuests_28
noncomputable def fX7_areAllGuests (σ : k_S) (x1 : Int32) : Option (Int32 × k_S) := k_bn ((nI 0)) fun v1 => k_bn ((nI 0)) fun v2 => fX7_areAllGuests_c4 k_F σ x1 v1 v2
set_option maxRecDepth 100000 in
set_option maxHeartbeats 4000000 in
theorem kX7_areAllGuests {D : va_G} {cI : ClassId} {q : Nat → Nat} {σ : k_S} {x1 : Int32} {r : Int32} {τ : k_S} (h : fX7_areAllGuests σ x1 = some (r, τ)) : k_Ct k_ei yX7_areAllGuests cX7_areAllGuests 4 (some .boolean) rmX7_areAllGuests (cM cI q) D cI [.ref (q 0), .int x1] σ r τ := by
  refine k_met (Y := YX7_areAllGuests) (cM_same _ _) (by decide) rfl (Nat.le_of_ble_eq_true rfl) (List.forall_mem_cons.mpr ⟨rfl, List.forall_mem_cons.mpr ⟨rfl, fun _ h => absurd h List.not_mem_nil⟩⟩) (fun X hD hI => ?_) h
  subst hD hI
  show KO X YX7_areAllGuests (cM (k_I X) q) 0 0 (k_Q k_ei X (cM (k_I X) q)) 0 [some (.ref (q 0)), some (.int x1), none, none] [] σ _
  unfold fX7_areAllGuests
  refine k_iconst (pc := 0) (v := (nI 0)) dX7_areAllGuests_0 (by decide) ?_
  refine k_ist2 (pc := 1) dX7_areAllGuests_1 (Nat.le_of_ble_eq_true rfl) (fun v1 => ?_)
  refine k_iconst (pc := 2) (v := (nI 0)) dX7_areAllGuests_2 (by decide) ?_
  refine k_ist3 (pc := 3) dX7_areAllGuests_3 (Nat.le_of_ble_eq_true rfl) (fun v2 => ?_)
  exact kX7_areAllGuests_c4 k_F σ x1 v1 v2
-- TallTalesModel.timesBefore(II)I
theorem ckX7_timesBefore : k_Vok yX7_timesBefore cX7_timesBefore 5 (some .int) 2 := ⟨kwk_X7_timesBefore, kwi_X7_timesBefore, kwv_X7_timesBefore, kwn_X7, by decide, by decide +kernel⟩
abbrev rmX7_timesBefore : Room := { frames := 0, cells := 0, slots := 0, locals := 0 }
abbrev YX7_timesBefore : k_Y := (rmX7_timesBefore, cX7_timesBefore, 5, RX7, (some .int))
noncomputable def fX7_timesBefore_c30 (kh5 : k_S → Int32 → Int32 → Int32 → Int32 → Option (Int32 × k_S)) (σ : k_S) (l1 l2 l4 s0 s1 : Int32) : Option (Int32 × k_S) := k_bn ((s0 + s1)) fun v1 => k_bn (l4 + (nI 1)) fun v2 => kh5 σ l1 l2 v1 v2
set_option maxRecDepth 100000 in
set_option maxHeartbeats 4000000 in
theorem kX7_timesBefore_c30 {X : k_C} {q : Nat → Nat} (kh5 : k_S → Int32 → Int32 → Int32 → Int32 → Option (Int32 × k_S)) (hk5 : ∀ (σ : k_S) (l1 l2 l3 l4 : Int32), KO X YX7_timesBefore (cM (k_I X) q) 0 0 (k_Q k_ei X (cM (k_I X) q)) 5 [some (.ref (q 0)), some (.int l1), some (.int l2), some (.int l3), some (.int l4)] [] σ (kh5 σ l1 l2 l3 l4)) (σ : k_S) (l1 l2 l4 s0 s1 : Int32) : KO X YX7_timesBefore (cM (k_I X) q) 0 0 (k_Q k_ei X (cM (k_I X) q)) 30 [some (.ref (q 0)), some (.int l1), some (.int l2), none, some (.int l4)] [.int s1, .int s0] σ (fX7_timesBefore_c30 kh5 σ l1 l2 l4 s0 s1) := by
  unfold fX7_timesBefore_c30
  refine k_iadd (pc := 30) dX7_timesBefore_30 ?_
  refine k_ist3 (pc := 31) dX7_timesBefore_31 (Nat.le_of_ble_eq_true rfl) (fun v1 => ?_)
  refine k_iinc4 (pc := 32) (w := (nI 1)) dX7_timesBefore_32 rfl (by decide) (Nat.le_of_ble_eq_true rfl) (fun v2 => ?_)
  refine k_goto (pc := 35) 5 dX7_timesBefore_35 (by decide) ?_
  exact hk5 σ l1 l2 v1 v2
noncomputable def fX7_timesBefore_c5 : Nat → k_S → Int32 → Int32 → Int32 → Int32 → Option (Int32 × k_S)
  | 0, _, _, _, _, _ => none
  | n + 1, σ, l1, l2, l3, l4 => (if l4 < ((nI 5) * l2) then k_gd (l4) 300 ((if σ.2 9 (Int32.toNatClampNeg (l4)) = l1 then fX7_timesBefore_c30 (fX7_timesBefore_c5 n) σ l1 l2 l4 l3 ((nI 1)) else fX7_timesBefore_c30 (fX7_timesBefore_c5 n) σ l1 l2 l4 l3 ((nI 0)))) else some (l3, σ))
theorem fX7_timesBefore_c5_s (n : Nat) (σ : k_S) (l1 l2 l3 l4 : Int32) : fX7_timesBefore_c5 (n + 1) σ l1 l2 l3 l4 = (if l4 < ((nI 5) * l2) then k_gd (l4) 300 ((if σ.2 9 (Int32.toNatClampNeg (l4)) = l1 then fX7_timesBefore_c30 (fX7_timesBefore_c5 n) σ l1 l2 l4 l3 ((nI 1)) else fX7_timesBefore_c30 (fX7_timesBefore_c5 n) σ l1 l2 l4 l3 ((nI 0)))) else some (l3, σ)) := rfl
set_option maxRecDepth 100000 in
set_option maxHeartbeats 4000000 in
theorem kX7_timesBefore_c5 {X : k_C} {q : Nat → Nat} : ∀ (n : Nat) (σ : k_S) (l1 l2 l3 l4 : Int32), KO X YX7_timesBefore (cM (k_I X) q) 0 0 (k_Q k_ei X (cM (k_I X) q)) 5 [some (.ref (q 0)), some (.int l1), some (.int l2), some (.int l3), some (.int l4)] [] σ (fX7_timesBefore_c5 n σ l1 l2 l3 l4) := by
  intro n
  induction n with
  | zero => intros; exact KO.nil
  | succ n ih =>
    intro σ l1 l2 l3 l4
    rw [fX7_timesBefore_c5_s]
    refine k_iload (pc := 5) dX7_timesBefore_5 rfl ?_
    refine k_iconst (pc := 7) (v := (nI 5)) dX7_timesBefore_7 (by decide) ?_
    refine k_iload_n (pc := 8) dX7_timesBefore_8 rfl ?_
    refine k_imul (pc := 9) dX7_timesBefore_9 ?_
    refine k_icmp_ge (pc := 10) 38 dX7_timesBefore_10 (by decide) ?_ ?_
    · refine k_iload_n (pc := 38) dX7_timesBefore_38 rfl ?_
      exact k_ireturn (pc := 39) rfl dX7_timesBefore_39
    · refine k_iload_n (pc := 13) dX7_timesBefore_13 rfl ?_
      refine k_aload_n (pc := 14) dX7_timesBefore_14 rfl ?_
      refine k_gMX7_nightTold (pc := 15) kwf_X7_37 rfl dX7_timesBefore_15 ?_
      refine k_iload (pc := 18) dX7_timesBefore_18 rfl ?_
      refine k_lM10 (pc := 20) dX7_timesBefore_20 ?_
      refine k_iload_n (pc := 21) dX7_timesBefore_21 rfl ?_
      refine k_icmp_ne (pc := 22) 29 dX7_timesBefore_22 (by decide) ?_ ?_
      · refine k_iconst (pc := 29) (v := (nI 0)) dX7_timesBefore_29 (by decide) ?_
        refine k_fg3 ?_
        exact kX7_timesBefore_c30 (fX7_timesBefore_c5 n) ih σ l1 l2 l4 l3 ((nI 0))
      · refine k_iconst (pc := 25) (v := (nI 1)) dX7_timesBefore_25 (by decide) ?_
        refine k_goto (pc := 26) 30 dX7_timesBefore_26 (by decide) ?_
        refine k_fg3 ?_
        exact kX7_timesBefore_c30 (fX7_timesBefore_c5 n) ih σ l1 l2 l4 l3 ((nI 1))
noncomputable def fX7_timesBefore (σ : k_S) (x1 x2 : Int32) : Option (Int32 × k_S) := k_bn ((nI 0)) fun v1 => k_bn ((nI 0)) fun v2 => fX7_timesBefore_c5 k_F σ x1 x2 v1 v2
set_option maxRecDepth 100000 in
set_option maxHeartbeats 4000000 in
theorem kX7_timesBefore {D : va_G} {cI : ClassId} {q : Nat → Nat} {σ : k_S} {x1 x2 : Int32} {r : Int32} {τ : k_S} (h : fX7_timesBefore σ x1 x2 = some (r, τ)) : k_Ct k_ei yX7_timesBefore cX7_timesBefore 5 (some .int) rmX7_timesBefore (cM cI q) D cI [.ref (q 0), .int x1, .int x2] σ r τ := by
  refine k_met (Y := YX7_timesBefore) (cM_same _ _) (by decide) rfl (Nat.le_of_ble_eq_true rfl) (List.forall_mem_cons.mpr ⟨rfl, List.forall_mem_cons.mpr ⟨rfl, List.forall_mem_cons.mpr ⟨rfl, fun _ h => absurd h List.not_mem_nil⟩⟩⟩) (fun X hD hI => ?_) h
  subst hD hI
  show KO X YX7_timesBefore (cM (k_I X) q) 0 0 (k_Q k_ei X (cM (k_I X) q)) 0 [some (.ref (q 0)), some (.int x1), some (.int x2), none, none] [] σ _
  unfold fX7_timesBefore
  refine k_iconst (pc := 0) (v := (nI 0)) dX7_timesBefore_0 (by decide) ?_
  refine k_ist3 (pc := 1) dX7_timesBefore_1 (Nat.le_of_ble_eq_true rfl) (fun v1 => ?_)
  refine k_iconst (pc := 2) (v := (nI 0)) dX7_timesBefore_2 (by decide) ?_
  refine k_ist4 (pc := 3) dX7_timesBefore_3 (Nat.le_of_ble_eq_true rfl) (fun v2 => ?_)
  exact kX7_timesBefore_c5 k_F σ x1 x2 v1 v2
-- TallTalesModel.doLie(I)Z
theorem ckX7_doLie : k_Vok yX7_doLie cX7_doLie 3 (some .boolean) 1 := ⟨kwk_X7_doLie, kwi_X7_doLie, kwv_X7_doLie, kwn_X7, by decide, by decide +kernel⟩
abbrev rmX7_doLie : Room := { frames := 1, cells := 0, slots := 0, locals := 23 }
abbrev YX7_doLie : k_Y := (rmX7_doLie, cX7_doLie, 3, RX7, (some .boolean))
noncomputable def fX7_doLie_c2 : Nat → k_S → Int32 → Int32 → Option (Int32 × k_S)
  | 0, _, _, _ => none
  | n + 1, σ, l1, l2 => (if l2 < σ.1 2 then k_gd ((l1 + l2)) 240 (k_ob (fX7_placeOf σ (σ.2 2 (Int32.toNatClampNeg ((l1 + l2))))) fun r1 σ2 => (if r1 = l2 then k_bn (l2 + (nI 1)) fun v3 => fX7_doLie_c2 n σ2 l1 v3 else k_z ((nI 0)) (some ((nI 0), σ2)))) else k_z ((nI 1)) (some ((nI 1), σ)))
theorem fX7_doLie_c2_s (n : Nat) (σ : k_S) (l1 l2 : Int32) : fX7_doLie_c2 (n + 1) σ l1 l2 = (if l2 < σ.1 2 then k_gd ((l1 + l2)) 240 (k_ob (fX7_placeOf σ (σ.2 2 (Int32.toNatClampNeg ((l1 + l2))))) fun r1 σ2 => (if r1 = l2 then k_bn (l2 + (nI 1)) fun v3 => fX7_doLie_c2 n σ2 l1 v3 else k_z ((nI 0)) (some ((nI 0), σ2)))) else k_z ((nI 1)) (some ((nI 1), σ))) := rfl
set_option maxRecDepth 100000 in
set_option maxHeartbeats 4000000 in
theorem kX7_doLie_c2 {X : k_C} {q : Nat → Nat} : ∀ (n : Nat) (σ : k_S) (l1 l2 : Int32), KO X YX7_doLie (cM (k_I X) q) 0 0 (k_Q k_ei X (cM (k_I X) q)) 2 [some (.ref (q 0)), some (.int l1), some (.int l2)] [] σ (fX7_doLie_c2 n σ l1 l2) := by
  intro n
  induction n with
  | zero => intros; exact KO.nil
  | succ n ih =>
    intro σ l1 l2
    rw [fX7_doLie_c2_s]
    refine k_iload_n (pc := 2) dX7_doLie_2 rfl ?_
    refine k_aload_n (pc := 3) dX7_doLie_3 rfl ?_
    refine k_gMX7_guests (pc := 4) kwf_X7_77 rfl dX7_doLie_4 ?_
    refine k_icmp_ge (pc := 7) 34 dX7_doLie_7 (by decide) ?_ ?_
    · refine k_iconst (pc := 34) (v := (nI 1)) dX7_doLie_34 (by decide) ?_
      exact k_zreturn (pc := 35) rfl dX7_doLie_35
    · refine k_aload_n (pc := 10) dX7_doLie_10 rfl ?_
      refine k_aload_n (pc := 11) dX7_doLie_11 rfl ?_
      refine k_gMX7_cells (pc := 12) kwf_X7_16 rfl dX7_doLie_12 ?_
      refine k_iload_n (pc := 15) dX7_doLie_15 rfl ?_
      refine k_iload_n (pc := 16) dX7_doLie_16 rfl ?_
      refine k_iadd (pc := 17) dX7_doLie_17 ?_
      refine k_lM3 (pc := 18) dX7_doLie_18 ?_
      refine k_vi1 (pc := 19) (cM_same _ _) ckX7_placeOf kwm_X7_148 cM_rv0 ⟨rfl, rfl⟩ ⟨Nat.le_of_ble_eq_true rfl, Nat.le_of_ble_eq_true rfl⟩ ⟨Nat.zero_le _, Nat.zero_le _⟩ (Nat.le_of_ble_eq_true rfl) dX7_doLie_19 (fun _ _ hf => kX7_placeOf hf) (fun r1 σ2 => ?_)
      refine k_iload_n (pc := 22) dX7_doLie_22 rfl ?_
      refine k_icmp_eq (pc := 23) 28 dX7_doLie_23 (by decide) ?_ ?_
      · refine k_iinc2 (pc := 28) (w := (nI 1)) dX7_doLie_28 rfl (by decide) (Nat.le_of_ble_eq_true rfl) (fun v3 => ?_)
        refine k_goto (pc := 31) 2 dX7_doLie_31 (by decide) ?_
        exact ih σ2 l1 v3
      · refine k_iconst (pc := 26) (v := (nI 0)) dX7_doLie_26 (by decide) ?_
        exact k_zreturn (pc := 27) rfl dX7_doLie_27
noncomputable def fX7_doLie (σ : k_S) (x1 : Int32) : Option (Int32 × k_S) := k_bn ((nI 0)) fun v1 => fX7_doLie_c2 k_F σ x1 v1
set_option maxRecDepth 100000 in
set_option maxHeartbeats 4000000 in
theorem kX7_doLie {D : va_G} {cI : ClassId} {q : Nat → Nat} {σ : k_S} {x1 : Int32} {r : Int32} {τ : k_S} (h : fX7_doLie σ x1 = some (r, τ)) : k_Ct k_ei yX7_doLie cX7_doLie 3 (some .boolean) rmX7_doLie (cM cI q) D cI [.ref (q 0), .int x1] σ r τ := by
  refine k_met (Y := YX7_doLie) (cM_same _ _) (by decide) rfl (Nat.le_of_ble_eq_true rfl) (List.forall_mem_cons.mpr ⟨rfl, List.forall_mem_cons.mpr ⟨rfl, fun _ h => absurd h List.not_mem_nil⟩⟩) (fun X hD hI => ?_) h
  subst hD hI
  show KO X YX7_doLie (cM (k_I X) q) 0 0 (k_Q k_ei X (cM (k_I X) q)) 0 [some (.ref (q 0)), some (.int x1), none] [] σ _
  unfold fX7_doLie
  refine k_iconst (pc := 0) (v := (nI 0)) dX7_doLie_0 (by decide) ?_
  refine k_ist2 (pc := 1) dX7_doLie_1 (Nat.le_of_ble_eq_true rfl) (fun v1 => ?_)
  exact kX7_doLie_c2 k_F σ x1 v1
-- TallTalesModel.toldBy(IIIII)I
theorem ckX7_toldBy : k_Vok yX7_toldBy cX7_toldBy 10 (some .int) 5 := ⟨kwk_X7_toldBy, kwi_X7_toldBy, kwv_X7_toldBy, kwn_X7, by decide, by decide +kernel⟩
abbrev rmX7_toldBy : Room := { frames := 2, cells := 0, slots := 0, locals := 45 }
abbrev YX7_toldBy : k_Y := (rmX7_toldBy, cX7_toldBy, 10, RX7, (some .int))
noncomputable def fX7_toldBy_c161 (kh100 : k_S → Int32 → Int32 → Int32 → Int32 → Int32 → Option (Int32 × k_S)) (σ : k_S) (l1 l2 l7 l8 l9 : Int32) : Option (Int32 × k_S) := k_bn (l9 + (nI 1)) fun v1 => kh100 σ l1 l2 l7 l8 v1
set_option maxRecDepth 100000 in
set_option maxHeartbeats 4000000 in
theorem kX7_toldBy_c161 {X : k_C} {q : Nat → Nat} (kh100 : k_S → Int32 → Int32 → Int32 → Int32 → Int32 → Option (Int32 × k_S)) (hk100 : ∀ (σ : k_S) (l1 l2 l7 l8 l9 : Int32), KO X YX7_toldBy (cM (k_I X) q) 0 0 (k_Q k_ei X (cM (k_I X) q)) 100 [some (.ref (q 0)), some (.int l1), some (.int l2), none, none, none, none, some (.int l7), some (.int l8), some (.int l9)] [] σ (kh100 σ l1 l2 l7 l8 l9)) (σ : k_S) (l1 l2 l7 l8 l9 : Int32) : KO X YX7_toldBy (cM (k_I X) q) 0 0 (k_Q k_ei X (cM (k_I X) q)) 161 [some (.ref (q 0)), some (.int l1), some (.int l2), none, none, none, none, some (.int l7), some (.int l8), some (.int l9)] [] σ (fX7_toldBy_c161 kh100 σ l1 l2 l7 l8 l9) := by
  unfold fX7_toldBy_c161
  refine k_iinc9 (pc := 161) (w := (nI 1)) dX7_toldBy_161 rfl (by decide) (Nat.le_of_ble_eq_true rfl) (fun v1 => ?_)
  refine k_goto (pc := 164) 100 dX7_toldBy_164 (by decide) ?_
  exact hk100 σ l1 l2 l7 l8 v1
noncomputable def fX7_toldBy_c158 (kh100 : k_S → Int32 → Int32 → Int32 → Int32 → Int32 → Option (Int32 × k_S)) (σ : k_S) (l1 l2 l7 l9 s0 s1 : Int32) : Option (Int32 × k_S) := k_bn ((s0 ||| s1)) fun v1 => fX7_toldBy_c161 kh100 σ l1 l2 l7 v1 l9
set_option maxRecDepth 100000 in
set_option maxHeartbeats 4000000 in
theorem kX7_toldBy_c158 {X : k_C} {q : Nat → Nat} (kh100 : k_S → Int32 → Int32 → Int32 → Int32 → Int32 → Option (Int32 × k_S)) (hk100 : ∀ (σ : k_S) (l1 l2 l7 l8 l9 : Int32), KO X YX7_toldBy (cM (k_I X) q) 0 0 (k_Q k_ei X (cM (k_I X) q)) 100 [some (.ref (q 0)), some (.int l1), some (.int l2), none, none, none, none, some (.int l7), some (.int l8), some (.int l9)] [] σ (kh100 σ l1 l2 l7 l8 l9)) (σ : k_S) (l1 l2 l7 l9 s0 s1 : Int32) : KO X YX7_toldBy (cM (k_I X) q) 0 0 (k_Q k_ei X (cM (k_I X) q)) 158 [some (.ref (q 0)), some (.int l1), some (.int l2), none, none, none, none, some (.int l7), none, some (.int l9)] [.int s1, .int s0] σ (fX7_toldBy_c158 kh100 σ l1 l2 l7 l9 s0 s1) := by
  unfold fX7_toldBy_c158
  refine k_ior (pc := 158) dX7_toldBy_158 ?_
  refine k_ist8 (pc := 159) dX7_toldBy_159 (Nat.le_of_ble_eq_true rfl) (fun v1 => ?_)
  exact kX7_toldBy_c161 kh100 hk100 σ l1 l2 l7 v1 l9
noncomputable def fX7_toldBy_c100 : Nat → k_S → Int32 → Int32 → Int32 → Int32 → Int32 → Option (Int32 × k_S)
  | 0, _, _, _, _, _, _ => none
  | n + 1, σ, l1, l2, l7, l8, l9 => (if l9 < σ.1 3 then k_gd (l9) 10 ((if σ.2 4 (Int32.toNatClampNeg (l9)) = l2 then k_ob (fX7_timesBefore σ l9 l1) fun r4 σ5 => k_ob (fX7_tallBy σ5 l9 r4) fun r6 σ7 => k_gd (l2) 5 (k_bn (k_sa σ7 14 (l2) (r6)) fun σ8 => k_ob (fX7_doLie σ8 l7) fun r9 σ10 => (if r9 = 0 then fX7_toldBy_c158 (fX7_toldBy_c100 n) σ10 l1 l2 l7 l9 l8 ((nI 0)) else fX7_toldBy_c158 (fX7_toldBy_c100 n) σ10 l1 l2 l7 l9 l8 ((((nI 1) : Int32) <<< ((l9 : Int32) &&& 31))))) else fX7_toldBy_c161 (fX7_toldBy_c100 n) σ l1 l2 l7 l8 l9)) else k_gd (l2) 5 (k_bn (k_sa σ 14 (l2) ((nI 0))) fun σ1 => k_ob (fX7_doLie σ1 l7) fun r2 σ3 => (if r2 = 0 then some ((l8 ||| (nI 0)), σ3) else some ((l8 ||| (nI 1024)), σ3))))
theorem fX7_toldBy_c100_s (n : Nat) (σ : k_S) (l1 l2 l7 l8 l9 : Int32) : fX7_toldBy_c100 (n + 1) σ l1 l2 l7 l8 l9 = (if l9 < σ.1 3 then k_gd (l9) 10 ((if σ.2 4 (Int32.toNatClampNeg (l9)) = l2 then k_ob (fX7_timesBefore σ l9 l1) fun r4 σ5 => k_ob (fX7_tallBy σ5 l9 r4) fun r6 σ7 => k_gd (l2) 5 (k_bn (k_sa σ7 14 (l2) (r6)) fun σ8 => k_ob (fX7_doLie σ8 l7) fun r9 σ10 => (if r9 = 0 then fX7_toldBy_c158 (fX7_toldBy_c100 n) σ10 l1 l2 l7 l9 l8 ((nI 0)) else fX7_toldBy_c158 (fX7_toldBy_c100 n) σ10 l1 l2 l7 l9 l8 ((((nI 1) : Int32) <<< ((l9 : Int32) &&& 31))))) else fX7_toldBy_c161 (fX7_toldBy_c100 n) σ l1 l2 l7 l8 l9)) else k_gd (l2) 5 (k_bn (k_sa σ 14 (l2) ((nI 0))) fun σ1 => k_ob (fX7_doLie σ1 l7) fun r2 σ3 => (if r2 = 0 then some ((l8 ||| (nI 0)), σ3) else some ((l8 ||| (nI 1024)), σ3)))) := rfl
set_option maxRecDepth 100000 in
set_option maxHeartbeats 4000000 in
theorem kX7_toldBy_c100 {X : k_C} {q : Nat → Nat} : ∀ (n : Nat) (σ : k_S) (l1 l2 l7 l8 l9 : Int32), KO X YX7_toldBy (cM (k_I X) q) 0 0 (k_Q k_ei X (cM (k_I X) q)) 100 [some (.ref (q 0)), some (.int l1), some (.int l2), none, none, none, none, some (.int l7), some (.int l8), some (.int l9)] [] σ (fX7_toldBy_c100 n σ l1 l2 l7 l8 l9) := by
  intro n
  induction n with
  | zero => intros; exact KO.nil
  | succ n ih =>
    intro σ l1 l2 l7 l8 l9
    rw [fX7_toldBy_c100_s]
    refine k_iload (pc := 100) dX7_toldBy_100 rfl ?_
    refine k_aload_n (pc := 102) dX7_toldBy_102 rfl ?_
    refine k_gMX7_tales (pc := 103) kwf_X7_80 rfl dX7_toldBy_103 ?_
    refine k_icmp_ge (pc := 106) 167 dX7_toldBy_106 (by decide) ?_ ?_
    · refine k_aload_n (pc := 167) dX7_toldBy_167 rfl ?_
      refine k_gMX7_tall (pc := 168) kwf_X7_52 rfl dX7_toldBy_168 ?_
      refine k_iload_n (pc := 171) dX7_toldBy_171 rfl ?_
      refine k_iconst (pc := 172) (v := (nI 0)) dX7_toldBy_172 (by decide) ?_
      refine k_sM15 (pc := 173) dX7_toldBy_173 (fun σ1 => ?_)
      refine k_iload (pc := 174) dX7_toldBy_174 rfl ?_
      refine k_aload_n (pc := 176) dX7_toldBy_176 rfl ?_
      refine k_iload (pc := 177) dX7_toldBy_177 rfl ?_
      refine k_vi1 (pc := 179) (cM_same _ _) ckX7_doLie kwm_X7_223 cM_rv0 ⟨rfl, rfl⟩ ⟨Nat.le_of_ble_eq_true rfl, Nat.le_of_ble_eq_true rfl⟩ ⟨Nat.zero_le _, Nat.zero_le _⟩ (Nat.le_of_ble_eq_true rfl) dX7_toldBy_179 (fun _ _ hf => kX7_doLie hf) (fun r2 σ3 => ?_)
      refine k_if_eq (pc := 182) 191 dX7_toldBy_182 (by decide) ?_ ?_
      · refine k_iconst (pc := 191) (v := (nI 0)) dX7_toldBy_191 (by decide) ?_
        refine k_ior (pc := 192) dX7_toldBy_192 ?_
        exact k_ireturn (pc := 193) rfl dX7_toldBy_193
      · refine k_sipush (pc := 185) (v := (nI 1024)) dX7_toldBy_185 (by decide) ?_
        refine k_goto (pc := 188) 192 dX7_toldBy_188 (by decide) ?_
        refine k_ior (pc := 192) dX7_toldBy_192 ?_
        exact k_ireturn (pc := 193) rfl dX7_toldBy_193
    · refine k_aload_n (pc := 109) dX7_toldBy_109 rfl ?_
      refine k_gMX7_whose (pc := 110) kwf_X7_22 rfl dX7_toldBy_110 ?_
      refine k_iload (pc := 113) dX7_toldBy_113 rfl ?_
      refine k_lM5 (pc := 115) dX7_toldBy_115 ?_
      refine k_iload_n (pc := 116) dX7_toldBy_116 rfl ?_
      refine k_icmp_ne (pc := 117) 161 dX7_toldBy_117 (by decide) ?_ ?_
      · exact kX7_toldBy_c161 (fX7_toldBy_c100 n) ih σ l1 l2 l7 l8 l9
      · refine k_aload_n (pc := 120) dX7_toldBy_120 rfl ?_
        refine k_gMX7_tall (pc := 121) kwf_X7_52 rfl dX7_toldBy_121 ?_
        refine k_iload_n (pc := 124) dX7_toldBy_124 rfl ?_
        refine k_aload_n (pc := 125) dX7_toldBy_125 rfl ?_
        refine k_iload (pc := 126) dX7_toldBy_126 rfl ?_
        refine k_aload_n (pc := 128) dX7_toldBy_128 rfl ?_
        refine k_iload (pc := 129) dX7_toldBy_129 rfl ?_
        refine k_iload_n (pc := 131) dX7_toldBy_131 rfl ?_
        refine k_vi2 (pc := 132) (cM_same _ _) ckX7_timesBefore kwm_X7_220 cM_rv0 ⟨rfl, rfl⟩ ⟨Nat.le_of_ble_eq_true rfl, Nat.le_of_ble_eq_true rfl⟩ ⟨Nat.zero_le _, Nat.zero_le _⟩ (Nat.le_of_ble_eq_true rfl) dX7_toldBy_132 (fun _ _ hf => kX7_timesBefore hf) (fun r4 σ5 => ?_)
        refine k_vi2 (pc := 135) (cM_same _ _) ckX7_tallBy kwm_X7_133 cM_rv0 ⟨rfl, rfl⟩ ⟨Nat.le_of_ble_eq_true rfl, Nat.le_of_ble_eq_true rfl⟩ ⟨Nat.zero_le _, Nat.zero_le _⟩ (Nat.le_of_ble_eq_true rfl) dX7_toldBy_135 (fun _ _ hf => kX7_tallBy hf) (fun r6 σ7 => ?_)
        refine k_sM15 (pc := 138) dX7_toldBy_138 (fun σ8 => ?_)
        refine k_iload (pc := 139) dX7_toldBy_139 rfl ?_
        refine k_aload_n (pc := 141) dX7_toldBy_141 rfl ?_
        refine k_iload (pc := 142) dX7_toldBy_142 rfl ?_
        refine k_vi1 (pc := 144) (cM_same _ _) ckX7_doLie kwm_X7_223 cM_rv0 ⟨rfl, rfl⟩ ⟨Nat.le_of_ble_eq_true rfl, Nat.le_of_ble_eq_true rfl⟩ ⟨Nat.zero_le _, Nat.zero_le _⟩ (Nat.le_of_ble_eq_true rfl) dX7_toldBy_144 (fun _ _ hf => kX7_doLie hf) (fun r9 σ10 => ?_)
        refine k_if_eq (pc := 147) 157 dX7_toldBy_147 (by decide) ?_ ?_
        · refine k_iconst (pc := 157) (v := (nI 0)) dX7_toldBy_157 (by decide) ?_
          refine k_fg8 ?_
          exact kX7_toldBy_c158 (fX7_toldBy_c100 n) ih σ10 l1 l2 l7 l9 l8 ((nI 0))
        · refine k_iconst (pc := 150) (v := (nI 1)) dX7_toldBy_150 (by decide) ?_
          refine k_iload (pc := 151) dX7_toldBy_151 rfl ?_
          refine k_ishl (pc := 153) dX7_toldBy_153 ?_
          refine k_goto (pc := 154) 158 dX7_toldBy_154 (by decide) ?_
          refine k_fg8 ?_
          exact kX7_toldBy_c158 (fX7_toldBy_c100 n) ih σ10 l1 l2 l7 l9 l8 ((((nI 1) : Int32) <<< ((l9 : Int32) &&& 31)))
noncomputable def fX7_toldBy (σ : k_S) (x1 x2 x3 x4 x5 : Int32) : Option (Int32 × k_S) := k_bn (k_sf σ 0 ((nI 0))) fun σ1 => k_ob (fX7_isNight σ1 x1) fun r2 σ3 => (if r2 = 0 then some ((k_ng 1), σ3) else k_ob (fX7_isGuest σ3 x2) fun r4 σ5 => (if r4 = 0 then some ((k_ng 1), σ5) else k_ob (fX7_isSheet σ5 x3) fun r6 σ7 => (if r6 = 0 then some ((k_ng 1), σ7) else k_ob (fX7_isSort σ7 x4) fun r8 σ9 => (if r8 = 0 then some ((k_ng 2), σ9) else k_ob (fX7_against σ9 x3 x4 x5 (σ9.1 2)) fun r10 σ11 => k_bn (r10) fun v12 => (if v12 = 0 then k_bn ((((nI 60) * x3) + x5)) fun v13 => k_ob (fX7_areAllGuests σ11 v13) fun r14 σ15 => (if r14 = 0 then some ((k_ng 2), σ15) else k_ob (fX7_layNight σ15 x1) fun r16 σ17 => k_bn ((nI 0)) fun v18 => k_bn ((nI 0)) fun v19 => fX7_toldBy_c100 k_F σ17 x1 x2 v13 v18 v19) else k_ob (fX7_fails σ11 v12) fun r20 σ21 => some (r20, σ21))))))
set_option maxRecDepth 100000 in
set_option maxHeartbeats 4000000 in
theorem kX7_toldBy {D : va_G} {cI : ClassId} {q : Nat → Nat} {σ : k_S} {x1 x2 x3 x4 x5 : Int32} {r : Int32} {τ : k_S} (h : fX7_toldBy σ x1 x2 x3 x4 x5 = some (r, τ)) : k_Ct k_ei yX7_toldBy cX7_toldBy 10 (some .int) rmX7_toldBy (cM cI q) D cI [.ref (q 0), .int x1, .int x2, .int x3, .int x4, .int x5] σ r τ := by
  refine k_met (Y := YX7_toldBy) (cM_same _ _) (by decide) rfl (Nat.le_of_ble_eq_true rfl) (List.forall_mem_cons.mpr ⟨rfl, List.forall_mem_cons.mpr ⟨rfl, List.forall_mem_cons.mpr ⟨rfl, List.forall_mem_cons.mpr ⟨rfl, List.forall_mem_cons.mpr ⟨rfl, List.forall_mem_cons.mpr ⟨rfl, fun _ h => absurd h List.not_mem_nil⟩⟩⟩⟩⟩⟩) (fun X hD hI => ?_) h
  subst hD hI
  show KO X YX7_toldBy (cM (k_I X) q) 0 0 (k_Q k_ei X (cM (k_I X) q)) 0 [some (.ref (q 0)), some (.int x1), some (.int x2), some (.int x3), some (.int x4), some (.int x5), none, none, none, none] [] σ _
  unfold fX7_toldBy
  refine k_aload_n (pc := 0) dX7_toldBy_0 rfl ?_
  refine k_iconst (pc := 1) (v := (nI 0)) dX7_toldBy_1 (by decide) ?_
  refine k_pMX7_fault (pc := 2) kwf_X7_67 rfl dX7_toldBy_2 (fun σ1 => ?_)
  refine k_aload_n (pc := 5) dX7_toldBy_5 rfl ?_
  refine k_iload_n (pc := 6) dX7_toldBy_6 rfl ?_
  refine k_vi1 (pc := 7) (cM_same _ _) ckX7_isNight kwm_X7_158 cM_rv0 ⟨rfl, rfl⟩ ⟨Nat.le_of_ble_eq_true rfl, Nat.le_of_ble_eq_true rfl⟩ ⟨Nat.zero_le _, Nat.zero_le _⟩ (Nat.le_of_ble_eq_true rfl) dX7_toldBy_7 (fun _ _ hf => kX7_isNight hf) (fun r2 σ3 => ?_)
  refine k_if_eq (pc := 10) 28 dX7_toldBy_10 (by decide) ?_ ?_
  · refine k_iconst (pc := 28) (v := (k_ng 1)) dX7_toldBy_28 (by decide) ?_
    exact k_ireturn (pc := 29) rfl dX7_toldBy_29
  · refine k_aload_n (pc := 13) dX7_toldBy_13 rfl ?_
    refine k_iload_n (pc := 14) dX7_toldBy_14 rfl ?_
    refine k_vi1 (pc := 15) (cM_same _ _) ckX7_isGuest kwm_X7_145 cM_rv0 ⟨rfl, rfl⟩ ⟨Nat.le_of_ble_eq_true rfl, Nat.le_of_ble_eq_true rfl⟩ ⟨Nat.zero_le _, Nat.zero_le _⟩ (Nat.le_of_ble_eq_true rfl) dX7_toldBy_15 (fun _ _ hf => kX7_isGuest hf) (fun r4 σ5 => ?_)
    refine k_if_eq (pc := 18) 28 dX7_toldBy_18 (by decide) ?_ ?_
    · refine k_iconst (pc := 28) (v := (k_ng 1)) dX7_toldBy_28 (by decide) ?_
      exact k_ireturn (pc := 29) rfl dX7_toldBy_29
    · refine k_iload_n (pc := 21) dX7_toldBy_21 rfl ?_
      refine k_si1 (pc := 22) (cM_same _ _) ckX7_isSheet kwm_X7_83 ⟨rfl, rfl⟩ ⟨Nat.le_of_ble_eq_true rfl, Nat.le_of_ble_eq_true rfl⟩ ⟨Nat.zero_le _, Nat.zero_le _⟩ (Nat.le_of_ble_eq_true rfl) dX7_toldBy_22 (fun _ _ hf => kX7_isSheet hf) (fun r6 σ7 => ?_)
      refine k_if_ne (pc := 25) 30 dX7_toldBy_25 (by decide) ?_ ?_
      · refine k_iload (pc := 30) dX7_toldBy_30 rfl ?_
        refine k_si1 (pc := 32) (cM_same _ _) ckX7_isSort kwm_X7_87 ⟨rfl, rfl⟩ ⟨Nat.le_of_ble_eq_true rfl, Nat.le_of_ble_eq_true rfl⟩ ⟨Nat.zero_le _, Nat.zero_le _⟩ (Nat.le_of_ble_eq_true rfl) dX7_toldBy_32 (fun _ _ hf => kX7_isSort hf) (fun r8 σ9 => ?_)
        refine k_if_ne (pc := 35) 41 dX7_toldBy_35 (by decide) ?_ ?_
        · refine k_aload_n (pc := 41) dX7_toldBy_41 rfl ?_
          refine k_iload_n (pc := 42) dX7_toldBy_42 rfl ?_
          refine k_iload (pc := 43) dX7_toldBy_43 rfl ?_
          refine k_iload (pc := 45) dX7_toldBy_45 rfl ?_
          refine k_aload_n (pc := 47) dX7_toldBy_47 rfl ?_
          refine k_gMX7_guests (pc := 48) kwf_X7_77 rfl dX7_toldBy_48 ?_
          refine k_vi4 (pc := 51) (cM_same _ _) ckX7_against kwm_X7_90 cM_rv0 ⟨rfl, rfl⟩ ⟨Nat.le_of_ble_eq_true rfl, Nat.le_of_ble_eq_true rfl⟩ ⟨Nat.zero_le _, Nat.zero_le _⟩ (Nat.le_of_ble_eq_true rfl) dX7_toldBy_51 (fun _ _ hf => kX7_against hf) (fun r10 σ11 => ?_)
          refine k_ist6 (pc := 54) dX7_toldBy_54 (Nat.le_of_ble_eq_true rfl) (fun v12 => ?_)
          refine k_iload (pc := 56) dX7_toldBy_56 rfl ?_
          refine k_if_eq (pc := 58) 68 dX7_toldBy_58 (by decide) ?_ ?_
          · refine k_bipush (pc := 68) (v := (nI 60)) dX7_toldBy_68 (by decide) ?_
            refine k_iload_n (pc := 70) dX7_toldBy_70 rfl ?_
            refine k_imul (pc := 71) dX7_toldBy_71 ?_
            refine k_iload (pc := 72) dX7_toldBy_72 rfl ?_
            refine k_iadd (pc := 74) dX7_toldBy_74 ?_
            refine k_ist7 (pc := 75) dX7_toldBy_75 (Nat.le_of_ble_eq_true rfl) (fun v13 => ?_)
            refine k_aload_n (pc := 77) dX7_toldBy_77 rfl ?_
            refine k_iload (pc := 78) dX7_toldBy_78 rfl ?_
            refine k_vi1 (pc := 80) (cM_same _ _) ckX7_areAllGuests kwm_X7_217 cM_rv0 ⟨rfl, rfl⟩ ⟨Nat.le_of_ble_eq_true rfl, Nat.le_of_ble_eq_true rfl⟩ ⟨Nat.zero_le _, Nat.zero_le _⟩ (Nat.le_of_ble_eq_true rfl) dX7_toldBy_80 (fun _ _ hf => kX7_areAllGuests hf) (fun r14 σ15 => ?_)
            refine k_if_ne (pc := 83) 89 dX7_toldBy_83 (by decide) ?_ ?_
            · refine k_aload_n (pc := 89) dX7_toldBy_89 rfl ?_
              refine k_iload_n (pc := 90) dX7_toldBy_90 rfl ?_
              refine k_vv1 (pc := 91) (cM_same _ _) ckX7_layNight kwm_X7_161 cM_rv0 ⟨rfl, rfl⟩ ⟨Nat.le_of_ble_eq_true rfl, Nat.le_of_ble_eq_true rfl⟩ ⟨Nat.zero_le _, Nat.zero_le _⟩ (Nat.le_of_ble_eq_true rfl) dX7_toldBy_91 (fun _ _ hf => kX7_layNight hf) (fun r16 σ17 => ?_)
              refine k_iconst (pc := 94) (v := (nI 0)) dX7_toldBy_94 (by decide) ?_
              refine k_ist8 (pc := 95) dX7_toldBy_95 (Nat.le_of_ble_eq_true rfl) (fun v18 => ?_)
              refine k_iconst (pc := 97) (v := (nI 0)) dX7_toldBy_97 (by decide) ?_
              refine k_ist9 (pc := 98) dX7_toldBy_98 (Nat.le_of_ble_eq_true rfl) (fun v19 => ?_)
              refine k_fg3 ?_
              refine k_fg4 ?_
              refine k_fg5 ?_
              refine k_fg6 ?_
              exact kX7_toldBy_c100 k_F σ17 x1 x2 v13 v18 v19
            · refine k_bipush (pc := 86) (v := (k_ng 2)) dX7_toldBy_86 (by decide) ?_
              exact k_ireturn (pc := 88) rfl dX7_toldBy_88
          · refine k_aload_n (pc := 61) dX7_toldBy_61 rfl ?_
            refine k_iload (pc := 62) dX7_toldBy_62 rfl ?_
            refine k_vi1 (pc := 64) (cM_same _ _) ckX7_fails kwm_X7_94 cM_rv0 ⟨rfl, rfl⟩ ⟨Nat.le_of_ble_eq_true rfl, Nat.le_of_ble_eq_true rfl⟩ ⟨Nat.zero_le _, Nat.zero_le _⟩ (Nat.le_of_ble_eq_true rfl) dX7_toldBy_64 (fun _ _ hf => kX7_fails hf) (fun r20 σ21 => ?_)
            exact k_ireturn (pc := 67) rfl dX7_toldBy_67
        · refine k_bipush (pc := 38) (v := (k_ng 2)) dX7_toldBy_38 (by decide) ?_
          exact k_ireturn (pc := 40) rfl dX7_toldBy_40
      · refine k_iconst (pc := 28) (v := (k_ng 1)) dX7_toldBy_28 (by decide) ?_
        exact k_ireturn (pc := 29) rfl dX7_toldBy_29
-- TallTalesModel.sheet(III)I
theorem ckX7_sheet : k_Vok yX7_sheet cX7_sheet 5 (some .int) 3 := ⟨kwk_X7_sheet, kwi_X7_sheet, kwv_X7_sheet, kwn_X7, by decide, by decide +kernel⟩
abbrev rmX7_sheet : Room := { frames := 2, cells := 0, slots := 0, locals := 42 }
abbrev YX7_sheet : k_Y := (rmX7_sheet, cX7_sheet, 5, RX7, (some .int))
noncomputable def fX7_sheet_c57 : Nat → k_S → Int32 → Int32 → Option (Int32 × k_S)
  | 0, _, _, _ => none
  | n + 1, σ, l1, l4 => (if l4 < (nI 60) then k_gd ((((nI 60) * l1) + l4)) 240 (k_bn (k_sa σ 2 ((((nI 60) * l1) + l4)) ((nI 0))) fun σ1 => k_bn (l4 + (nI 1)) fun v2 => fX7_sheet_c57 n σ1 l1 v2) else some ((nI 1), σ))
theorem fX7_sheet_c57_s (n : Nat) (σ : k_S) (l1 l4 : Int32) : fX7_sheet_c57 (n + 1) σ l1 l4 = (if l4 < (nI 60) then k_gd ((((nI 60) * l1) + l4)) 240 (k_bn (k_sa σ 2 ((((nI 60) * l1) + l4)) ((nI 0))) fun σ1 => k_bn (l4 + (nI 1)) fun v2 => fX7_sheet_c57 n σ1 l1 v2) else some ((nI 1), σ)) := rfl
set_option maxRecDepth 100000 in
set_option maxHeartbeats 4000000 in
theorem kX7_sheet_c57 {X : k_C} {q : Nat → Nat} : ∀ (n : Nat) (σ : k_S) (l1 l4 : Int32), KO X YX7_sheet (cM (k_I X) q) 0 0 (k_Q k_ei X (cM (k_I X) q)) 57 [some (.ref (q 0)), some (.int l1), none, none, some (.int l4)] [] σ (fX7_sheet_c57 n σ l1 l4) := by
  intro n
  induction n with
  | zero => intros; exact KO.nil
  | succ n ih =>
    intro σ l1 l4
    rw [fX7_sheet_c57_s]
    refine k_iload (pc := 57) dX7_sheet_57 rfl ?_
    refine k_bipush (pc := 59) (v := (nI 60)) dX7_sheet_59 (by decide) ?_
    refine k_icmp_ge (pc := 61) 83 dX7_sheet_61 (by decide) ?_ ?_
    · refine k_iconst (pc := 83) (v := (nI 1)) dX7_sheet_83 (by decide) ?_
      exact k_ireturn (pc := 84) rfl dX7_sheet_84
    · refine k_aload_n (pc := 64) dX7_sheet_64 rfl ?_
      refine k_gMX7_cells (pc := 65) kwf_X7_16 rfl dX7_sheet_65 ?_
      refine k_bipush (pc := 68) (v := (nI 60)) dX7_sheet_68 (by decide) ?_
      refine k_iload_n (pc := 70) dX7_sheet_70 rfl ?_
      refine k_imul (pc := 71) dX7_sheet_71 ?_
      refine k_iload (pc := 72) dX7_sheet_72 rfl ?_
      refine k_iadd (pc := 74) dX7_sheet_74 ?_
      refine k_iconst (pc := 75) (v := (nI 0)) dX7_sheet_75 (by decide) ?_
      refine k_sM3 (pc := 76) dX7_sheet_76 (fun σ1 => ?_)
      refine k_iinc4 (pc := 77) (w := (nI 1)) dX7_sheet_77 rfl (by decide) (Nat.le_of_ble_eq_true rfl) (fun v2 => ?_)
      refine k_goto (pc := 80) 57 dX7_sheet_80 (by decide) ?_
      exact ih σ1 l1 v2
noncomputable def fX7_sheet (σ : k_S) (x1 x2 x3 : Int32) : Option (Int32 × k_S) := k_bn (k_sf σ 0 ((nI 0))) fun σ1 => k_ob (fX7_isSheet σ1 x1) fun r2 σ3 => (if r2 = 0 then some ((k_ng 1), σ3) else k_ob (fX7_isSort σ3 x2) fun r4 σ5 => (if r4 = 0 then some ((k_ng 2), σ5) else (if (nI 60) < x3 then some ((k_ng 2), σ5) else (if x3 < 0 then k_ob (fX7_fails σ5 ((nI 4))) fun r9 σ10 => some (r9, σ10) else k_gd (x1) 4 (k_bn (k_sa σ5 0 (x1) (x2)) fun σ6 => k_gd (x1) 4 (k_bn (k_sa σ6 1 (x1) (x3)) fun σ7 => k_bn ((nI 0)) fun v8 => fX7_sheet_c57 k_F σ7 x1 v8))))))
set_option maxRecDepth 100000 in
set_option maxHeartbeats 4000000 in
theorem kX7_sheet {D : va_G} {cI : ClassId} {q : Nat → Nat} {σ : k_S} {x1 x2 x3 : Int32} {r : Int32} {τ : k_S} (h : fX7_sheet σ x1 x2 x3 = some (r, τ)) : k_Ct k_ei yX7_sheet cX7_sheet 5 (some .int) rmX7_sheet (cM cI q) D cI [.ref (q 0), .int x1, .int x2, .int x3] σ r τ := by
  refine k_met (Y := YX7_sheet) (cM_same _ _) (by decide) rfl (Nat.le_of_ble_eq_true rfl) (List.forall_mem_cons.mpr ⟨rfl, List.forall_mem_cons.mpr ⟨rfl, List.forall_mem_cons.mpr ⟨rfl, List.forall_mem_cons.mpr ⟨rfl, fun _ h => absurd h List.not_mem_nil⟩⟩⟩⟩) (fun X hD hI => ?_) h
  subst hD hI
  show KO X YX7_sheet (cM (k_I X) q) 0 0 (k_Q k_ei X (cM (k_I X) q)) 0 [some (.ref (q 0)), some (.int x1), some (.int x2), some (.int x3), none] [] σ _
  unfold fX7_sheet
  refine k_aload_n (pc := 0) dX7_sheet_0 rfl ?_
  refine k_iconst (pc := 1) (v := (nI 0)) dX7_sheet_1 (by decide) ?_
  refine k_pMX7_fault (pc := 2) kwf_X7_67 rfl dX7_sheet_2 (fun σ1 => ?_)
  refine k_iload_n (pc := 5) dX7_sheet_5 rfl ?_
  refine k_si1 (pc := 6) (cM_same _ _) ckX7_isSheet kwm_X7_83 ⟨rfl, rfl⟩ ⟨Nat.le_of_ble_eq_true rfl, Nat.le_of_ble_eq_true rfl⟩ ⟨Nat.zero_le _, Nat.zero_le _⟩ (Nat.le_of_ble_eq_true rfl) dX7_sheet_6 (fun _ _ hf => kX7_isSheet hf) (fun r2 σ3 => ?_)
  refine k_if_ne (pc := 9) 14 dX7_sheet_9 (by decide) ?_ ?_
  · refine k_iload_n (pc := 14) dX7_sheet_14 rfl ?_
    refine k_si1 (pc := 15) (cM_same _ _) ckX7_isSort kwm_X7_87 ⟨rfl, rfl⟩ ⟨Nat.le_of_ble_eq_true rfl, Nat.le_of_ble_eq_true rfl⟩ ⟨Nat.zero_le _, Nat.zero_le _⟩ (Nat.le_of_ble_eq_true rfl) dX7_sheet_15 (fun _ _ hf => kX7_isSort hf) (fun r4 σ5 => ?_)
    refine k_if_eq (pc := 18) 27 dX7_sheet_18 (by decide) ?_ ?_
    · refine k_bipush (pc := 27) (v := (k_ng 2)) dX7_sheet_27 (by decide) ?_
      exact k_ireturn (pc := 29) rfl dX7_sheet_29
    · refine k_iload_n (pc := 21) dX7_sheet_21 rfl ?_
      refine k_bipush (pc := 22) (v := (nI 60)) dX7_sheet_22 (by decide) ?_
      refine k_icmp_le (pc := 24) 30 dX7_sheet_24 (by decide) ?_ ?_
      · refine k_iload_n (pc := 30) dX7_sheet_30 rfl ?_
        refine k_if_ge (pc := 31) 40 dX7_sheet_31 (by decide) ?_ ?_
        · refine k_aload_n (pc := 40) dX7_sheet_40 rfl ?_
          refine k_gMX7_sorts (pc := 41) kwf_X7_9 rfl dX7_sheet_41 ?_
          refine k_iload_n (pc := 44) dX7_sheet_44 rfl ?_
          refine k_iload_n (pc := 45) dX7_sheet_45 rfl ?_
          refine k_sM1 (pc := 46) dX7_sheet_46 (fun σ6 => ?_)
          refine k_aload_n (pc := 47) dX7_sheet_47 rfl ?_
          refine k_gMX7_sheetLong (pc := 48) kwf_X7_13 rfl dX7_sheet_48 ?_
          refine k_iload_n (pc := 51) dX7_sheet_51 rfl ?_
          refine k_iload_n (pc := 52) dX7_sheet_52 rfl ?_
          refine k_sM2 (pc := 53) dX7_sheet_53 (fun σ7 => ?_)
          refine k_iconst (pc := 54) (v := (nI 0)) dX7_sheet_54 (by decide) ?_
          refine k_ist4 (pc := 55) dX7_sheet_55 (Nat.le_of_ble_eq_true rfl) (fun v8 => ?_)
          refine k_fg2 ?_
          refine k_fg3 ?_
          exact kX7_sheet_c57 k_F σ7 x1 v8
        · refine k_aload_n (pc := 34) dX7_sheet_34 rfl ?_
          refine k_iconst (pc := 35) (v := (nI 4)) dX7_sheet_35 (by decide) ?_
          refine k_vi1 (pc := 36) (cM_same _ _) ckX7_fails kwm_X7_94 cM_rv0 ⟨rfl, rfl⟩ ⟨Nat.le_of_ble_eq_true rfl, Nat.le_of_ble_eq_true rfl⟩ ⟨Nat.zero_le _, Nat.zero_le _⟩ (Nat.le_of_ble_eq_true rfl) dX7_sheet_36 (fun _ _ hf => kX7_fails hf) (fun r9 σ10 => ?_)
          exact k_ireturn (pc := 39) rfl dX7_sheet_39
      · refine k_bipush (pc := 27) (v := (k_ng 2)) dX7_sheet_27 (by decide) ?_
        exact k_ireturn (pc := 29) rfl dX7_sheet_29
  · refine k_iconst (pc := 12) (v := (k_ng 1)) dX7_sheet_12 (by decide) ?_
    exact k_ireturn (pc := 13) rfl dX7_sheet_13
-- TallTalesModel.lose(I)I
theorem ckX7_lose : k_Vok yX7_lose cX7_lose 3 (some .int) 1 := ⟨kwk_X7_lose, kwi_X7_lose, kwv_X7_lose, kwn_X7, by decide, by decide +kernel⟩
abbrev rmX7_lose : Room := { frames := 2, cells := 0, slots := 0, locals := 42 }
abbrev YX7_lose : k_Y := (rmX7_lose, cX7_lose, 3, RX7, (some .int))
noncomputable def fX7_lose_c25 (σ : k_S) (l1 s0 : Int32) : Option (Int32 × k_S) := k_bn (s0) fun v1 => k_gd (l1) 4 (k_bn (k_sa σ 0 (l1) ((k_ng 9))) fun σ2 => some (v1, σ2))
set_option maxRecDepth 100000 in
set_option maxHeartbeats 4000000 in
theorem kX7_lose_c25 {X : k_C} {q : Nat → Nat} (σ : k_S) (l1 s0 : Int32) : KO X YX7_lose (cM (k_I X) q) 0 0 (k_Q k_ei X (cM (k_I X) q)) 25 [some (.ref (q 0)), some (.int l1), none] [.int s0] σ (fX7_lose_c25 σ l1 s0) := by
  unfold fX7_lose_c25
  refine k_ist2 (pc := 25) dX7_lose_25 (Nat.le_of_ble_eq_true rfl) (fun v1 => ?_)
  refine k_aload_n (pc := 26) dX7_lose_26 rfl ?_
  refine k_gMX7_sorts (pc := 27) kwf_X7_9 rfl dX7_lose_27 ?_
  refine k_iload_n (pc := 30) dX7_lose_30 rfl ?_
  refine k_bipush (pc := 31) (v := (k_ng 9)) dX7_lose_31 (by decide) ?_
  refine k_sM1 (pc := 33) dX7_lose_33 (fun σ2 => ?_)
  refine k_iload_n (pc := 34) dX7_lose_34 rfl ?_
  exact k_ireturn (pc := 35) rfl dX7_lose_35
noncomputable def fX7_lose (σ : k_S) (x1 : Int32) : Option (Int32 × k_S) := k_ob (fX7_isSheet σ x1) fun r1 σ2 => (if r1 = 0 then some ((k_ng 1), σ2) else k_gd (x1) 4 ((if σ2.2 0 (Int32.toNatClampNeg (x1)) = (k_ng 9) then fX7_lose_c25 σ2 x1 ((nI 0)) else fX7_lose_c25 σ2 x1 ((nI 1)))))
set_option maxRecDepth 100000 in
set_option maxHeartbeats 4000000 in
theorem kX7_lose {D : va_G} {cI : ClassId} {q : Nat → Nat} {σ : k_S} {x1 : Int32} {r : Int32} {τ : k_S} (h : fX7_lose σ x1 = some (r, τ)) : k_Ct k_ei yX7_lose cX7_lose 3 (some .int) rmX7_lose (cM cI q) D cI [.ref (q 0), .int x1] σ r τ := by
  refine k_met (Y := YX7_lose) (cM_same _ _) (by decide) rfl (Nat.le_of_ble_eq_true rfl) (List.forall_mem_cons.mpr ⟨rfl, List.forall_mem_cons.mpr ⟨rfl, fun _ h => absurd h List.not_mem_nil⟩⟩) (fun X hD hI => ?_) h
  subst hD hI
  show KO X YX7_lose (cM (k_I X) q) 0 0 (k_Q k_ei X (cM (k_I X) q)) 0 [some (.ref (q 0)), some (.int x1), none] [] σ _
  unfold fX7_lose
  refine k_iload_n (pc := 0) dX7_lose_0 rfl ?_
  refine k_si1 (pc := 1) (cM_same _ _) ckX7_isSheet kwm_X7_83 ⟨rfl, rfl⟩ ⟨Nat.le_of_ble_eq_true rfl, Nat.le_of_ble_eq_true rfl⟩ ⟨Nat.zero_le _, Nat.zero_le _⟩ (Nat.le_of_ble_eq_true rfl) dX7_lose_1 (fun _ _ hf => kX7_isSheet hf) (fun r1 σ2 => ?_)
  refine k_if_ne (pc := 4) 9 dX7_lose_4 (by decide) ?_ ?_
  · refine k_aload_n (pc := 9) dX7_lose_9 rfl ?_
    refine k_gMX7_sorts (pc := 10) kwf_X7_9 rfl dX7_lose_10 ?_
    refine k_iload_n (pc := 13) dX7_lose_13 rfl ?_
    refine k_lM1 (pc := 14) dX7_lose_14 ?_
    refine k_bipush (pc := 15) (v := (k_ng 9)) dX7_lose_15 (by decide) ?_
    refine k_icmp_ne (pc := 17) 24 dX7_lose_17 (by decide) ?_ ?_
    · refine k_iconst (pc := 24) (v := (nI 1)) dX7_lose_24 (by decide) ?_
      exact kX7_lose_c25 σ2 x1 ((nI 1))
    · refine k_iconst (pc := 20) (v := (nI 0)) dX7_lose_20 (by decide) ?_
      refine k_goto (pc := 21) 25 dX7_lose_21 (by decide) ?_
      exact kX7_lose_c25 σ2 x1 ((nI 0))
  · refine k_iconst (pc := 7) (v := (k_ng 1)) dX7_lose_7 (by decide) ?_
    exact k_ireturn (pc := 8) rfl dX7_lose_8
-- TallTalesModel.put(III)I
theorem ckX7_put : k_Vok yX7_put cX7_put 4 (some .int) 3 := ⟨kwk_X7_put, kwi_X7_put, kwv_X7_put, kwn_X7, by decide, by decide +kernel⟩
abbrev rmX7_put : Room := { frames := 2, cells := 0, slots := 0, locals := 42 }
abbrev YX7_put : k_Y := (rmX7_put, cX7_put, 4, RX7, (some .int))
noncomputable def fX7_put_c93 (σ : k_S) (s1 s2 : Int32) : Option (Int32 × k_S) := k_gd (s1) 240 (k_bn (k_sa σ 2 (s1) (s2)) fun σ1 => some ((nI 1), σ1))
set_option maxRecDepth 100000 in
set_option maxHeartbeats 4000000 in
theorem kX7_put_c93 {X : k_C} {q : Nat → Nat} (σ : k_S) (s1 s2 : Int32) : KO X YX7_put (cM (k_I X) q) 0 0 (k_Q k_ei X (cM (k_I X) q)) 93 [some (.ref (q 0)), none, none, none] [.int s2, .int s1, .ref (q 3)] σ (fX7_put_c93 σ s1 s2) := by
  unfold fX7_put_c93
  refine k_sM3 (pc := 93) dX7_put_93 (fun σ1 => ?_)
  refine k_iconst (pc := 94) (v := (nI 1)) dX7_put_94 (by decide) ?_
  exact k_ireturn (pc := 95) rfl dX7_put_95
noncomputable def fX7_put (σ : k_S) (x1 x2 x3 : Int32) : Option (Int32 × k_S) := k_bn (k_sf σ 0 ((nI 0))) fun σ1 => k_ob (fX7_isSheet σ1 x1) fun r2 σ3 => (if r2 = 0 then some ((k_ng 1), σ3) else k_gd (x1) 4 ((if σ3.2 0 (Int32.toNatClampNeg (x1)) = (k_ng 9) then k_ob (fX7_fails σ3 ((nI 1))) fun r8 σ9 => some (r8, σ9) else k_gd (x1) 4 (k_ob (fX7_within σ3 x2 ((nI 0)) ((σ3.2 1 (Int32.toNatClampNeg (x1)) - (nI 1)))) fun r4 σ5 => (if r4 = 0 then k_ob (fX7_fails σ5 ((nI 3))) fun r6 σ7 => some (r6, σ7) else k_gd (x1) 4 ((if σ5.2 0 (Int32.toNatClampNeg (x1)) = 0 then fX7_put_c93 σ5 ((((nI 60) * x1) + x2)) ((x3).toInt8.toInt32) else k_gd (x1) 4 ((if σ5.2 0 (Int32.toNatClampNeg (x1)) = (nI 1) then fX7_put_c93 σ5 ((((nI 60) * x1) + x2)) ((x3).toInt16.toInt32) else fX7_put_c93 σ5 ((((nI 60) * x1) + x2)) x3)))))))))
set_option maxRecDepth 100000 in
set_option maxHeartbeats 4000000 in
theorem kX7_put {D : va_G} {cI : ClassId} {q : Nat → Nat} {σ : k_S} {x1 x2 x3 : Int32} {r : Int32} {τ : k_S} (h : fX7_put σ x1 x2 x3 = some (r, τ)) : k_Ct k_ei yX7_put cX7_put 4 (some .int) rmX7_put (cM cI q) D cI [.ref (q 0), .int x1, .int x2, .int x3] σ r τ := by
  refine k_met (Y := YX7_put) (cM_same _ _) (by decide) rfl (Nat.le_of_ble_eq_true rfl) (List.forall_mem_cons.mpr ⟨rfl, List.forall_mem_cons.mpr ⟨rfl, List.forall_mem_cons.mpr ⟨rfl, List.forall_mem_cons.mpr ⟨rfl, fun _ h => absurd h List.not_mem_nil⟩⟩⟩⟩) (fun X hD hI => ?_) h
  subst hD hI
  show KO X YX7_put (cM (k_I X) q) 0 0 (k_Q k_ei X (cM (k_I X) q)) 0 [some (.ref (q 0)), some (.int x1), some (.int x2), some (.int x3)] [] σ _
  unfold fX7_put
  refine k_aload_n (pc := 0) dX7_put_0 rfl ?_
  refine k_iconst (pc := 1) (v := (nI 0)) dX7_put_1 (by decide) ?_
  refine k_pMX7_fault (pc := 2) kwf_X7_67 rfl dX7_put_2 (fun σ1 => ?_)
  refine k_iload_n (pc := 5) dX7_put_5 rfl ?_
  refine k_si1 (pc := 6) (cM_same _ _) ckX7_isSheet kwm_X7_83 ⟨rfl, rfl⟩ ⟨Nat.le_of_ble_eq_true rfl, Nat.le_of_ble_eq_true rfl⟩ ⟨Nat.zero_le _, Nat.zero_le _⟩ (Nat.le_of_ble_eq_true rfl) dX7_put_6 (fun _ _ hf => kX7_isSheet hf) (fun r2 σ3 => ?_)
  refine k_if_ne (pc := 9) 14 dX7_put_9 (by decide) ?_ ?_
  · refine k_aload_n (pc := 14) dX7_put_14 rfl ?_
    refine k_gMX7_sorts (pc := 15) kwf_X7_9 rfl dX7_put_15 ?_
    refine k_iload_n (pc := 18) dX7_put_18 rfl ?_
    refine k_lM1 (pc := 19) dX7_put_19 ?_
    refine k_bipush (pc := 20) (v := (k_ng 9)) dX7_put_20 (by decide) ?_
    refine k_icmp_ne (pc := 22) 31 dX7_put_22 (by decide) ?_ ?_
    · refine k_iload_n (pc := 31) dX7_put_31 rfl ?_
      refine k_iconst (pc := 32) (v := (nI 0)) dX7_put_32 (by decide) ?_
      refine k_aload_n (pc := 33) dX7_put_33 rfl ?_
      refine k_gMX7_sheetLong (pc := 34) kwf_X7_13 rfl dX7_put_34 ?_
      refine k_iload_n (pc := 37) dX7_put_37 rfl ?_
      refine k_lM2 (pc := 38) dX7_put_38 ?_
      refine k_iconst (pc := 39) (v := (nI 1)) dX7_put_39 (by decide) ?_
      refine k_isub (pc := 40) dX7_put_40 ?_
      refine k_si3 (pc := 41) (cM_same _ _) ckX7_within kwm_X7_73 ⟨rfl, rfl⟩ ⟨Nat.le_of_ble_eq_true rfl, Nat.le_of_ble_eq_true rfl⟩ ⟨Nat.zero_le _, Nat.zero_le _⟩ (Nat.le_of_ble_eq_true rfl) dX7_put_41 (fun _ _ hf => kX7_within hf) (fun r4 σ5 => ?_)
      refine k_if_ne (pc := 44) 53 dX7_put_44 (by decide) ?_ ?_
      · refine k_aload_n (pc := 53) dX7_put_53 rfl ?_
        refine k_gMX7_cells (pc := 54) kwf_X7_16 rfl dX7_put_54 ?_
        refine k_bipush (pc := 57) (v := (nI 60)) dX7_put_57 (by decide) ?_
        refine k_iload_n (pc := 59) dX7_put_59 rfl ?_
        refine k_imul (pc := 60) dX7_put_60 ?_
        refine k_iload_n (pc := 61) dX7_put_61 rfl ?_
        refine k_iadd (pc := 62) dX7_put_62 ?_
        refine k_aload_n (pc := 63) dX7_put_63 rfl ?_
        refine k_gMX7_sorts (pc := 64) kwf_X7_9 rfl dX7_put_64 ?_
        refine k_iload_n (pc := 67) dX7_put_67 rfl ?_
        refine k_lM1 (pc := 68) dX7_put_68 ?_
        refine k_if_ne (pc := 69) 77 dX7_put_69 (by decide) ?_ ?_
        · refine k_aload_n (pc := 77) dX7_put_77 rfl ?_
          refine k_gMX7_sorts (pc := 78) kwf_X7_9 rfl dX7_put_78 ?_
          refine k_iload_n (pc := 81) dX7_put_81 rfl ?_
          refine k_lM1 (pc := 82) dX7_put_82 ?_
          refine k_iconst (pc := 83) (v := (nI 1)) dX7_put_83 (by decide) ?_
          refine k_icmp_ne (pc := 84) 92 dX7_put_84 (by decide) ?_ ?_
          · refine k_iload_n (pc := 92) dX7_put_92 rfl ?_
            refine k_fg1 ?_
            refine k_fg2 ?_
            refine k_fg3 ?_
            exact kX7_put_c93 σ5 ((((nI 60) * x1) + x2)) x3
          · refine k_iload_n (pc := 87) dX7_put_87 rfl ?_
            refine k_i2s (pc := 88) dX7_put_88 ?_
            refine k_goto (pc := 89) 93 dX7_put_89 (by decide) ?_
            refine k_fg1 ?_
            refine k_fg2 ?_
            refine k_fg3 ?_
            exact kX7_put_c93 σ5 ((((nI 60) * x1) + x2)) ((x3).toInt16.toInt32)
        · refine k_iload_n (pc := 72) dX7_put_72 rfl ?_
          refine k_i2b (pc := 73) dX7_put_73 ?_
          refine k_goto (pc := 74) 93 dX7_put_74 (by decide) ?_
          refine k_fg1 ?_
          refine k_fg2 ?_
          refine k_fg3 ?_
          exact kX7_put_c93 σ5 ((((nI 60) * x1) + x2)) ((x3).toInt8.toInt32)
      · refine k_aload_n (pc := 47) dX7_put_47 rfl ?_
        refine k_iconst (pc := 48) (v := (nI 3)) dX7_put_48 (by decide) ?_
        refine k_vi1 (pc := 49) (cM_same _ _) ckX7_fails kwm_X7_94 cM_rv0 ⟨rfl, rfl⟩ ⟨Nat.le_of_ble_eq_true rfl, Nat.le_of_ble_eq_true rfl⟩ ⟨Nat.zero_le _, Nat.zero_le _⟩ (Nat.le_of_ble_eq_true rfl) dX7_put_49 (fun _ _ hf => kX7_fails hf) (fun r6 σ7 => ?_)
        exact k_ireturn (pc := 52) rfl dX7_put_52
    · refine k_aload_n (pc := 25) dX7_put_25 rfl ?_
      refine k_iconst (pc := 26) (v := (nI 1)) dX7_put_26 (by decide) ?_
      refine k_vi1 (pc := 27) (cM_same _ _) ckX7_fails kwm_X7_94 cM_rv0 ⟨rfl, rfl⟩ ⟨Nat.le_of_ble_eq_true rfl, Nat.le_of_ble_eq_true rfl⟩ ⟨Nat.zero_le _, Nat.zero_le _⟩ (Nat.le_of_ble_eq_true rfl) dX7_put_27 (fun _ _ hf => kX7_fails hf) (fun r8 σ9 => ?_)
      exact k_ireturn (pc := 30) rfl dX7_put_30
  · refine k_iconst (pc := 12) (v := (k_ng 1)) dX7_put_12 (by decide) ?_
    exact k_ireturn (pc := 13) rfl dX7_put_13
-- TallTalesModel.lost(I)J
theorem ckX7_lost : k_Vok yX7_lost cX7_lost 2 (some .long) 1 := ⟨kwk_X7_lost, kwi_X7_lost, kwv_X7_lost, kwn_X7, by decide, by decide +kernel⟩
abbrev rmX7_lost : Room := { frames := 0, cells := 0, slots := 0, locals := 0 }
abbrev YX7_lost : k_Y := (rmX7_lost, cX7_lost, 2, RX7, (some .long))
noncomputable def fX7_lost (σ : k_S) (x1 : Int32) : Option (Int64 × k_S) := k_bn (k_sf σ 0 (x1)) fun σ1 => some ((-9223372036854775808 : Int64), σ1)
set_option maxRecDepth 100000 in
set_option maxHeartbeats 4000000 in
theorem kX7_lost {D : va_G} {cI : ClassId} {q : Nat → Nat} {σ : k_S} {x1 : Int32} {r : Int64} {τ : k_S} (h : fX7_lost σ x1 = some (r, τ)) : k_Ct k_el yX7_lost cX7_lost 2 (some .long) rmX7_lost (cM cI q) D cI [.ref (q 0), .int x1] σ r τ := by
  refine k_met (Y := YX7_lost) (cM_same _ _) (by decide) rfl (Nat.le_of_ble_eq_true rfl) (List.forall_mem_cons.mpr ⟨rfl, List.forall_mem_cons.mpr ⟨rfl, fun _ h => absurd h List.not_mem_nil⟩⟩) (fun X hD hI => ?_) h
  subst hD hI
  show KO X YX7_lost (cM (k_I X) q) 0 0 (k_Q k_el X (cM (k_I X) q)) 0 [some (.ref (q 0)), some (.int x1)] [] σ _
  unfold fX7_lost
  refine k_aload_n (pc := 0) dX7_lost_0 rfl ?_
  refine k_iload_n (pc := 1) dX7_lost_1 rfl ?_
  refine k_pMX7_fault (pc := 2) kwf_X7_67 rfl dX7_lost_2 (fun σ1 => ?_)
  refine k_ldc2 (pc := 5) kwl_X7_71 dX7_lost_5 ?_
  exact k_lreturn (pc := 8) rfl dX7_lost_8
-- TallTalesModel.cell(III)J
theorem ckX7_cell : k_Vok yX7_cell cX7_cell 4 (some .long) 3 := ⟨kwk_X7_cell, kwi_X7_cell, kwv_X7_cell, kwn_X7, by decide, by decide +kernel⟩
abbrev rmX7_cell : Room := { frames := 2, cells := 0, slots := 0, locals := 42 }
abbrev YX7_cell : k_Y := (rmX7_cell, cX7_cell, 4, RX7, (some .long))
noncomputable def fX7_cell_c50 (σ : k_S) (l1 l2 : Int32) : Option (Int64 × k_S) := k_gd (l1) 4 ((if σ.2 0 (Int32.toNatClampNeg (l1)) = (k_ng 9) then k_ob (fX7_lost σ ((nI 1))) fun r5 σ6 => some (r5, σ6) else k_gd (l1) 4 (k_ob (fX7_within σ l2 ((nI 0)) ((σ.2 1 (Int32.toNatClampNeg (l1)) - (nI 1)))) fun r1 σ2 => (if r1 = 0 then k_ob (fX7_lost σ2 ((nI 3))) fun r3 σ4 => some (r3, σ4) else k_gd ((((nI 60) * l1) + l2)) 240 (some ((σ2.2 2 (Int32.toNatClampNeg ((((nI 60) * l1) + l2)))).toInt64, σ2))))))
set_option maxRecDepth 100000 in
set_option maxHeartbeats 4000000 in
theorem kX7_cell_c50 {X : k_C} {q : Nat → Nat} (σ : k_S) (l1 l2 : Int32) : KO X YX7_cell (cM (k_I X) q) 0 0 (k_Q k_el X (cM (k_I X) q)) 50 [some (.ref (q 0)), some (.int l1), some (.int l2), none] [] σ (fX7_cell_c50 σ l1 l2) := by
  unfold fX7_cell_c50
  refine k_aload_n (pc := 50) dX7_cell_50 rfl ?_
  refine k_gMX7_sorts (pc := 51) kwf_X7_9 rfl dX7_cell_51 ?_
  refine k_iload_n (pc := 54) dX7_cell_54 rfl ?_
  refine k_lM1 (pc := 55) dX7_cell_55 ?_
  refine k_bipush (pc := 56) (v := (k_ng 9)) dX7_cell_56 (by decide) ?_
  refine k_icmp_ne (pc := 58) 67 dX7_cell_58 (by decide) ?_ ?_
  · refine k_iload_n (pc := 67) dX7_cell_67 rfl ?_
    refine k_iconst (pc := 68) (v := (nI 0)) dX7_cell_68 (by decide) ?_
    refine k_aload_n (pc := 69) dX7_cell_69 rfl ?_
    refine k_gMX7_sheetLong (pc := 70) kwf_X7_13 rfl dX7_cell_70 ?_
    refine k_iload_n (pc := 73) dX7_cell_73 rfl ?_
    refine k_lM2 (pc := 74) dX7_cell_74 ?_
    refine k_iconst (pc := 75) (v := (nI 1)) dX7_cell_75 (by decide) ?_
    refine k_isub (pc := 76) dX7_cell_76 ?_
    refine k_si3 (pc := 77) (cM_same _ _) ckX7_within kwm_X7_73 ⟨rfl, rfl⟩ ⟨Nat.le_of_ble_eq_true rfl, Nat.le_of_ble_eq_true rfl⟩ ⟨Nat.zero_le _, Nat.zero_le _⟩ (Nat.le_of_ble_eq_true rfl) dX7_cell_77 (fun _ _ hf => kX7_within hf) (fun r1 σ2 => ?_)
    refine k_if_ne (pc := 80) 89 dX7_cell_80 (by decide) ?_ ?_
    · refine k_aload_n (pc := 89) dX7_cell_89 rfl ?_
      refine k_gMX7_cells (pc := 90) kwf_X7_16 rfl dX7_cell_90 ?_
      refine k_bipush (pc := 93) (v := (nI 60)) dX7_cell_93 (by decide) ?_
      refine k_iload_n (pc := 95) dX7_cell_95 rfl ?_
      refine k_imul (pc := 96) dX7_cell_96 ?_
      refine k_iload_n (pc := 97) dX7_cell_97 rfl ?_
      refine k_iadd (pc := 98) dX7_cell_98 ?_
      refine k_lM3 (pc := 99) dX7_cell_99 ?_
      refine k_i2l (pc := 100) dX7_cell_100 ?_
      exact k_lreturn (pc := 101) rfl dX7_cell_101
    · refine k_aload_n (pc := 83) dX7_cell_83 rfl ?_
      refine k_iconst (pc := 84) (v := (nI 3)) dX7_cell_84 (by decide) ?_
      refine k_vl1 (pc := 85) (cM_same _ _) ckX7_lost kwm_X7_226 cM_rv0 ⟨rfl, rfl⟩ ⟨Nat.le_of_ble_eq_true rfl, Nat.le_of_ble_eq_true rfl⟩ ⟨Nat.zero_le _, Nat.zero_le _⟩ (Nat.le_of_ble_eq_true rfl) dX7_cell_85 (fun _ _ hf => kX7_lost hf) (fun r3 σ4 => ?_)
      exact k_lreturn (pc := 88) rfl dX7_cell_88
  · refine k_aload_n (pc := 61) dX7_cell_61 rfl ?_
    refine k_iconst (pc := 62) (v := (nI 1)) dX7_cell_62 (by decide) ?_
    refine k_vl1 (pc := 63) (cM_same _ _) ckX7_lost kwm_X7_226 cM_rv0 ⟨rfl, rfl⟩ ⟨Nat.le_of_ble_eq_true rfl, Nat.le_of_ble_eq_true rfl⟩ ⟨Nat.zero_le _, Nat.zero_le _⟩ (Nat.le_of_ble_eq_true rfl) dX7_cell_63 (fun _ _ hf => kX7_lost hf) (fun r5 σ6 => ?_)
    exact k_lreturn (pc := 66) rfl dX7_cell_66
noncomputable def fX7_cell (σ : k_S) (x1 x2 x3 : Int32) : Option (Int64 × k_S) := k_bn (k_sf σ 0 ((nI 0))) fun σ1 => k_ob (fX7_isSheet σ1 x1) fun r2 σ3 => (if r2 = 0 then some ((-9223372036854775808 : Int64), σ3) else k_ob (fX7_isSort σ3 x3) fun r4 σ5 => (if r4 = 0 then some ((-9223372036854775808 : Int64), σ5) else k_gd (x1) 4 ((if σ5.2 0 (Int32.toNatClampNeg (x1)) = (k_ng 9) then fX7_cell_c50 σ5 x1 x2 else k_gd (x1) 4 ((if σ5.2 0 (Int32.toNatClampNeg (x1)) = x3 then fX7_cell_c50 σ5 x1 x2 else k_ob (fX7_lost σ5 ((nI 2))) fun r6 σ7 => some (r6, σ7)))))))
set_option maxRecDepth 100000 in
set_option maxHeartbeats 4000000 in
theorem kX7_cell {D : va_G} {cI : ClassId} {q : Nat → Nat} {σ : k_S} {x1 x2 x3 : Int32} {r : Int64} {τ : k_S} (h : fX7_cell σ x1 x2 x3 = some (r, τ)) : k_Ct k_el yX7_cell cX7_cell 4 (some .long) rmX7_cell (cM cI q) D cI [.ref (q 0), .int x1, .int x2, .int x3] σ r τ := by
  refine k_met (Y := YX7_cell) (cM_same _ _) (by decide) rfl (Nat.le_of_ble_eq_true rfl) (List.forall_mem_cons.mpr ⟨rfl, List.forall_mem_cons.mpr ⟨rfl, List.forall_mem_cons.mpr ⟨rfl, List.forall_mem_cons.mpr ⟨rfl, fun _ h => absurd h List.not_mem_nil⟩⟩⟩⟩) (fun X hD hI => ?_) h
  subst hD hI
  show KO X YX7_cell (cM (k_I X) q) 0 0 (k_Q k_el X (cM (k_I X) q)) 0 [some (.ref (q 0)), some (.int x1), some (.int x2), some (.int x3)] [] σ _
  unfold fX7_cell
  refine k_aload_n (pc := 0) dX7_cell_0 rfl ?_
  refine k_iconst (pc := 1) (v := (nI 0)) dX7_cell_1 (by decide) ?_
  refine k_pMX7_fault (pc := 2) kwf_X7_67 rfl dX7_cell_2 (fun σ1 => ?_)
  refine k_iload_n (pc := 5) dX7_cell_5 rfl ?_
  refine k_si1 (pc := 6) (cM_same _ _) ckX7_isSheet kwm_X7_83 ⟨rfl, rfl⟩ ⟨Nat.le_of_ble_eq_true rfl, Nat.le_of_ble_eq_true rfl⟩ ⟨Nat.zero_le _, Nat.zero_le _⟩ (Nat.le_of_ble_eq_true rfl) dX7_cell_6 (fun _ _ hf => kX7_isSheet hf) (fun r2 σ3 => ?_)
  refine k_if_eq (pc := 9) 19 dX7_cell_9 (by decide) ?_ ?_
  · refine k_ldc2 (pc := 19) kwl_X7_71 dX7_cell_19 ?_
    exact k_lreturn (pc := 22) rfl dX7_cell_22
  · refine k_iload_n (pc := 12) dX7_cell_12 rfl ?_
    refine k_si1 (pc := 13) (cM_same _ _) ckX7_isSort kwm_X7_87 ⟨rfl, rfl⟩ ⟨Nat.le_of_ble_eq_true rfl, Nat.le_of_ble_eq_true rfl⟩ ⟨Nat.zero_le _, Nat.zero_le _⟩ (Nat.le_of_ble_eq_true rfl) dX7_cell_13 (fun _ _ hf => kX7_isSort hf) (fun r4 σ5 => ?_)
    refine k_if_ne (pc := 16) 23 dX7_cell_16 (by decide) ?_ ?_
    · refine k_aload_n (pc := 23) dX7_cell_23 rfl ?_
      refine k_gMX7_sorts (pc := 24) kwf_X7_9 rfl dX7_cell_24 ?_
      refine k_iload_n (pc := 27) dX7_cell_27 rfl ?_
      refine k_lM1 (pc := 28) dX7_cell_28 ?_
      refine k_bipush (pc := 29) (v := (k_ng 9)) dX7_cell_29 (by decide) ?_
      refine k_icmp_eq (pc := 31) 50 dX7_cell_31 (by decide) ?_ ?_
      · refine k_fg3 ?_
        exact kX7_cell_c50 σ5 x1 x2
      · refine k_aload_n (pc := 34) dX7_cell_34 rfl ?_
        refine k_gMX7_sorts (pc := 35) kwf_X7_9 rfl dX7_cell_35 ?_
        refine k_iload_n (pc := 38) dX7_cell_38 rfl ?_
        refine k_lM1 (pc := 39) dX7_cell_39 ?_
        refine k_iload_n (pc := 40) dX7_cell_40 rfl ?_
        refine k_icmp_eq (pc := 41) 50 dX7_cell_41 (by decide) ?_ ?_
        · refine k_fg3 ?_
          exact kX7_cell_c50 σ5 x1 x2
        · refine k_aload_n (pc := 44) dX7_cell_44 rfl ?_
          refine k_iconst (pc := 45) (v := (nI 2)) dX7_cell_45 (by decide) ?_
          refine k_vl1 (pc := 46) (cM_same _ _) ckX7_lost kwm_X7_226 cM_rv0 ⟨rfl, rfl⟩ ⟨Nat.le_of_ble_eq_true rfl, Nat.le_of_ble_eq_true rfl⟩ ⟨Nat.zero_le _, Nat.zero_le _⟩ (Nat.le_of_ble_eq_true rfl) dX7_cell_46 (fun _ _ hf => kX7_lost hf) (fun r6 σ7 => ?_)
          exact k_lreturn (pc := 49) rfl dX7_cell_49
    · refine k_ldc2 (pc := 19) kwl_X7_71 dX7_cell_19 ?_
      exact k_lreturn (pc := 22) rfl dX7_cell_22
-- TallTalesModel.copy(IIIII)I
theorem ckX7_copy : k_Vok yX7_copy cX7_copy 10 (some .int) 5 := ⟨kwk_X7_copy, kwi_X7_copy, kwv_X7_copy, kwn_X7, by decide, by decide +kernel⟩
abbrev rmX7_copy : Room := { frames := 2, cells := 0, slots := 0, locals := 42 }
abbrev YX7_copy : k_Y := (rmX7_copy, cX7_copy, 10, RX7, (some .int))
noncomputable def fX7_copy_c43 (σ : k_S) : Option (Int32 × k_S) := k_ob (fX7_fails σ ((nI 1))) fun r1 σ2 => some (r1, σ2)
set_option maxRecDepth 100000 in
set_option maxHeartbeats 4000000 in
theorem kX7_copy_c43 {X : k_C} {q : Nat → Nat} (σ : k_S) : KO X YX7_copy (cM (k_I X) q) 0 0 (k_Q k_ei X (cM (k_I X) q)) 43 [some (.ref (q 0)), none, none, none, none, none, none, none, none, none] [] σ (fX7_copy_c43 σ) := by
  unfold fX7_copy_c43
  refine k_aload_n (pc := 43) dX7_copy_43 rfl ?_
  refine k_iconst (pc := 44) (v := (nI 1)) dX7_copy_44 (by decide) ?_
  refine k_vi1 (pc := 45) (cM_same _ _) ckX7_fails kwm_X7_94 cM_rv0 ⟨rfl, rfl⟩ ⟨Nat.le_of_ble_eq_true rfl, Nat.le_of_ble_eq_true rfl⟩ ⟨Nat.zero_le _, Nat.zero_le _⟩ (Nat.le_of_ble_eq_true rfl) dX7_copy_45 (fun _ _ hf => kX7_fails hf) (fun r1 σ2 => ?_)
  exact k_ireturn (pc := 48) rfl dX7_copy_48
noncomputable def fX7_copy_c144 (σ : k_S) : Option (Int32 × k_S) := k_ob (fX7_fails σ ((nI 3))) fun r1 σ2 => some (r1, σ2)
set_option maxRecDepth 100000 in
set_option maxHeartbeats 4000000 in
theorem kX7_copy_c144 {X : k_C} {q : Nat → Nat} (σ : k_S) : KO X YX7_copy (cM (k_I X) q) 0 0 (k_Q k_ei X (cM (k_I X) q)) 144 [some (.ref (q 0)), none, none, none, none, none, none, none, none, none] [] σ (fX7_copy_c144 σ) := by
  unfold fX7_copy_c144
  refine k_aload_n (pc := 144) dX7_copy_144 rfl ?_
  refine k_iconst (pc := 145) (v := (nI 3)) dX7_copy_145 (by decide) ?_
  refine k_vi1 (pc := 146) (cM_same _ _) ckX7_fails kwm_X7_94 cM_rv0 ⟨rfl, rfl⟩ ⟨Nat.le_of_ble_eq_true rfl, Nat.le_of_ble_eq_true rfl⟩ ⟨Nat.zero_le _, Nat.zero_le _⟩ (Nat.le_of_ble_eq_true rfl) dX7_copy_146 (fun _ _ hf => kX7_fails hf) (fun r1 σ2 => ?_)
  exact k_ireturn (pc := 149) rfl dX7_copy_149
noncomputable def fX7_copy_c190 (kh166 : k_S → Int32 → Int32 → Int32 → Int32 → Int32 → Int32 → Int32 → Option (Int32 × k_S)) (σ : k_S) (l1 l2 l3 l4 l5 l7 l8 s0 : Int32) : Option (Int32 × k_S) := k_bn (s0) fun v1 => k_gd (((((nI 60) * l1) + l2) + v1)) 240 (k_gd (((((nI 60) * l3) + l4) + v1)) 240 (k_bn (k_sa σ 2 (((((nI 60) * l3) + l4) + v1)) (σ.2 2 (Int32.toNatClampNeg (((((nI 60) * l1) + l2) + v1))))) fun σ2 => k_bn (l8 + (nI 1)) fun v3 => kh166 σ2 l1 l2 l3 l4 l5 l7 v3))
set_option maxRecDepth 100000 in
set_option maxHeartbeats 4000000 in
theorem kX7_copy_c190 {X : k_C} {q : Nat → Nat} (kh166 : k_S → Int32 → Int32 → Int32 → Int32 → Int32 → Int32 → Int32 → Option (Int32 × k_S)) (hk166 : ∀ (σ : k_S) (l1 l2 l3 l4 l5 l7 l8 : Int32), KO X YX7_copy (cM (k_I X) q) 0 0 (k_Q k_ei X (cM (k_I X) q)) 166 [some (.ref (q 0)), some (.int l1), some (.int l2), some (.int l3), some (.int l4), some (.int l5), none, some (.int l7), some (.int l8), none] [] σ (kh166 σ l1 l2 l3 l4 l5 l7 l8)) (σ : k_S) (l1 l2 l3 l4 l5 l7 l8 s0 : Int32) : KO X YX7_copy (cM (k_I X) q) 0 0 (k_Q k_ei X (cM (k_I X) q)) 190 [some (.ref (q 0)), some (.int l1), some (.int l2), some (.int l3), some (.int l4), some (.int l5), none, some (.int l7), some (.int l8), none] [.int s0] σ (fX7_copy_c190 kh166 σ l1 l2 l3 l4 l5 l7 l8 s0) := by
  unfold fX7_copy_c190
  refine k_ist9 (pc := 190) dX7_copy_190 (Nat.le_of_ble_eq_true rfl) (fun v1 => ?_)
  refine k_aload_n (pc := 192) dX7_copy_192 rfl ?_
  refine k_gMX7_cells (pc := 193) kwf_X7_16 rfl dX7_copy_193 ?_
  refine k_bipush (pc := 196) (v := (nI 60)) dX7_copy_196 (by decide) ?_
  refine k_iload_n (pc := 198) dX7_copy_198 rfl ?_
  refine k_imul (pc := 199) dX7_copy_199 ?_
  refine k_iload (pc := 200) dX7_copy_200 rfl ?_
  refine k_iadd (pc := 202) dX7_copy_202 ?_
  refine k_iload (pc := 203) dX7_copy_203 rfl ?_
  refine k_iadd (pc := 205) dX7_copy_205 ?_
  refine k_aload_n (pc := 206) dX7_copy_206 rfl ?_
  refine k_gMX7_cells (pc := 207) kwf_X7_16 rfl dX7_copy_207 ?_
  refine k_bipush (pc := 210) (v := (nI 60)) dX7_copy_210 (by decide) ?_
  refine k_iload_n (pc := 212) dX7_copy_212 rfl ?_
  refine k_imul (pc := 213) dX7_copy_213 ?_
  refine k_iload_n (pc := 214) dX7_copy_214 rfl ?_
  refine k_iadd (pc := 215) dX7_copy_215 ?_
  refine k_iload (pc := 216) dX7_copy_216 rfl ?_
  refine k_iadd (pc := 218) dX7_copy_218 ?_
  refine k_lM3 (pc := 219) dX7_copy_219 ?_
  refine k_sM3 (pc := 220) dX7_copy_220 (fun σ2 => ?_)
  refine k_iinc8 (pc := 221) (w := (nI 1)) dX7_copy_221 rfl (by decide) (Nat.le_of_ble_eq_true rfl) (fun v3 => ?_)
  refine k_goto (pc := 224) 166 dX7_copy_224 (by decide) ?_
  refine k_fg9 ?_
  exact hk166 σ2 l1 l2 l3 l4 l5 l7 v3
noncomputable def fX7_copy_c166 : Nat → k_S → Int32 → Int32 → Int32 → Int32 → Int32 → Int32 → Int32 → Option (Int32 × k_S)
  | 0, _, _, _, _, _, _, _, _ => none
  | n + 1, σ, l1, l2, l3, l4, l5, l7, l8 => (if l8 < l5 then (if l7 = 0 then fX7_copy_c190 (fX7_copy_c166 n) σ l1 l2 l3 l4 l5 l7 l8 l8 else fX7_copy_c190 (fX7_copy_c166 n) σ l1 l2 l3 l4 l5 l7 l8 (((l5 - (nI 1)) - l8))) else some (l5, σ))
theorem fX7_copy_c166_s (n : Nat) (σ : k_S) (l1 l2 l3 l4 l5 l7 l8 : Int32) : fX7_copy_c166 (n + 1) σ l1 l2 l3 l4 l5 l7 l8 = (if l8 < l5 then (if l7 = 0 then fX7_copy_c190 (fX7_copy_c166 n) σ l1 l2 l3 l4 l5 l7 l8 l8 else fX7_copy_c190 (fX7_copy_c166 n) σ l1 l2 l3 l4 l5 l7 l8 (((l5 - (nI 1)) - l8))) else some (l5, σ)) := rfl
set_option maxRecDepth 100000 in
set_option maxHeartbeats 4000000 in
theorem kX7_copy_c166 {X : k_C} {q : Nat → Nat} : ∀ (n : Nat) (σ : k_S) (l1 l2 l3 l4 l5 l7 l8 : Int32), KO X YX7_copy (cM (k_I X) q) 0 0 (k_Q k_ei X (cM (k_I X) q)) 166 [some (.ref (q 0)), some (.int l1), some (.int l2), some (.int l3), some (.int l4), some (.int l5), none, some (.int l7), some (.int l8), none] [] σ (fX7_copy_c166 n σ l1 l2 l3 l4 l5 l7 l8) := by
  intro n
  induction n with
  | zero => intros; exact KO.nil
  | succ n ih =>
    intro σ l1 l2 l3 l4 l5 l7 l8
    rw [fX7_copy_c166_s]
    refine k_iload (pc := 166) dX7_copy_166 rfl ?_
    refine k_iload (pc := 168) dX7_copy_168 rfl ?_
    refine k_icmp_ge (pc := 170) 227 dX7_copy_170 (by decide) ?_ ?_
    · refine k_iload (pc := 227) dX7_copy_227 rfl ?_
      exact k_ireturn (pc := 229) rfl dX7_copy_229
    · refine k_iload (pc := 173) dX7_copy_173 rfl ?_
      refine k_if_eq (pc := 175) 188 dX7_copy_175 (by decide) ?_ ?_
      · refine k_iload (pc := 188) dX7_copy_188 rfl ?_
        exact kX7_copy_c190 (fX7_copy_c166 n) ih σ l1 l2 l3 l4 l5 l7 l8 l8
      · refine k_iload (pc := 178) dX7_copy_178 rfl ?_
        refine k_iconst (pc := 180) (v := (nI 1)) dX7_copy_180 (by decide) ?_
        refine k_isub (pc := 181) dX7_copy_181 ?_
        refine k_iload (pc := 182) dX7_copy_182 rfl ?_
        refine k_isub (pc := 184) dX7_copy_184 ?_
        refine k_goto (pc := 185) 190 dX7_copy_185 (by decide) ?_
        exact kX7_copy_c190 (fX7_copy_c166 n) ih σ l1 l2 l3 l4 l5 l7 l8 (((l5 - (nI 1)) - l8))
noncomputable def fX7_copy_c161 (σ : k_S) (l1 l2 l3 l4 l5 s0 : Int32) : Option (Int32 × k_S) := k_bn (s0) fun v1 => k_bn ((nI 0)) fun v2 => fX7_copy_c166 k_F σ l1 l2 l3 l4 l5 v1 v2
set_option maxRecDepth 100000 in
set_option maxHeartbeats 4000000 in
theorem kX7_copy_c161 {X : k_C} {q : Nat → Nat} (σ : k_S) (l1 l2 l3 l4 l5 s0 : Int32) : KO X YX7_copy (cM (k_I X) q) 0 0 (k_Q k_ei X (cM (k_I X) q)) 161 [some (.ref (q 0)), some (.int l1), some (.int l2), some (.int l3), some (.int l4), some (.int l5), none, none, none, none] [.int s0] σ (fX7_copy_c161 σ l1 l2 l3 l4 l5 s0) := by
  unfold fX7_copy_c161
  refine k_ist7 (pc := 161) dX7_copy_161 (Nat.le_of_ble_eq_true rfl) (fun v1 => ?_)
  refine k_iconst (pc := 163) (v := (nI 0)) dX7_copy_163 (by decide) ?_
  refine k_ist8 (pc := 164) dX7_copy_164 (Nat.le_of_ble_eq_true rfl) (fun v2 => ?_)
  exact kX7_copy_c166 k_F σ l1 l2 l3 l4 l5 v1 v2
noncomputable def fX7_copy_c110 (σ : k_S) (l1 l2 l3 l4 l5 s0 : Int32) : Option (Int32 × k_S) := k_bn (s0) fun v1 => (if v1 = 0 then fX7_copy_c144 σ else k_gd (l1) 4 ((if (σ.2 1 (Int32.toNatClampNeg (l1)) - l2) < l5 then fX7_copy_c144 σ else k_gd (l3) 4 ((if (σ.2 1 (Int32.toNatClampNeg (l3)) - l4) < l5 then fX7_copy_c144 σ else (if l2 < l4 then fX7_copy_c161 σ l1 l2 l3 l4 l5 ((nI 1)) else fX7_copy_c161 σ l1 l2 l3 l4 l5 ((nI 0))))))))
set_option maxRecDepth 100000 in
set_option maxHeartbeats 4000000 in
theorem kX7_copy_c110 {X : k_C} {q : Nat → Nat} (σ : k_S) (l1 l2 l3 l4 l5 s0 : Int32) : KO X YX7_copy (cM (k_I X) q) 0 0 (k_Q k_ei X (cM (k_I X) q)) 110 [some (.ref (q 0)), some (.int l1), some (.int l2), some (.int l3), some (.int l4), some (.int l5), none, none, none, none] [.int s0] σ (fX7_copy_c110 σ l1 l2 l3 l4 l5 s0) := by
  unfold fX7_copy_c110
  refine k_ist6 (pc := 110) dX7_copy_110 (Nat.le_of_ble_eq_true rfl) (fun v1 => ?_)
  refine k_iload (pc := 112) dX7_copy_112 rfl ?_
  refine k_if_eq (pc := 114) 144 dX7_copy_114 (by decide) ?_ ?_
  · refine k_fg1 ?_
    refine k_fg2 ?_
    refine k_fg3 ?_
    refine k_fg4 ?_
    refine k_fg5 ?_
    refine k_fg6 ?_
    exact kX7_copy_c144 σ
  · refine k_iload (pc := 117) dX7_copy_117 rfl ?_
    refine k_aload_n (pc := 119) dX7_copy_119 rfl ?_
    refine k_gMX7_sheetLong (pc := 120) kwf_X7_13 rfl dX7_copy_120 ?_
    refine k_iload_n (pc := 123) dX7_copy_123 rfl ?_
    refine k_lM2 (pc := 124) dX7_copy_124 ?_
    refine k_iload_n (pc := 125) dX7_copy_125 rfl ?_
    refine k_isub (pc := 126) dX7_copy_126 ?_
    refine k_icmp_gt (pc := 127) 144 dX7_copy_127 (by decide) ?_ ?_
    · refine k_fg1 ?_
      refine k_fg2 ?_
      refine k_fg3 ?_
      refine k_fg4 ?_
      refine k_fg5 ?_
      refine k_fg6 ?_
      exact kX7_copy_c144 σ
    · refine k_iload (pc := 130) dX7_copy_130 rfl ?_
      refine k_aload_n (pc := 132) dX7_copy_132 rfl ?_
      refine k_gMX7_sheetLong (pc := 133) kwf_X7_13 rfl dX7_copy_133 ?_
      refine k_iload_n (pc := 136) dX7_copy_136 rfl ?_
      refine k_lM2 (pc := 137) dX7_copy_137 ?_
      refine k_iload (pc := 138) dX7_copy_138 rfl ?_
      refine k_isub (pc := 140) dX7_copy_140 ?_
      refine k_icmp_le (pc := 141) 150 dX7_copy_141 (by decide) ?_ ?_
      · refine k_iload_n (pc := 150) dX7_copy_150 rfl ?_
        refine k_iload (pc := 151) dX7_copy_151 rfl ?_
        refine k_icmp_ge (pc := 153) 160 dX7_copy_153 (by decide) ?_ ?_
        · refine k_iconst (pc := 160) (v := (nI 0)) dX7_copy_160 (by decide) ?_
          refine k_fg6 ?_
          exact kX7_copy_c161 σ l1 l2 l3 l4 l5 ((nI 0))
        · refine k_iconst (pc := 156) (v := (nI 1)) dX7_copy_156 (by decide) ?_
          refine k_goto (pc := 157) 161 dX7_copy_157 (by decide) ?_
          refine k_fg6 ?_
          exact kX7_copy_c161 σ l1 l2 l3 l4 l5 ((nI 1))
      · refine k_fg1 ?_
        refine k_fg2 ?_
        refine k_fg3 ?_
        refine k_fg4 ?_
        refine k_fg5 ?_
        refine k_fg6 ?_
        exact kX7_copy_c144 σ
noncomputable def fX7_copy_c109 (σ : k_S) (l1 l2 l3 l4 l5 : Int32) : Option (Int32 × k_S) := fX7_copy_c110 σ l1 l2 l3 l4 l5 ((nI 0))
set_option maxRecDepth 100000 in
set_option maxHeartbeats 4000000 in
theorem kX7_copy_c109 {X : k_C} {q : Nat → Nat} (σ : k_S) (l1 l2 l3 l4 l5 : Int32) : KO X YX7_copy (cM (k_I X) q) 0 0 (k_Q k_ei X (cM (k_I X) q)) 109 [some (.ref (q 0)), some (.int l1), some (.int l2), some (.int l3), some (.int l4), some (.int l5), none, none, none, none] [] σ (fX7_copy_c109 σ l1 l2 l3 l4 l5) := by
  unfold fX7_copy_c109
  refine k_iconst (pc := 109) (v := (nI 0)) dX7_copy_109 (by decide) ?_
  exact kX7_copy_c110 σ l1 l2 l3 l4 l5 ((nI 0))
noncomputable def fX7_copy (σ : k_S) (x1 x2 x3 x4 x5 : Int32) : Option (Int32 × k_S) := k_bn (k_sf σ 0 ((nI 0))) fun σ1 => k_ob (fX7_isSheet σ1 x1) fun r2 σ3 => (if r2 = 0 then some ((k_ng 1), σ3) else k_ob (fX7_isSheet σ3 x3) fun r4 σ5 => (if r4 = 0 then some ((k_ng 1), σ5) else k_gd (x1) 4 ((if σ5.2 0 (Int32.toNatClampNeg (x1)) = (k_ng 9) then fX7_copy_c43 σ5 else k_gd (x3) 4 ((if σ5.2 0 (Int32.toNatClampNeg (x3)) = (k_ng 9) then fX7_copy_c43 σ5 else k_gd (x1) 4 (k_gd (x3) 4 ((if σ5.2 0 (Int32.toNatClampNeg (x1)) = σ5.2 0 (Int32.toNatClampNeg (x3)) then (if x2 < 0 then fX7_copy_c109 σ5 x1 x2 x3 x4 x5 else (if x4 < 0 then fX7_copy_c109 σ5 x1 x2 x3 x4 x5 else (if x5 < 0 then fX7_copy_c109 σ5 x1 x2 x3 x4 x5 else k_gd (x1) 4 ((if σ5.2 1 (Int32.toNatClampNeg (x1)) < x2 then fX7_copy_c109 σ5 x1 x2 x3 x4 x5 else k_gd (x3) 4 ((if σ5.2 1 (Int32.toNatClampNeg (x3)) < x4 then fX7_copy_c109 σ5 x1 x2 x3 x4 x5 else fX7_copy_c110 σ5 x1 x2 x3 x4 x5 ((nI 1))))))))) else k_ob (fX7_fails σ5 ((nI 2))) fun r6 σ7 => some (r6, σ7))))))))))
set_option maxRecDepth 100000 in
set_option maxHeartbeats 4000000 in
theorem kX7_copy {D : va_G} {cI : ClassId} {q : Nat → Nat} {σ : k_S} {x1 x2 x3 x4 x5 : Int32} {r : Int32} {τ : k_S} (h : fX7_copy σ x1 x2 x3 x4 x5 = some (r, τ)) : k_Ct k_ei yX7_copy cX7_copy 10 (some .int) rmX7_copy (cM cI q) D cI [.ref (q 0), .int x1, .int x2, .int x3, .int x4, .int x5] σ r τ := by
  refine k_met (Y := YX7_copy) (cM_same _ _) (by decide) rfl (Nat.le_of_ble_eq_true rfl) (List.forall_mem_cons.mpr ⟨rfl, List.forall_mem_cons.mpr ⟨rfl, List.forall_mem_cons.mpr ⟨rfl, List.forall_mem_cons.mpr ⟨rfl, List.forall_mem_cons.mpr ⟨rfl, List.forall_mem_cons.mpr ⟨rfl, fun _ h => absurd h List.not_mem_nil⟩⟩⟩⟩⟩⟩) (fun X hD hI => ?_) h
  subst hD hI
  show KO X YX7_copy (cM (k_I X) q) 0 0 (k_Q k_ei X (cM (k_I X) q)) 0 [some (.ref (q 0)), some (.int x1), some (.int x2), some (.int x3), some (.int x4), some (.int x5), none, none, none, none] [] σ _
  unfold fX7_copy
  refine k_aload_n (pc := 0) dX7_copy_0 rfl ?_
  refine k_iconst (pc := 1) (v := (nI 0)) dX7_copy_1 (by decide) ?_
  refine k_pMX7_fault (pc := 2) kwf_X7_67 rfl dX7_copy_2 (fun σ1 => ?_)
  refine k_iload_n (pc := 5) dX7_copy_5 rfl ?_
  refine k_si1 (pc := 6) (cM_same _ _) ckX7_isSheet kwm_X7_83 ⟨rfl, rfl⟩ ⟨Nat.le_of_ble_eq_true rfl, Nat.le_of_ble_eq_true rfl⟩ ⟨Nat.zero_le _, Nat.zero_le _⟩ (Nat.le_of_ble_eq_true rfl) dX7_copy_6 (fun _ _ hf => kX7_isSheet hf) (fun r2 σ3 => ?_)
  refine k_if_eq (pc := 9) 19 dX7_copy_9 (by decide) ?_ ?_
  · refine k_iconst (pc := 19) (v := (k_ng 1)) dX7_copy_19 (by decide) ?_
    exact k_ireturn (pc := 20) rfl dX7_copy_20
  · refine k_iload_n (pc := 12) dX7_copy_12 rfl ?_
    refine k_si1 (pc := 13) (cM_same _ _) ckX7_isSheet kwm_X7_83 ⟨rfl, rfl⟩ ⟨Nat.le_of_ble_eq_true rfl, Nat.le_of_ble_eq_true rfl⟩ ⟨Nat.zero_le _, Nat.zero_le _⟩ (Nat.le_of_ble_eq_true rfl) dX7_copy_13 (fun _ _ hf => kX7_isSheet hf) (fun r4 σ5 => ?_)
    refine k_if_ne (pc := 16) 21 dX7_copy_16 (by decide) ?_ ?_
    · refine k_aload_n (pc := 21) dX7_copy_21 rfl ?_
      refine k_gMX7_sorts (pc := 22) kwf_X7_9 rfl dX7_copy_22 ?_
      refine k_iload_n (pc := 25) dX7_copy_25 rfl ?_
      refine k_lM1 (pc := 26) dX7_copy_26 ?_
      refine k_bipush (pc := 27) (v := (k_ng 9)) dX7_copy_27 (by decide) ?_
      refine k_icmp_eq (pc := 29) 43 dX7_copy_29 (by decide) ?_ ?_
      · refine k_fg1 ?_
        refine k_fg2 ?_
        refine k_fg3 ?_
        refine k_fg4 ?_
        refine k_fg5 ?_
        exact kX7_copy_c43 σ5
      · refine k_aload_n (pc := 32) dX7_copy_32 rfl ?_
        refine k_gMX7_sorts (pc := 33) kwf_X7_9 rfl dX7_copy_33 ?_
        refine k_iload_n (pc := 36) dX7_copy_36 rfl ?_
        refine k_lM1 (pc := 37) dX7_copy_37 ?_
        refine k_bipush (pc := 38) (v := (k_ng 9)) dX7_copy_38 (by decide) ?_
        refine k_icmp_ne (pc := 40) 49 dX7_copy_40 (by decide) ?_ ?_
        · refine k_aload_n (pc := 49) dX7_copy_49 rfl ?_
          refine k_gMX7_sorts (pc := 50) kwf_X7_9 rfl dX7_copy_50 ?_
          refine k_iload_n (pc := 53) dX7_copy_53 rfl ?_
          refine k_lM1 (pc := 54) dX7_copy_54 ?_
          refine k_aload_n (pc := 55) dX7_copy_55 rfl ?_
          refine k_gMX7_sorts (pc := 56) kwf_X7_9 rfl dX7_copy_56 ?_
          refine k_iload_n (pc := 59) dX7_copy_59 rfl ?_
          refine k_lM1 (pc := 60) dX7_copy_60 ?_
          refine k_icmp_eq (pc := 61) 70 dX7_copy_61 (by decide) ?_ ?_
          · refine k_iload_n (pc := 70) dX7_copy_70 rfl ?_
            refine k_if_lt (pc := 71) 109 dX7_copy_71 (by decide) ?_ ?_
            · exact kX7_copy_c109 σ5 x1 x2 x3 x4 x5
            · refine k_iload (pc := 74) dX7_copy_74 rfl ?_
              refine k_if_lt (pc := 76) 109 dX7_copy_76 (by decide) ?_ ?_
              · exact kX7_copy_c109 σ5 x1 x2 x3 x4 x5
              · refine k_iload (pc := 79) dX7_copy_79 rfl ?_
                refine k_if_lt (pc := 81) 109 dX7_copy_81 (by decide) ?_ ?_
                · exact kX7_copy_c109 σ5 x1 x2 x3 x4 x5
                · refine k_iload_n (pc := 84) dX7_copy_84 rfl ?_
                  refine k_aload_n (pc := 85) dX7_copy_85 rfl ?_
                  refine k_gMX7_sheetLong (pc := 86) kwf_X7_13 rfl dX7_copy_86 ?_
                  refine k_iload_n (pc := 89) dX7_copy_89 rfl ?_
                  refine k_lM2 (pc := 90) dX7_copy_90 ?_
                  refine k_icmp_gt (pc := 91) 109 dX7_copy_91 (by decide) ?_ ?_
                  · exact kX7_copy_c109 σ5 x1 x2 x3 x4 x5
                  · refine k_iload (pc := 94) dX7_copy_94 rfl ?_
                    refine k_aload_n (pc := 96) dX7_copy_96 rfl ?_
                    refine k_gMX7_sheetLong (pc := 97) kwf_X7_13 rfl dX7_copy_97 ?_
                    refine k_iload_n (pc := 100) dX7_copy_100 rfl ?_
                    refine k_lM2 (pc := 101) dX7_copy_101 ?_
                    refine k_icmp_gt (pc := 102) 109 dX7_copy_102 (by decide) ?_ ?_
                    · exact kX7_copy_c109 σ5 x1 x2 x3 x4 x5
                    · refine k_iconst (pc := 105) (v := (nI 1)) dX7_copy_105 (by decide) ?_
                      refine k_goto (pc := 106) 110 dX7_copy_106 (by decide) ?_
                      exact kX7_copy_c110 σ5 x1 x2 x3 x4 x5 ((nI 1))
          · refine k_aload_n (pc := 64) dX7_copy_64 rfl ?_
            refine k_iconst (pc := 65) (v := (nI 2)) dX7_copy_65 (by decide) ?_
            refine k_vi1 (pc := 66) (cM_same _ _) ckX7_fails kwm_X7_94 cM_rv0 ⟨rfl, rfl⟩ ⟨Nat.le_of_ble_eq_true rfl, Nat.le_of_ble_eq_true rfl⟩ ⟨Nat.zero_le _, Nat.zero_le _⟩ (Nat.le_of_ble_eq_true rfl) dX7_copy_66 (fun _ _ hf => kX7_fails hf) (fun r6 σ7 => ?_)
            exact k_ireturn (pc := 69) rfl dX7_copy_69
        · refine k_fg1 ?_
          refine k_fg2 ?_
          refine k_fg3 ?_
          refine k_fg4 ?_
          refine k_fg5 ?_
          exact kX7_copy_c43 σ5
    · refine k_iconst (pc := 19) (v := (k_ng 1)) dX7_copy_19 (by decide) ?_
      exact k_ireturn (pc := 20) rfl dX7_copy_20
-- TallTalesModel.begins(I)V
theorem ckX7_begins : k_Vok yX7_begins cX7_begins 2 none 1 := ⟨kwk_X7_begins, kwi_X7_begins, kwv_X7_begins, kwn_X7, by decide, by decide +kernel⟩
abbrev rmX7_begins : Room := { frames := 0, cells := 0, slots := 0, locals := 0 }
abbrev YX7_begins : k_Y := (rmX7_begins, cX7_begins, 2, RX7, none)
noncomputable def fX7_begins (σ : k_S) (x1 : Int32) : Option (Unit × k_S) := k_bn (k_sf σ 1 ((((nI 31) * σ.1 1) + x1))) fun σ1 => some ((), σ1)
set_option maxRecDepth 100000 in
set_option maxHeartbeats 4000000 in
theorem kX7_begins {D : va_G} {cI : ClassId} {q : Nat → Nat} {σ : k_S} {x1 : Int32} {r : Unit} {τ : k_S} (h : fX7_begins σ x1 = some (r, τ)) : k_Ct k_ev yX7_begins cX7_begins 2 none rmX7_begins (cM cI q) D cI [.ref (q 0), .int x1] σ r τ := by
  refine k_met (Y := YX7_begins) (cM_same _ _) (by decide) rfl (Nat.le_of_ble_eq_true rfl) (List.forall_mem_cons.mpr ⟨rfl, List.forall_mem_cons.mpr ⟨rfl, fun _ h => absurd h List.not_mem_nil⟩⟩) (fun X hD hI => ?_) h
  subst hD hI
  show KO X YX7_begins (cM (k_I X) q) 0 0 (k_Q k_ev X (cM (k_I X) q)) 0 [some (.ref (q 0)), some (.int x1)] [] σ _
  unfold fX7_begins
  refine k_aload_n (pc := 0) dX7_begins_0 rfl ?_
  refine k_bipush (pc := 1) (v := (nI 31)) dX7_begins_1 (by decide) ?_
  refine k_aload_n (pc := 3) dX7_begins_3 rfl ?_
  refine k_gMX7_trace (pc := 4) kwf_X7_230 rfl dX7_begins_4 ?_
  refine k_imul (pc := 7) dX7_begins_7 ?_
  refine k_iload_n (pc := 8) dX7_begins_8 rfl ?_
  refine k_iadd (pc := 9) dX7_begins_9 ?_
  refine k_pMX7_trace (pc := 10) kwf_X7_230 rfl dX7_begins_10 (fun σ1 => ?_)
  exact k_return (pc := 13) rfl dX7_begins_13
-- TallTalesModel.tell(I)I
theorem ckX7_tell : k_Vok yX7_tell cX7_tell 3 (some .int) 1 := ⟨kwk_X7_tell, kwi_X7_tell, kwv_X7_tell, kwn_X7, by decide, by decide +kernel⟩
abbrev rmX7_tell : Room := { frames := 1, cells := 0, slots := 0, locals := 21 }
abbrev YX7_tell : k_Y := (rmX7_tell, cX7_tell, 3, RX7, (some .int))
noncomputable def fX7_tell (σ : k_S) (x1 : Int32) : Option (Int32 × k_S) := k_ob (fX7_isTale σ x1) fun r1 σ2 => (if r1 = 0 then some ((k_ng 1), σ2) else k_gd (x1) 10 (k_bn (σ2.2 5 (Int32.toNatClampNeg (x1))) fun v3 => k_gd (x1) 10 ((if σ2.2 3 (Int32.toNatClampNeg (x1)) = (nI 1) then k_ob (fX7_begins σ2 ((nI 2))) fun r5 σ6 => k_ob (fX7_begins σ6 ((nI 1))) fun r7 σ8 => some ((v3 + (nI 100)), σ8) else (if σ2.2 3 (Int32.toNatClampNeg (x1)) = (nI 2) then k_ob (fX7_begins σ2 ((nI 3))) fun r9 σ10 => k_ob (fX7_begins σ10 ((nI 2))) fun r11 σ12 => k_ob (fX7_begins σ12 ((nI 1))) fun r13 σ14 => k_ob (fX7_begins σ14 ((nI 1))) fun r15 σ16 => some ((((nI 2) * v3) + (nI 100)), σ16) else k_ob (fX7_begins σ2 ((nI 1))) fun r17 σ18 => some (v3, σ18))))))
set_option maxRecDepth 100000 in
set_option maxHeartbeats 4000000 in
theorem kX7_tell {D : va_G} {cI : ClassId} {q : Nat → Nat} {σ : k_S} {x1 : Int32} {r : Int32} {τ : k_S} (h : fX7_tell σ x1 = some (r, τ)) : k_Ct k_ei yX7_tell cX7_tell 3 (some .int) rmX7_tell (cM cI q) D cI [.ref (q 0), .int x1] σ r τ := by
  refine k_met (Y := YX7_tell) (cM_same _ _) (by decide) rfl (Nat.le_of_ble_eq_true rfl) (List.forall_mem_cons.mpr ⟨rfl, List.forall_mem_cons.mpr ⟨rfl, fun _ h => absurd h List.not_mem_nil⟩⟩) (fun X hD hI => ?_) h
  subst hD hI
  show KO X YX7_tell (cM (k_I X) q) 0 0 (k_Q k_ei X (cM (k_I X) q)) 0 [some (.ref (q 0)), some (.int x1), none] [] σ _
  unfold fX7_tell
  refine k_aload_n (pc := 0) dX7_tell_0 rfl ?_
  refine k_iload_n (pc := 1) dX7_tell_1 rfl ?_
  refine k_vi1 (pc := 2) (cM_same _ _) ckX7_isTale kwm_X7_136 cM_rv0 ⟨rfl, rfl⟩ ⟨Nat.le_of_ble_eq_true rfl, Nat.le_of_ble_eq_true rfl⟩ ⟨Nat.zero_le _, Nat.zero_le _⟩ (Nat.le_of_ble_eq_true rfl) dX7_tell_2 (fun _ _ hf => kX7_isTale hf) (fun r1 σ2 => ?_)
  refine k_if_ne (pc := 5) 10 dX7_tell_5 (by decide) ?_ ?_
  · refine k_aload_n (pc := 10) dX7_tell_10 rfl ?_
    refine k_gMX7_high (pc := 11) kwf_X7_25 rfl dX7_tell_11 ?_
    refine k_iload_n (pc := 14) dX7_tell_14 rfl ?_
    refine k_lM6 (pc := 15) dX7_tell_15 ?_
    refine k_ist2 (pc := 16) dX7_tell_16 (Nat.le_of_ble_eq_true rfl) (fun v3 => ?_)
    refine k_aload_n (pc := 17) dX7_tell_17 rfl ?_
    refine k_gMX7_kind (pc := 18) kwf_X7_19 rfl dX7_tell_18 ?_
    refine k_iload_n (pc := 21) dX7_tell_21 rfl ?_
    refine k_lM4 (pc := 22) dX7_tell_22 ?_
    refine KO.ite (c := σ2.2 3 (Int32.toNatClampNeg (x1)) = (nI 1)) (fun hs4_0 => ?_) (fun hs4_0 => ?_)
    · refine k_lookup (off := 25) (pc := 23) 48 dX7_tell_23 (by decide) (by rw [hs4_0]; decide) (by decide) ?_
      refine k_aload_n (pc := 48) dX7_tell_48 rfl ?_
      refine k_iconst (pc := 49) (v := (nI 2)) dX7_tell_49 (by decide) ?_
      refine k_vv1 (pc := 50) (cM_same _ _) ckX7_begins kwm_X7_233 cM_rv0 ⟨rfl, rfl⟩ ⟨Nat.le_of_ble_eq_true rfl, Nat.le_of_ble_eq_true rfl⟩ ⟨Nat.zero_le _, Nat.zero_le _⟩ (Nat.le_of_ble_eq_true rfl) dX7_tell_50 (fun _ _ hf => kX7_begins hf) (fun r5 σ6 => ?_)
      refine k_aload_n (pc := 53) dX7_tell_53 rfl ?_
      refine k_iconst (pc := 54) (v := (nI 1)) dX7_tell_54 (by decide) ?_
      refine k_vv1 (pc := 55) (cM_same _ _) ckX7_begins kwm_X7_233 cM_rv0 ⟨rfl, rfl⟩ ⟨Nat.le_of_ble_eq_true rfl, Nat.le_of_ble_eq_true rfl⟩ ⟨Nat.zero_le _, Nat.zero_le _⟩ (Nat.le_of_ble_eq_true rfl) dX7_tell_55 (fun _ _ hf => kX7_begins hf) (fun r7 σ8 => ?_)
      refine k_iload_n (pc := 58) dX7_tell_58 rfl ?_
      refine k_bipush (pc := 59) (v := (nI 100)) dX7_tell_59 (by decide) ?_
      refine k_iadd (pc := 61) dX7_tell_61 ?_
      exact k_ireturn (pc := 62) rfl dX7_tell_62
    · refine KO.ite (c := σ2.2 3 (Int32.toNatClampNeg (x1)) = (nI 2)) (fun hs4_1 => ?_) (fun hs4_1 => ?_)
      · refine k_lookup (off := 40) (pc := 23) 63 dX7_tell_23 (by decide) (by rw [hs4_1]; decide) (by decide) ?_
        refine k_aload_n (pc := 63) dX7_tell_63 rfl ?_
        refine k_iconst (pc := 64) (v := (nI 3)) dX7_tell_64 (by decide) ?_
        refine k_vv1 (pc := 65) (cM_same _ _) ckX7_begins kwm_X7_233 cM_rv0 ⟨rfl, rfl⟩ ⟨Nat.le_of_ble_eq_true rfl, Nat.le_of_ble_eq_true rfl⟩ ⟨Nat.zero_le _, Nat.zero_le _⟩ (Nat.le_of_ble_eq_true rfl) dX7_tell_65 (fun _ _ hf => kX7_begins hf) (fun r9 σ10 => ?_)
        refine k_aload_n (pc := 68) dX7_tell_68 rfl ?_
        refine k_iconst (pc := 69) (v := (nI 2)) dX7_tell_69 (by decide) ?_
        refine k_vv1 (pc := 70) (cM_same _ _) ckX7_begins kwm_X7_233 cM_rv0 ⟨rfl, rfl⟩ ⟨Nat.le_of_ble_eq_true rfl, Nat.le_of_ble_eq_true rfl⟩ ⟨Nat.zero_le _, Nat.zero_le _⟩ (Nat.le_of_ble_eq_true rfl) dX7_tell_70 (fun _ _ hf => kX7_begins hf) (fun r11 σ12 => ?_)
        refine k_aload_n (pc := 73) dX7_tell_73 rfl ?_
        refine k_iconst (pc := 74) (v := (nI 1)) dX7_tell_74 (by decide) ?_
        refine k_vv1 (pc := 75) (cM_same _ _) ckX7_begins kwm_X7_233 cM_rv0 ⟨rfl, rfl⟩ ⟨Nat.le_of_ble_eq_true rfl, Nat.le_of_ble_eq_true rfl⟩ ⟨Nat.zero_le _, Nat.zero_le _⟩ (Nat.le_of_ble_eq_true rfl) dX7_tell_75 (fun _ _ hf => kX7_begins hf) (fun r13 σ14 => ?_)
        refine k_aload_n (pc := 78) dX7_tell_78 rfl ?_
        refine k_iconst (pc := 79) (v := (nI 1)) dX7_tell_79 (by decide) ?_
        refine k_vv1 (pc := 80) (cM_same _ _) ckX7_begins kwm_X7_233 cM_rv0 ⟨rfl, rfl⟩ ⟨Nat.le_of_ble_eq_true rfl, Nat.le_of_ble_eq_true rfl⟩ ⟨Nat.zero_le _, Nat.zero_le _⟩ (Nat.le_of_ble_eq_true rfl) dX7_tell_80 (fun _ _ hf => kX7_begins hf) (fun r15 σ16 => ?_)
        refine k_iconst (pc := 83) (v := (nI 2)) dX7_tell_83 (by decide) ?_
        refine k_iload_n (pc := 84) dX7_tell_84 rfl ?_
        refine k_imul (pc := 85) dX7_tell_85 ?_
        refine k_bipush (pc := 86) (v := (nI 100)) dX7_tell_86 (by decide) ?_
        refine k_iadd (pc := 88) dX7_tell_88 ?_
        exact k_ireturn (pc := 89) rfl dX7_tell_89
      · refine k_lookup (off := 67) (pc := 23) 90 dX7_tell_23 (by decide) (by refine (lv_osw hs4_0 rfl).trans ?_; refine (lv_osw hs4_1 rfl).trans ?_; rfl) (by decide) ?_
        refine k_aload_n (pc := 90) dX7_tell_90 rfl ?_
        refine k_iconst (pc := 91) (v := (nI 1)) dX7_tell_91 (by decide) ?_
        refine k_vv1 (pc := 92) (cM_same _ _) ckX7_begins kwm_X7_233 cM_rv0 ⟨rfl, rfl⟩ ⟨Nat.le_of_ble_eq_true rfl, Nat.le_of_ble_eq_true rfl⟩ ⟨Nat.zero_le _, Nat.zero_le _⟩ (Nat.le_of_ble_eq_true rfl) dX7_tell_92 (fun _ _ hf => kX7_begins hf) (fun r17 σ18 => ?_)
        refine k_iload_n (pc := 95) dX7_tell_95 rfl ?_
        exact k_ireturn (pc := 96) rfl dX7_tell_96
  · refine k_iconst (pc := 8) (v := (k_ng 1)) dX7_tell_8 (by decide) ?_
    exact k_ireturn (pc := 9) rfl dX7_tell_9
-- TallTalesModel.swear(I)I
theorem ckX7_swear : k_Vok yX7_swear cX7_swear 2 (some .int) 1 := ⟨kwk_X7_swear, kwi_X7_swear, kwv_X7_swear, kwn_X7, by decide, by decide +kernel⟩
abbrev rmX7_swear : Room := { frames := 1, cells := 0, slots := 0, locals := 21 }
abbrev YX7_swear : k_Y := (rmX7_swear, cX7_swear, 2, RX7, (some .int))
noncomputable def fX7_swear_c26 (σ : k_S) (l1 s1 : Int32) : Option (Int32 × k_S) := k_ob (fX7_begins σ s1) fun r1 σ2 => k_gd (l1) 10 ((if σ2.2 3 (Int32.toNatClampNeg (l1)) = (nI 2) then some ((nI 30), σ2) else some (l1, σ2)))
set_option maxRecDepth 100000 in
set_option maxHeartbeats 4000000 in
theorem kX7_swear_c26 {X : k_C} {q : Nat → Nat} (σ : k_S) (l1 s1 : Int32) : KO X YX7_swear (cM (k_I X) q) 0 0 (k_Q k_ei X (cM (k_I X) q)) 26 [some (.ref (q 0)), some (.int l1)] [.int s1, .ref (q 0)] σ (fX7_swear_c26 σ l1 s1) := by
  unfold fX7_swear_c26
  refine k_vv1 (pc := 26) (cM_same _ _) ckX7_begins kwm_X7_233 cM_rv0 ⟨rfl, rfl⟩ ⟨Nat.le_of_ble_eq_true rfl, Nat.le_of_ble_eq_true rfl⟩ ⟨Nat.zero_le _, Nat.zero_le _⟩ (Nat.le_of_ble_eq_true rfl) dX7_swear_26 (fun _ _ hf => kX7_begins hf) (fun r1 σ2 => ?_)
  refine k_aload_n (pc := 29) dX7_swear_29 rfl ?_
  refine k_gMX7_kind (pc := 30) kwf_X7_19 rfl dX7_swear_30 ?_
  refine k_iload_n (pc := 33) dX7_swear_33 rfl ?_
  refine k_lM4 (pc := 34) dX7_swear_34 ?_
  refine k_iconst (pc := 35) (v := (nI 2)) dX7_swear_35 (by decide) ?_
  refine k_icmp_ne (pc := 36) 44 dX7_swear_36 (by decide) ?_ ?_
  · refine k_iload_n (pc := 44) dX7_swear_44 rfl ?_
    exact k_ireturn (pc := 45) rfl dX7_swear_45
  · refine k_bipush (pc := 39) (v := (nI 30)) dX7_swear_39 (by decide) ?_
    refine k_goto (pc := 41) 45 dX7_swear_41 (by decide) ?_
    exact k_ireturn (pc := 45) rfl dX7_swear_45
noncomputable def fX7_swear (σ : k_S) (x1 : Int32) : Option (Int32 × k_S) := k_ob (fX7_isTale σ x1) fun r1 σ2 => (if r1 = 0 then some ((k_ng 1), σ2) else k_gd (x1) 10 ((if σ2.2 3 (Int32.toNatClampNeg (x1)) = (nI 2) then fX7_swear_c26 σ2 x1 ((nI 5)) else fX7_swear_c26 σ2 x1 ((nI 4)))))
set_option maxRecDepth 100000 in
set_option maxHeartbeats 4000000 in
theorem kX7_swear {D : va_G} {cI : ClassId} {q : Nat → Nat} {σ : k_S} {x1 : Int32} {r : Int32} {τ : k_S} (h : fX7_swear σ x1 = some (r, τ)) : k_Ct k_ei yX7_swear cX7_swear 2 (some .int) rmX7_swear (cM cI q) D cI [.ref (q 0), .int x1] σ r τ := by
  refine k_met (Y := YX7_swear) (cM_same _ _) (by decide) rfl (Nat.le_of_ble_eq_true rfl) (List.forall_mem_cons.mpr ⟨rfl, List.forall_mem_cons.mpr ⟨rfl, fun _ h => absurd h List.not_mem_nil⟩⟩) (fun X hD hI => ?_) h
  subst hD hI
  show KO X YX7_swear (cM (k_I X) q) 0 0 (k_Q k_ei X (cM (k_I X) q)) 0 [some (.ref (q 0)), some (.int x1)] [] σ _
  unfold fX7_swear
  refine k_aload_n (pc := 0) dX7_swear_0 rfl ?_
  refine k_iload_n (pc := 1) dX7_swear_1 rfl ?_
  refine k_vi1 (pc := 2) (cM_same _ _) ckX7_isTale kwm_X7_136 cM_rv0 ⟨rfl, rfl⟩ ⟨Nat.le_of_ble_eq_true rfl, Nat.le_of_ble_eq_true rfl⟩ ⟨Nat.zero_le _, Nat.zero_le _⟩ (Nat.le_of_ble_eq_true rfl) dX7_swear_2 (fun _ _ hf => kX7_isTale hf) (fun r1 σ2 => ?_)
  refine k_if_ne (pc := 5) 10 dX7_swear_5 (by decide) ?_ ?_
  · refine k_aload_n (pc := 10) dX7_swear_10 rfl ?_
    refine k_aload_n (pc := 11) dX7_swear_11 rfl ?_
    refine k_gMX7_kind (pc := 12) kwf_X7_19 rfl dX7_swear_12 ?_
    refine k_iload_n (pc := 15) dX7_swear_15 rfl ?_
    refine k_lM4 (pc := 16) dX7_swear_16 ?_
    refine k_iconst (pc := 17) (v := (nI 2)) dX7_swear_17 (by decide) ?_
    refine k_icmp_ne (pc := 18) 25 dX7_swear_18 (by decide) ?_ ?_
    · refine k_iconst (pc := 25) (v := (nI 4)) dX7_swear_25 (by decide) ?_
      exact kX7_swear_c26 σ2 x1 ((nI 4))
    · refine k_iconst (pc := 21) (v := (nI 5)) dX7_swear_21 (by decide) ?_
      refine k_goto (pc := 22) 26 dX7_swear_22 (by decide) ?_
      exact kX7_swear_c26 σ2 x1 ((nI 5))
  · refine k_iconst (pc := 8) (v := (k_ng 1)) dX7_swear_8 (by decide) ?_
    exact k_ireturn (pc := 9) rfl dX7_swear_9
-- TallTalesModel.as(II)I
theorem ckX7_as : k_Vok yX7_as cX7_as 3 (some .int) 2 := ⟨kwk_X7_as, kwi_X7_as, kwv_X7_as, kwn_X7, by decide, by decide +kernel⟩
abbrev rmX7_as : Room := { frames := 1, cells := 0, slots := 0, locals := 22 }
abbrev YX7_as : k_Y := (rmX7_as, cX7_as, 3, RX7, (some .int))
noncomputable def fX7_as (σ : k_S) (x1 x2 : Int32) : Option (Int32 × k_S) := k_bn (k_sf σ 0 ((nI 0))) fun σ1 => k_ob (fX7_isTale σ1 x1) fun r2 σ3 => (if r2 = 0 then some ((k_ng 1), σ3) else k_ob (fX7_within σ3 x2 ((nI 0)) ((nI 2))) fun r4 σ5 => (if r4 = 0 then some ((k_ng 2), σ5) else k_gd (x1) 10 ((if σ5.2 3 (Int32.toNatClampNeg (x1)) < x2 then k_ob (fX7_fails σ5 ((nI 2))) fun r6 σ7 => some (r6, σ7) else some ((nI 1), σ5)))))
set_option maxRecDepth 100000 in
set_option maxHeartbeats 4000000 in
theorem kX7_as {D : va_G} {cI : ClassId} {q : Nat → Nat} {σ : k_S} {x1 x2 : Int32} {r : Int32} {τ : k_S} (h : fX7_as σ x1 x2 = some (r, τ)) : k_Ct k_ei yX7_as cX7_as 3 (some .int) rmX7_as (cM cI q) D cI [.ref (q 0), .int x1, .int x2] σ r τ := by
  refine k_met (Y := YX7_as) (cM_same _ _) (by decide) rfl (Nat.le_of_ble_eq_true rfl) (List.forall_mem_cons.mpr ⟨rfl, List.forall_mem_cons.mpr ⟨rfl, List.forall_mem_cons.mpr ⟨rfl, fun _ h => absurd h List.not_mem_nil⟩⟩⟩) (fun X hD hI => ?_) h
  subst hD hI
  show KO X YX7_as (cM (k_I X) q) 0 0 (k_Q k_ei X (cM (k_I X) q)) 0 [some (.ref (q 0)), some (.int x1), some (.int x2)] [] σ _
  unfold fX7_as
  refine k_aload_n (pc := 0) dX7_as_0 rfl ?_
  refine k_iconst (pc := 1) (v := (nI 0)) dX7_as_1 (by decide) ?_
  refine k_pMX7_fault (pc := 2) kwf_X7_67 rfl dX7_as_2 (fun σ1 => ?_)
  refine k_aload_n (pc := 5) dX7_as_5 rfl ?_
  refine k_iload_n (pc := 6) dX7_as_6 rfl ?_
  refine k_vi1 (pc := 7) (cM_same _ _) ckX7_isTale kwm_X7_136 cM_rv0 ⟨rfl, rfl⟩ ⟨Nat.le_of_ble_eq_true rfl, Nat.le_of_ble_eq_true rfl⟩ ⟨Nat.zero_le _, Nat.zero_le _⟩ (Nat.le_of_ble_eq_true rfl) dX7_as_7 (fun _ _ hf => kX7_isTale hf) (fun r2 σ3 => ?_)
  refine k_if_ne (pc := 10) 15 dX7_as_10 (by decide) ?_ ?_
  · refine k_iload_n (pc := 15) dX7_as_15 rfl ?_
    refine k_iconst (pc := 16) (v := (nI 0)) dX7_as_16 (by decide) ?_
    refine k_iconst (pc := 17) (v := (nI 2)) dX7_as_17 (by decide) ?_
    refine k_si3 (pc := 18) (cM_same _ _) ckX7_within kwm_X7_73 ⟨rfl, rfl⟩ ⟨Nat.le_of_ble_eq_true rfl, Nat.le_of_ble_eq_true rfl⟩ ⟨Nat.zero_le _, Nat.zero_le _⟩ (Nat.le_of_ble_eq_true rfl) dX7_as_18 (fun _ _ hf => kX7_within hf) (fun r4 σ5 => ?_)
    refine k_if_ne (pc := 21) 27 dX7_as_21 (by decide) ?_ ?_
    · refine k_aload_n (pc := 27) dX7_as_27 rfl ?_
      refine k_gMX7_kind (pc := 28) kwf_X7_19 rfl dX7_as_28 ?_
      refine k_iload_n (pc := 31) dX7_as_31 rfl ?_
      refine k_lM4 (pc := 32) dX7_as_32 ?_
      refine k_iload_n (pc := 33) dX7_as_33 rfl ?_
      refine k_icmp_lt (pc := 34) 41 dX7_as_34 (by decide) ?_ ?_
      · refine k_aload_n (pc := 41) dX7_as_41 rfl ?_
        refine k_iconst (pc := 42) (v := (nI 2)) dX7_as_42 (by decide) ?_
        refine k_vi1 (pc := 43) (cM_same _ _) ckX7_fails kwm_X7_94 cM_rv0 ⟨rfl, rfl⟩ ⟨Nat.le_of_ble_eq_true rfl, Nat.le_of_ble_eq_true rfl⟩ ⟨Nat.zero_le _, Nat.zero_le _⟩ (Nat.le_of_ble_eq_true rfl) dX7_as_43 (fun _ _ hf => kX7_fails hf) (fun r6 σ7 => ?_)
        exact k_ireturn (pc := 46) rfl dX7_as_46
      · refine k_iconst (pc := 37) (v := (nI 1)) dX7_as_37 (by decide) ?_
        refine k_goto (pc := 38) 46 dX7_as_38 (by decide) ?_
        exact k_ireturn (pc := 46) rfl dX7_as_46
    · refine k_bipush (pc := 24) (v := (k_ng 2)) dX7_as_24 (by decide) ?_
      exact k_ireturn (pc := 26) rfl dX7_as_26
  · refine k_iconst (pc := 13) (v := (k_ng 1)) dX7_as_13 (by decide) ?_
    exact k_ireturn (pc := 14) rfl dX7_as_14
-- TallTalesModel.trace()I
theorem ckX7_trace : k_Vok yX7_trace cX7_trace 1 (some .int) 0 := ⟨kwk_X7_trace, kwi_X7_trace, kwv_X7_trace, kwn_X7, by decide, by decide +kernel⟩
abbrev rmX7_trace : Room := { frames := 0, cells := 0, slots := 0, locals := 0 }
abbrev YX7_trace : k_Y := (rmX7_trace, cX7_trace, 1, RX7, (some .int))
noncomputable def fX7_trace (σ : k_S) : Option (Int32 × k_S) := some (σ.1 1, σ)
set_option maxRecDepth 100000 in
set_option maxHeartbeats 4000000 in
theorem kX7_trace {D : va_G} {cI : ClassId} {q : Nat → Nat} {σ : k_S} {r : Int32} {τ : k_S} (h : fX7_trace σ = some (r, τ)) : k_Ct k_ei yX7_trace cX7_trace 1 (some .int) rmX7_trace (cM cI q) D cI [.ref (q 0)] σ r τ := by
  refine k_met (Y := YX7_trace) (cM_same _ _) (by decide) rfl (Nat.le_of_ble_eq_true rfl) (List.forall_mem_cons.mpr ⟨rfl, fun _ h => absurd h List.not_mem_nil⟩) (fun X hD hI => ?_) h
  subst hD hI
  show KO X YX7_trace (cM (k_I X) q) 0 0 (k_Q k_ei X (cM (k_I X) q)) 0 [some (.ref (q 0))] [] σ _
  unfold fX7_trace
  refine k_aload_n (pc := 0) dX7_trace_0 rfl ?_
  refine k_gMX7_trace (pc := 1) kwf_X7_230 rfl dX7_trace_1 ?_
  exact k_ireturn (pc := 4) rfl dX7_trace_4
-- TallTalesModel.fault()I
theorem ckX7_fault : k_Vok yX7_fault cX7_fault 1 (some .int) 0 := ⟨kwk_X7_fault, kwi_X7_fault, kwv_X7_fault, kwn_X7, by decide, by decide +kernel⟩
abbrev rmX7_fault : Room := { frames := 0, cells := 0, slots := 0, locals := 0 }
abbrev YX7_fault : k_Y := (rmX7_fault, cX7_fault, 1, RX7, (some .int))
noncomputable def fX7_fault (σ : k_S) : Option (Int32 × k_S) := some (σ.1 0, σ)
set_option maxRecDepth 100000 in
set_option maxHeartbeats 4000000 in
theorem kX7_fault {D : va_G} {cI : ClassId} {q : Nat → Nat} {σ : k_S} {r : Int32} {τ : k_S} (h : fX7_fault σ = some (r, τ)) : k_Ct k_ei yX7_fault cX7_fault 1 (some .int) rmX7_fault (cM cI q) D cI [.ref (q 0)] σ r τ := by
  refine k_met (Y := YX7_fault) (cM_same _ _) (by decide) rfl (Nat.le_of_ble_eq_true rfl) (List.forall_mem_cons.mpr ⟨rfl, fun _ h => absurd h List.not_mem_nil⟩) (fun X hD hI => ?_) h
  subst hD hI
  show KO X YX7_fault (cM (k_I X) q) 0 0 (k_Q k_ei X (cM (k_I X) q)) 0 [some (.ref (q 0))] [] σ _
  unfold fX7_fault
  refine k_aload_n (pc := 0) dX7_fault_0 rfl ?_
  refine k_gMX7_fault (pc := 1) kwf_X7_67 rfl dX7_fault_1 ?_
  exact k_ireturn (pc := 4) rfl dX7_fault_4
-- TallTalesModel.many(I)I
theorem ckX7_many : k_Vok yX7_many cX7_many 2 (some .int) 1 := ⟨kwk_X7_many, kwi_X7_many, kwv_X7_many, kwn_X7, by decide, by decide +kernel⟩
abbrev rmX7_many : Room := { frames := 0, cells := 0, slots := 0, locals := 0 }
abbrev YX7_many : k_Y := (rmX7_many, cX7_many, 2, RX7, (some .int))
noncomputable def fX7_many (σ : k_S) (x1 : Int32) : Option (Int32 × k_S) := (if x1 = 0 then some (σ.1 2, σ) else (if x1 = (nI 1) then some (σ.1 3, σ) else (if x1 = (nI 2) then some (σ.1 8, σ) else (if x1 = (nI 3) then some (σ.1 4, σ) else some ((k_ng 2), σ)))))
set_option maxRecDepth 100000 in
set_option maxHeartbeats 4000000 in
theorem kX7_many {D : va_G} {cI : ClassId} {q : Nat → Nat} {σ : k_S} {x1 : Int32} {r : Int32} {τ : k_S} (h : fX7_many σ x1 = some (r, τ)) : k_Ct k_ei yX7_many cX7_many 2 (some .int) rmX7_many (cM cI q) D cI [.ref (q 0), .int x1] σ r τ := by
  refine k_met (Y := YX7_many) (cM_same _ _) (by decide) rfl (Nat.le_of_ble_eq_true rfl) (List.forall_mem_cons.mpr ⟨rfl, List.forall_mem_cons.mpr ⟨rfl, fun _ h => absurd h List.not_mem_nil⟩⟩) (fun X hD hI => ?_) h
  subst hD hI
  show KO X YX7_many (cM (k_I X) q) 0 0 (k_Q k_ei X (cM (k_I X) q)) 0 [some (.ref (q 0)), some (.int x1)] [] σ _
  unfold fX7_many
  refine k_iload_n (pc := 0) dX7_many_0 rfl ?_
  refine k_if_ne (pc := 1) 11 dX7_many_1 (by decide) ?_ ?_
  · refine k_iload_n (pc := 11) dX7_many_11 rfl ?_
    refine k_iconst (pc := 12) (v := (nI 1)) dX7_many_12 (by decide) ?_
    refine k_icmp_ne (pc := 13) 23 dX7_many_13 (by decide) ?_ ?_
    · refine k_iload_n (pc := 23) dX7_many_23 rfl ?_
      refine k_iconst (pc := 24) (v := (nI 2)) dX7_many_24 (by decide) ?_
      refine k_icmp_ne (pc := 25) 35 dX7_many_25 (by decide) ?_ ?_
      · refine k_iload_n (pc := 35) dX7_many_35 rfl ?_
        refine k_iconst (pc := 36) (v := (nI 3)) dX7_many_36 (by decide) ?_
        refine k_icmp_ne (pc := 37) 47 dX7_many_37 (by decide) ?_ ?_
        · refine k_bipush (pc := 47) (v := (k_ng 2)) dX7_many_47 (by decide) ?_
          exact k_ireturn (pc := 49) rfl dX7_many_49
        · refine k_aload_n (pc := 40) dX7_many_40 rfl ?_
          refine k_gMX7_memory (pc := 41) kwf_X7_110 rfl dX7_many_41 ?_
          refine k_goto (pc := 44) 49 dX7_many_44 (by decide) ?_
          exact k_ireturn (pc := 49) rfl dX7_many_49
      · refine k_aload_n (pc := 28) dX7_many_28 rfl ?_
        refine k_gMX7_over (pc := 29) kwf_X7_113 rfl dX7_many_29 ?_
        refine k_goto (pc := 32) 49 dX7_many_32 (by decide) ?_
        exact k_ireturn (pc := 49) rfl dX7_many_49
    · refine k_aload_n (pc := 16) dX7_many_16 rfl ?_
      refine k_gMX7_tales (pc := 17) kwf_X7_80 rfl dX7_many_17 ?_
      refine k_goto (pc := 20) 49 dX7_many_20 (by decide) ?_
      exact k_ireturn (pc := 49) rfl dX7_many_49
  · refine k_aload_n (pc := 4) dX7_many_4 rfl ?_
    refine k_gMX7_guests (pc := 5) kwf_X7_77 rfl dX7_many_5 ?_
    refine k_goto (pc := 8) 49 dX7_many_8 (by decide) ?_
    exact k_ireturn (pc := 49) rfl dX7_many_49
