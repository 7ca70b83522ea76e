/-! ===== the law: its body as a pure function over both worlds (by program: wip/gen/law.py); the middle is the kit's skeleton ===== -/
/-! THE CLAIM OUT OF ONE WALK OF THE LAW'S BODY. Your part is whole_start (and what it stands on); all else here is the same for every law, but numbers. -/
def R_law : String := "TallTalesLaw"
def lw_P (b : Addr) (xs : List Int32) (args : Array Value) (s : State) : Prop := args = #[.ref b] ∧ s.IntsAt b xs ∧ xs.length ≤ 3584 ∧ (Jvm.Cond.and given_1 narrow_1).before args s = true
def lw_Q (_ : Array Value) (s : State) (o : Outcome) (t : State) : Prop := o = .returned (some (.int 1)) ∧ Framed s o t [] 600000 7302250
def lw_Z (below : List Frame) (a : Array Value) (s : State) : State → Prop := fun t => ∃ o, t.status = .running ∧ Ended t below o ∧ lw_Q a s o t
/-- the law's own end, with 1 on the stack, nothing written that was there before, its room as the claim has it -/
theorem lw_ret {p : Program} {l : Launch} {e : Env} {s : State} {m : MethodId} {below : List Frame} {meth : Method} {c : Code} {b : Nat} (hx : p.tables.exec = Jvm.exec) (hb : c.code = code) (hr : meth.sig.returnType = ret) (hlocks : meth.locks = false) {pc : Nat} {H : Heap} {ls : Array Slot} (hdg : decode code pc = .ok (.ireturn, 1)) : W p l e room_1 s m #[Value.ref b] below meth c H [] 600000 7302250 (lw_Z below #[Value.ref b] s) (F0 m pc ls [.int 1]) := by
  intro T hT X
  obtain ⟨fs, hret, hrun, hended, hW, hframe⟩ := X.leave (v := some (.int 1)) (hlocks := hlocks) (fun h => by rw [hr] at h; cases h)
  have hmeth' : T.vm.method? m = some meth := X.method'
  refine ⟨T.setFrames fs, ?_, .returned (some (.int 1)), hrun, hended, rfl, ⟨_, rfl⟩, hW, hframe⟩
  jvm_step X.here [X.here.top, hx, hb, hdg, hmeth', hr, ret, narrow_b1]
  (try refine ⟨rfl, ?_⟩); (try refine ⟨rfl, ?_⟩)
  first | (intro acts; rw [hret _ acts rfl rfl rfl]) | rw [hret _ _ rfl rfl rfl]
  exact Steps.refl _
/-- what holds at the law's entry: the machine, the code, the tables' words (any of lw_tbl by 'hts w (by decide +kernel)'), the script of L ints xs at the cell b, what the Statement gives of the start (any of its parts by flat_of_before) -/
def lw_At (p : Program) (s : State) (m : MethodId) (meth : Method) (c : Code) (b L : Nat) (xs : Nat → Int32) : Prop :=
  p.tables.exec = Jvm.exec ∧ c.code = code ∧ meth.sig.returnType = ret ∧ c.maxLocals = 4 ∧ s.vm.findClass R_law = some m.cls ∧ (∀ w ∈ lw_tbl, w.before #[Value.ref b] s = true) ∧ va_X b L xs s s.heap ∧ b < s.heap.size ∧ meth.locks = false ∧ (Jvm.Cond.and given_1 narrow_1).before #[Value.ref b] s = true

abbrev YL : k_Y := (room_1, cL_law, 4, RL, ret)
def cL (cI : ClassId) (q : Nat → Nat) (s : k_S × k_S) : va_W := cT cI q s.1 ++ cM cI (fun k => q (30 + k)) s.2
theorem cL_same (cI : ClassId) (q : Nat → Nat) : k_same (cL cI q) := k_same_of fun _ _ => rfl
theorem k_subD {A : Nat → Prop} {ws ws' : va_W} (hD : va_D A ws) (o : Nat) (h : ∀ (k : Nat) (x : Nat × va_E), ws'[k]? = some x → ws[o + k]? = some x) : va_D A ws' := by
  refine ⟨fun i j x y hi hj hxy => ?_, fun k x hk => hD.2 _ _ (h k x hk)⟩
  have := hD.1 _ _ x y (h i x hi) (h j y hj) hxy
  omega
theorem k_InT (cI : ClassId) (q : Nat → Nat) (s : k_S × k_S) : k_In (cL cI q) s (cT cI q) s.1 (fun σ' => (σ', s.2)) := by
  have hl : ∀ τ0 (k : Nat) (x : Nat × va_E), (cT cI q τ0)[k]? = some x → (cL cI q (τ0, s.2))[k]? = some x := fun τ0 k x hk => by
    show (cT cI q τ0 ++ _)[k]? = _
    rw [List.getElem?_append_left (List.getElem?_eq_some_iff.mp hk).1]
    exact hk
  refine ⟨cT_same _ _, fun k x hk => ⟨k, hl s.1 k x hk⟩, fun A hD τ0 => k_subD (hD (τ0, s.2)) 0 (fun k x hk => by rw [Nat.zero_add]; exact hl τ0 k x hk), fun τ0 k x hk => ?_⟩
  by_cases hlt : k < 30
  · have hk' : (cT cI q τ0 ++ cM cI (fun k => q (30 + k)) s.2)[k]? = some x := hk
    rw [List.getElem?_append_left (show k < (cT cI q τ0).length from hlt)] at hk'
    exact Or.inl ⟨k, hk'⟩
  · have hk' : (cT cI q τ0 ++ cM cI (fun k => q (30 + k)) s.2)[k]? = some x := hk
    have hs : (cL cI q s)[k]? = some x := by
      show (cT cI q s.1 ++ _)[k]? = _
      rw [List.getElem?_append_right (show (cT cI q τ0).length ≤ k from Nat.le_of_not_lt hlt)] at hk'
      rw [List.getElem?_append_right (show (cT cI q s.1).length ≤ k from Nat.le_of_not_lt hlt)]
      exact hk'
    refine Or.inr ⟨⟨k, hs⟩, fun A hD i q0 hi hq => ?_⟩
    have hi' := hl s.1 i q0 hi
    have := hD.1 i k q0 x hi' hs hq
    have : i < 30 := (List.getElem?_eq_some_iff.mp hi).1
    omega
theorem k_InM (cI : ClassId) (q : Nat → Nat) (s : k_S × k_S) : k_In (cL cI q) s (cM cI (fun k => q (30 + k))) s.2 (fun τ' => (s.1, τ')) := by
  have hl : ∀ τ0 (k : Nat) (x : Nat × va_E), (cM cI (fun k => q (30 + k)) τ0)[k]? = some x → (cL cI q (s.1, τ0))[30 + k]? = some x := fun τ0 k x hk => by
    show (cT cI q s.1 ++ _)[30 + k]? = _
    rw [List.getElem?_append_right (show (cT cI q s.1).length ≤ 30 + k from Nat.le_add_right 30 k)]
    rw [show 30 + k - (cT cI q s.1).length = k from Nat.add_sub_cancel_left 30 k]
    exact hk
  refine ⟨cM_same _ _, fun k x hk => ⟨30 + k, hl s.2 k x hk⟩, fun A hD τ0 => k_subD (hD (s.1, τ0)) 30 (hl τ0), fun τ0 k x hk => ?_⟩
  by_cases hlt : k < 30
  · have hk' : (cT cI q s.1 ++ cM cI (fun k => q (30 + k)) τ0)[k]? = some x := hk
    rw [List.getElem?_append_left (show k < (cT cI q s.1).length from hlt)] at hk'
    have hs : (cL cI q s)[k]? = some x := by
      show (cT cI q s.1 ++ _)[k]? = _
      rw [List.getElem?_append_left (show k < (cT cI q s.1).length from hlt)]
      exact hk'
    refine Or.inr ⟨⟨k, hs⟩, fun A hD i q0 hi hq => ?_⟩
    have := hD.1 _ k q0 x (hl s.2 i q0 hi) hs hq
    omega
  · have hk' : (cT cI q s.1 ++ cM cI (fun k => q (30 + k)) τ0)[k]? = some x := hk
    rw [List.getElem?_append_right (show (cT cI q s.1).length ≤ k from Nat.le_of_not_lt hlt)] at hk'
    exact Or.inl ⟨_, hk'⟩
section KRL
variable {S Rt : Type} {X : k_C} {Y : k_Y} {cw : S → va_W} {kc ks : Nat} {Q : Rt → S → State → Prop} {pc : Nat} {L : List (Option Value)} {st : List Value} {σ : S} {o : Option (Rt × S)}
theorem k_sld {b Ls : Nat} {xs : Nat → Int32} {i : Int32} (hX : va_X b Ls xs (k_s X) (k_s X).heap) (hbl : b < (k_s X).heap.size) (hbA : ¬ k_A X b) (hd : decode Y.2.1 pc = .ok (.iaload, 1)) (kk : KO X Y cw kc ks Q (pc + 1) L (.int (xs i.toNatClampNeg) :: st) σ o) : KO X Y cw kc ks Q pc L (.int i :: .ref b :: st) σ (k_gd i Ls o) := by
  intro g r σ' ho H locs ls hP hS hL
  by_cases hi : i < 0 ∨ Ls ≤ i.toNatClampNeg
  · rw [k_gd, if_pos hi] at ho; cases ho
  · rw [k_gd, if_neg hi] at ho
    exact va_sld g.1 g.2.1 hX hbl hbA hS hi hd (kk g r σ' ho H locs ls hP hS hL)
theorem k_slen {b Ls : Nat} {xs : Nat → Int32} (hX : va_X b Ls xs (k_s X) (k_s X).heap) (hbl : b < (k_s X).heap.size) (hbA : ¬ k_A X b) (hd : decode Y.2.1 pc = .ok (.arraylength, 1)) (kk : KO X Y cw kc ks Q (pc + 1) L (.int (nI Ls) :: st) σ o) : KO X Y cw kc ks Q pc L (.ref b :: st) σ o :=
  kk.lift fun g H locs ls _ _ hS _ k => va_slen g.1 g.2.1 hX hbl hbA hS hd k
end KRL
abbrev k_QL (X : k_C) : Int32 → k_S × k_S → State → Prop := fun _ _ => lw_Z (k_b X) (k_a X) (k_s X)
/-- what the law's walk knows of its start -/
def k_At (X : k_C) (b Ls : Nat) (xs : Nat → Int32) : Prop := va_X b Ls xs (k_s X) (k_s X).heap ∧ b < (k_s X).heap.size ∧ ¬ k_A X b ∧ k_R X = room_1 ∧ k_a X = #[.ref b] ∧ ∀ q, k_A X q → (k_s X).heap.size ≤ q
theorem k_lret {X : k_C} {cw : k_S × k_S → va_W} {kc ks b Ls : Nat} {xs : Nat → Int32} {pc : Nat} {L : List (Option Value)} {s : k_S × k_S} (hX : k_At X b Ls xs) (hk : kc ≤ 600000 ∧ ks ≤ 7302250) (hd : decode cL_law pc = .ok (.ireturn, 1)) : KO X YL cw kc ks (k_QL X) pc L [.int 1] s (some (1, s)) := by
  intro g r σ' ho H locs ls hP hS hL
  obtain ⟨-, -, -, hR, ha, hA⟩ := hX
  unfold k_W
  rw [hR, ha]
  show W _ _ _ _ _ _ _ _ _ _ _ _ _ _ (lw_Z (k_b X) (k_a X) (k_s X)) _
  rw [ha]
  refine va_forget (fun q hq => hA _ (hS.2.2 q hq)) ?_
  refine W.widen hk.1 hk.2 ?_
  exact lw_ret g.1 g.2.1 g.2.2.2.2.2.2.2.2.2.2 g.2.2.2.2.2.2.2.2.2.1 hd
theorem k_LTi0 {X : k_C} {q : Nat → Nat} {kc ks pc : Nat} {L : List (Option Value)} {st : List Value} {s : k_S × k_S} {y : MethodName} {bytes : ByteArray} {maxL : Nat} {ret0 : Option FieldType} {index : Nat} {rm : Room} {f : Option (Int32 × k_S)} {kg : Int32 → k_S × k_S → Option (Int32 × (k_S × k_S))} (hok : k_Vok y bytes maxL ret0 0) (hc : y.cls = RX6) (hm : Cond.methodLink RL index y ∈ k_ws) (hrm : rm.cells = 0 ∧ rm.slots = 0) (hR : rm.frames + 1 ≤ 2048 ∧ 8 + (maxL + 11) + rm.locals ≤ 84000) (hk : kc ≤ 600000 ∧ ks ≤ 7302250) (hcat : (st.map fun v => v.category).sum ≤ 8) (hd : decode cL_law pc = .ok (.invokevirtual index, 3)) (hM : ∀ r τ, f = some (r, τ) → k_Ct k_ei y bytes maxL ret0 rm (cT (k_I X) q) (k_D X) (k_I X) (.ref (q 0) :: []) s.1 r τ) (kk : ∀ r s2, KO X YL (cL (k_I X) q) kc ks (k_QL X) (pc + 3) L (.int r :: st) s2 (kg r s2)) : KO X YL (cL (k_I X) q) kc ks (k_QL X) pc L (.ref (q 0) :: st) s (k_ob f fun r τ => k_bn (τ, s.2) (kg r)) := k_Vi0 (Y := YL) (k_InT (k_I X) q s) hok hm ⟨0, 6, _, _, rfl, rfl, hc.symm⟩ hrm hR hk hcat hd hM (fun r τ => kk r (τ, s.2))
theorem k_LMi0 {X : k_C} {q : Nat → Nat} {kc ks pc : Nat} {L : List (Option Value)} {st : List Value} {s : k_S × k_S} {y : MethodName} {bytes : ByteArray} {maxL : Nat} {ret0 : Option FieldType} {index : Nat} {rm : Room} {f : Option (Int32 × k_S)} {kg : Int32 → k_S × k_S → Option (Int32 × (k_S × k_S))} (hok : k_Vok y bytes maxL ret0 0) (hc : y.cls = RX7) (hm : Cond.methodLink RL index y ∈ k_ws) (hrm : rm.cells = 0 ∧ rm.slots = 0) (hR : rm.frames + 1 ≤ 2048 ∧ 8 + (maxL + 11) + rm.locals ≤ 84000) (hk : kc ≤ 600000 ∧ ks ≤ 7302250) (hcat : (st.map fun v => v.category).sum ≤ 8) (hd : decode cL_law pc = .ok (.invokevirtual index, 3)) (hM : ∀ r τ, f = some (r, τ) → k_Ct k_ei y bytes maxL ret0 rm (cM (k_I X) (fun k => q (30 + k))) (k_D X) (k_I X) (.ref (q 30) :: []) s.2 r τ) (kk : ∀ r s2, KO X YL (cL (k_I X) q) kc ks (k_QL X) (pc + 3) L (.int r :: st) s2 (kg r s2)) : KO X YL (cL (k_I X) q) kc ks (k_QL X) pc L (.ref (q 30) :: st) s (k_ob f fun r τ => k_bn (s.1, τ) (kg r)) := k_Vi0 (Y := YL) (k_InM (k_I X) q s) hok hm ⟨30, 7, _, _, rfl, rfl, hc.symm⟩ hrm hR hk hcat hd hM (fun r τ => kk r (s.1, τ))
theorem k_LTi1 {X : k_C} {q : Nat → Nat} {kc ks pc : Nat} {L : List (Option Value)} {st : List Value} {s : k_S × k_S} {y : MethodName} {bytes : ByteArray} {maxL : Nat} {ret0 : Option FieldType} {index : Nat} {rm : Room} {v1 : Value} {f : Option (Int32 × k_S)} {kg : Int32 → k_S × k_S → Option (Int32 × (k_S × k_S))} (hok : k_Vok y bytes maxL ret0 1) (hc : y.cls = RX6) (hm : Cond.methodLink RL index y ∈ k_ws) (hrm : rm.cells = 0 ∧ rm.slots = 0) (hR : rm.frames + 1 ≤ 2048 ∧ 8 + (maxL + 11) + rm.locals ≤ 84000) (hk : kc ≤ 600000 ∧ ks ≤ 7302250) (hcat : (st.map fun v => v.category).sum ≤ 8) (hd : decode cL_law pc = .ok (.invokevirtual index, 3)) (hM : ∀ r τ, f = some (r, τ) → k_Ct k_ei y bytes maxL ret0 rm (cT (k_I X) q) (k_D X) (k_I X) (.ref (q 0) :: [v1]) s.1 r τ) (kk : ∀ r s2, KO X YL (cL (k_I X) q) kc ks (k_QL X) (pc + 3) L (.int r :: st) s2 (kg r s2)) : KO X YL (cL (k_I X) q) kc ks (k_QL X) pc L (v1 :: .ref (q 0) :: st) s (k_ob f fun r τ => k_bn (τ, s.2) (kg r)) := k_Vi1 (Y := YL) (k_InT (k_I X) q s) hok hm ⟨0, 6, _, _, rfl, rfl, hc.symm⟩ hrm hR hk hcat hd hM (fun r τ => kk r (τ, s.2))
theorem k_LMi1 {X : k_C} {q : Nat → Nat} {kc ks pc : Nat} {L : List (Option Value)} {st : List Value} {s : k_S × k_S} {y : MethodName} {bytes : ByteArray} {maxL : Nat} {ret0 : Option FieldType} {index : Nat} {rm : Room} {v1 : Value} {f : Option (Int32 × k_S)} {kg : Int32 → k_S × k_S → Option (Int32 × (k_S × k_S))} (hok : k_Vok y bytes maxL ret0 1) (hc : y.cls = RX7) (hm : Cond.methodLink RL index y ∈ k_ws) (hrm : rm.cells = 0 ∧ rm.slots = 0) (hR : rm.frames + 1 ≤ 2048 ∧ 8 + (maxL + 11) + rm.locals ≤ 84000) (hk : kc ≤ 600000 ∧ ks ≤ 7302250) (hcat : (st.map fun v => v.category).sum ≤ 8) (hd : decode cL_law pc = .ok (.invokevirtual index, 3)) (hM : ∀ r τ, f = some (r, τ) → k_Ct k_ei y bytes maxL ret0 rm (cM (k_I X) (fun k => q (30 + k))) (k_D X) (k_I X) (.ref (q 30) :: [v1]) s.2 r τ) (kk : ∀ r s2, KO X YL (cL (k_I X) q) kc ks (k_QL X) (pc + 3) L (.int r :: st) s2 (kg r s2)) : KO X YL (cL (k_I X) q) kc ks (k_QL X) pc L (v1 :: .ref (q 30) :: st) s (k_ob f fun r τ => k_bn (s.1, τ) (kg r)) := k_Vi1 (Y := YL) (k_InM (k_I X) q s) hok hm ⟨30, 7, _, _, rfl, rfl, hc.symm⟩ hrm hR hk hcat hd hM (fun r τ => kk r (s.1, τ))
theorem k_LTi2 {X : k_C} {q : Nat → Nat} {kc ks pc : Nat} {L : List (Option Value)} {st : List Value} {s : k_S × k_S} {y : MethodName} {bytes : ByteArray} {maxL : Nat} {ret0 : Option FieldType} {index : Nat} {rm : Room} {v1 v2 : Value} {f : Option (Int32 × k_S)} {kg : Int32 → k_S × k_S → Option (Int32 × (k_S × k_S))} (hok : k_Vok y bytes maxL ret0 2) (hc : y.cls = RX6) (hm : Cond.methodLink RL index y ∈ k_ws) (hrm : rm.cells = 0 ∧ rm.slots = 0) (hR : rm.frames + 1 ≤ 2048 ∧ 8 + (maxL + 11) + rm.locals ≤ 84000) (hk : kc ≤ 600000 ∧ ks ≤ 7302250) (hcat : (st.map fun v => v.category).sum ≤ 8) (hd : decode cL_law pc = .ok (.invokevirtual index, 3)) (hM : ∀ r τ, f = some (r, τ) → k_Ct k_ei y bytes maxL ret0 rm (cT (k_I X) q) (k_D X) (k_I X) (.ref (q 0) :: [v1, v2]) s.1 r τ) (kk : ∀ r s2, KO X YL (cL (k_I X) q) kc ks (k_QL X) (pc + 3) L (.int r :: st) s2 (kg r s2)) : KO X YL (cL (k_I X) q) kc ks (k_QL X) pc L (v2 :: v1 :: .ref (q 0) :: st) s (k_ob f fun r τ => k_bn (τ, s.2) (kg r)) := k_Vi2 (Y := YL) (k_InT (k_I X) q s) hok hm ⟨0, 6, _, _, rfl, rfl, hc.symm⟩ hrm hR hk hcat hd hM (fun r τ => kk r (τ, s.2))
theorem k_LMi2 {X : k_C} {q : Nat → Nat} {kc ks pc : Nat} {L : List (Option Value)} {st : List Value} {s : k_S × k_S} {y : MethodName} {bytes : ByteArray} {maxL : Nat} {ret0 : Option FieldType} {index : Nat} {rm : Room} {v1 v2 : Value} {f : Option (Int32 × k_S)} {kg : Int32 → k_S × k_S → Option (Int32 × (k_S × k_S))} (hok : k_Vok y bytes maxL ret0 2) (hc : y.cls = RX7) (hm : Cond.methodLink RL index y ∈ k_ws) (hrm : rm.cells = 0 ∧ rm.slots = 0) (hR : rm.frames + 1 ≤ 2048 ∧ 8 + (maxL + 11) + rm.locals ≤ 84000) (hk : kc ≤ 600000 ∧ ks ≤ 7302250) (hcat : (st.map fun v => v.category).sum ≤ 8) (hd : decode cL_law pc = .ok (.invokevirtual index, 3)) (hM : ∀ r τ, f = some (r, τ) → k_Ct k_ei y bytes maxL ret0 rm (cM (k_I X) (fun k => q (30 + k))) (k_D X) (k_I X) (.ref (q 30) :: [v1, v2]) s.2 r τ) (kk : ∀ r s2, KO X YL (cL (k_I X) q) kc ks (k_QL X) (pc + 3) L (.int r :: st) s2 (kg r s2)) : KO X YL (cL (k_I X) q) kc ks (k_QL X) pc L (v2 :: v1 :: .ref (q 30) :: st) s (k_ob f fun r τ => k_bn (s.1, τ) (kg r)) := k_Vi2 (Y := YL) (k_InM (k_I X) q s) hok hm ⟨30, 7, _, _, rfl, rfl, hc.symm⟩ hrm hR hk hcat hd hM (fun r τ => kk r (s.1, τ))
theorem k_LTi3 {X : k_C} {q : Nat → Nat} {kc ks pc : Nat} {L : List (Option Value)} {st : List Value} {s : k_S × k_S} {y : MethodName} {bytes : ByteArray} {maxL : Nat} {ret0 : Option FieldType} {index : Nat} {rm : Room} {v1 v2 v3 : Value} {f : Option (Int32 × k_S)} {kg : Int32 → k_S × k_S → Option (Int32 × (k_S × k_S))} (hok : k_Vok y bytes maxL ret0 3) (hc : y.cls = RX6) (hm : Cond.methodLink RL index y ∈ k_ws) (hrm : rm.cells = 0 ∧ rm.slots = 0) (hR : rm.frames + 1 ≤ 2048 ∧ 8 + (maxL + 11) + rm.locals ≤ 84000) (hk : kc ≤ 600000 ∧ ks ≤ 7302250) (hcat : (st.map fun v => v.category).sum ≤ 8) (hd : decode cL_law pc = .ok (.invokevirtual index, 3)) (hM : ∀ r τ, f = some (r, τ) → k_Ct k_ei y bytes maxL ret0 rm (cT (k_I X) q) (k_D X) (k_I X) (.ref (q 0) :: [v1, v2, v3]) s.1 r τ) (kk : ∀ r s2, KO X YL (cL (k_I X) q) kc ks (k_QL X) (pc + 3) L (.int r :: st) s2 (kg r s2)) : KO X YL (cL (k_I X) q) kc ks (k_QL X) pc L (v3 :: v2 :: v1 :: .ref (q 0) :: st) s (k_ob f fun r τ => k_bn (τ, s.2) (kg r)) := k_Vi3 (Y := YL) (k_InT (k_I X) q s) hok hm ⟨0, 6, _, _, rfl, rfl, hc.symm⟩ hrm hR hk hcat hd hM (fun r τ => kk r (τ, s.2))
theorem k_LMi3 {X : k_C} {q : Nat → Nat} {kc ks pc : Nat} {L : List (Option Value)} {st : List Value} {s : k_S × k_S} {y : MethodName} {bytes : ByteArray} {maxL : Nat} {ret0 : Option FieldType} {index : Nat} {rm : Room} {v1 v2 v3 : Value} {f : Option (Int32 × k_S)} {kg : Int32 → k_S × k_S → Option (Int32 × (k_S × k_S))} (hok : k_Vok y bytes maxL ret0 3) (hc : y.cls = RX7) (hm : Cond.methodLink RL index y ∈ k_ws) (hrm : rm.cells = 0 ∧ rm.slots = 0) (hR : rm.frames + 1 ≤ 2048 ∧ 8 + (maxL + 11) + rm.locals ≤ 84000) (hk : kc ≤ 600000 ∧ ks ≤ 7302250) (hcat : (st.map fun v => v.category).sum ≤ 8) (hd : decode cL_law pc = .ok (.invokevirtual index, 3)) (hM : ∀ r τ, f = some (r, τ) → k_Ct k_ei y bytes maxL ret0 rm (cM (k_I X) (fun k => q (30 + k))) (k_D X) (k_I X) (.ref (q 30) :: [v1, v2, v3]) s.2 r τ) (kk : ∀ r s2, KO X YL (cL (k_I X) q) kc ks (k_QL X) (pc + 3) L (.int r :: st) s2 (kg r s2)) : KO X YL (cL (k_I X) q) kc ks (k_QL X) pc L (v3 :: v2 :: v1 :: .ref (q 30) :: st) s (k_ob f fun r τ => k_bn (s.1, τ) (kg r)) := k_Vi3 (Y := YL) (k_InM (k_I X) q s) hok hm ⟨30, 7, _, _, rfl, rfl, hc.symm⟩ hrm hR hk hcat hd hM (fun r τ => kk r (s.1, τ))
theorem k_LTl3 {X : k_C} {q : Nat → Nat} {kc ks pc : Nat} {L : List (Option Value)} {st : List Value} {s : k_S × k_S} {y : MethodName} {bytes : ByteArray} {maxL : Nat} {ret0 : Option FieldType} {index : Nat} {rm : Room} {v1 v2 v3 : Value} {f : Option (Int64 × k_S)} {kg : Int64 → k_S × k_S → Option (Int32 × (k_S × k_S))} (hok : k_Vok y bytes maxL ret0 3) (hc : y.cls = RX6) (hm : Cond.methodLink RL index y ∈ k_ws) (hrm : rm.cells = 0 ∧ rm.slots = 0) (hR : rm.frames + 1 ≤ 2048 ∧ 8 + (maxL + 11) + rm.locals ≤ 84000) (hk : kc ≤ 600000 ∧ ks ≤ 7302250) (hcat : (st.map fun v => v.category).sum ≤ 8) (hd : decode cL_law pc = .ok (.invokevirtual index, 3)) (hM : ∀ r τ, f = some (r, τ) → k_Ct k_el y bytes maxL ret0 rm (cT (k_I X) q) (k_D X) (k_I X) (.ref (q 0) :: [v1, v2, v3]) s.1 r τ) (kk : ∀ r s2, KO X YL (cL (k_I X) q) kc ks (k_QL X) (pc + 3) L (.long r :: st) s2 (kg r s2)) : KO X YL (cL (k_I X) q) kc ks (k_QL X) pc L (v3 :: v2 :: v1 :: .ref (q 0) :: st) s (k_ob f fun r τ => k_bn (τ, s.2) (kg r)) := k_Vl3 (Y := YL) (k_InT (k_I X) q s) hok hm ⟨0, 6, _, _, rfl, rfl, hc.symm⟩ hrm hR hk hcat hd hM (fun r τ => kk r (τ, s.2))
theorem k_LMl3 {X : k_C} {q : Nat → Nat} {kc ks pc : Nat} {L : List (Option Value)} {st : List Value} {s : k_S × k_S} {y : MethodName} {bytes : ByteArray} {maxL : Nat} {ret0 : Option FieldType} {index : Nat} {rm : Room} {v1 v2 v3 : Value} {f : Option (Int64 × k_S)} {kg : Int64 → k_S × k_S → Option (Int32 × (k_S × k_S))} (hok : k_Vok y bytes maxL ret0 3) (hc : y.cls = RX7) (hm : Cond.methodLink RL index y ∈ k_ws) (hrm : rm.cells = 0 ∧ rm.slots = 0) (hR : rm.frames + 1 ≤ 2048 ∧ 8 + (maxL + 11) + rm.locals ≤ 84000) (hk : kc ≤ 600000 ∧ ks ≤ 7302250) (hcat : (st.map fun v => v.category).sum ≤ 8) (hd : decode cL_law pc = .ok (.invokevirtual index, 3)) (hM : ∀ r τ, f = some (r, τ) → k_Ct k_el y bytes maxL ret0 rm (cM (k_I X) (fun k => q (30 + k))) (k_D X) (k_I X) (.ref (q 30) :: [v1, v2, v3]) s.2 r τ) (kk : ∀ r s2, KO X YL (cL (k_I X) q) kc ks (k_QL X) (pc + 3) L (.long r :: st) s2 (kg r s2)) : KO X YL (cL (k_I X) q) kc ks (k_QL X) pc L (v3 :: v2 :: v1 :: .ref (q 30) :: st) s (k_ob f fun r τ => k_bn (s.1, τ) (kg r)) := k_Vl3 (Y := YL) (k_InM (k_I X) q s) hok hm ⟨30, 7, _, _, rfl, rfl, hc.symm⟩ hrm hR hk hcat hd hM (fun r τ => kk r (s.1, τ))
theorem k_LTi4 {X : k_C} {q : Nat → Nat} {kc ks pc : Nat} {L : List (Option Value)} {st : List Value} {s : k_S × k_S} {y : MethodName} {bytes : ByteArray} {maxL : Nat} {ret0 : Option FieldType} {index : Nat} {rm : Room} {v1 v2 v3 v4 : Value} {f : Option (Int32 × k_S)} {kg : Int32 → k_S × k_S → Option (Int32 × (k_S × k_S))} (hok : k_Vok y bytes maxL ret0 4) (hc : y.cls = RX6) (hm : Cond.methodLink RL index y ∈ k_ws) (hrm : rm.cells = 0 ∧ rm.slots = 0) (hR : rm.frames + 1 ≤ 2048 ∧ 8 + (maxL + 11) + rm.locals ≤ 84000) (hk : kc ≤ 600000 ∧ ks ≤ 7302250) (hcat : (st.map fun v => v.category).sum ≤ 8) (hd : decode cL_law pc = .ok (.invokevirtual index, 3)) (hM : ∀ r τ, f = some (r, τ) → k_Ct k_ei y bytes maxL ret0 rm (cT (k_I X) q) (k_D X) (k_I X) (.ref (q 0) :: [v1, v2, v3, v4]) s.1 r τ) (kk : ∀ r s2, KO X YL (cL (k_I X) q) kc ks (k_QL X) (pc + 3) L (.int r :: st) s2 (kg r s2)) : KO X YL (cL (k_I X) q) kc ks (k_QL X) pc L (v4 :: v3 :: v2 :: v1 :: .ref (q 0) :: st) s (k_ob f fun r τ => k_bn (τ, s.2) (kg r)) := k_Vi4 (Y := YL) (k_InT (k_I X) q s) hok hm ⟨0, 6, _, _, rfl, rfl, hc.symm⟩ hrm hR hk hcat hd hM (fun r τ => kk r (τ, s.2))
theorem k_LMi4 {X : k_C} {q : Nat → Nat} {kc ks pc : Nat} {L : List (Option Value)} {st : List Value} {s : k_S × k_S} {y : MethodName} {bytes : ByteArray} {maxL : Nat} {ret0 : Option FieldType} {index : Nat} {rm : Room} {v1 v2 v3 v4 : Value} {f : Option (Int32 × k_S)} {kg : Int32 → k_S × k_S → Option (Int32 × (k_S × k_S))} (hok : k_Vok y bytes maxL ret0 4) (hc : y.cls = RX7) (hm : Cond.methodLink RL index y ∈ k_ws) (hrm : rm.cells = 0 ∧ rm.slots = 0) (hR : rm.frames + 1 ≤ 2048 ∧ 8 + (maxL + 11) + rm.locals ≤ 84000) (hk : kc ≤ 600000 ∧ ks ≤ 7302250) (hcat : (st.map fun v => v.category).sum ≤ 8) (hd : decode cL_law pc = .ok (.invokevirtual index, 3)) (hM : ∀ r τ, f = some (r, τ) → k_Ct k_ei y bytes maxL ret0 rm (cM (k_I X) (fun k => q (30 + k))) (k_D X) (k_I X) (.ref (q 30) :: [v1, v2, v3, v4]) s.2 r τ) (kk : ∀ r s2, KO X YL (cL (k_I X) q) kc ks (k_QL X) (pc + 3) L (.int r :: st) s2 (kg r s2)) : KO X YL (cL (k_I X) q) kc ks (k_QL X) pc L (v4 :: v3 :: v2 :: v1 :: .ref (q 30) :: st) s (k_ob f fun r τ => k_bn (s.1, τ) (kg r)) := k_Vi4 (Y := YL) (k_InM (k_I X) q s) hok hm ⟨30, 7, _, _, rfl, rfl, hc.symm⟩ hrm hR hk hcat hd hM (fun r τ => kk r (s.1, τ))
theorem k_LTi5 {X : k_C} {q : Nat → Nat} {kc ks pc : Nat} {L : List (Option Value)} {st : List Value} {s : k_S × k_S} {y : MethodName} {bytes : ByteArray} {maxL : Nat} {ret0 : Option FieldType} {index : Nat} {rm : Room} {v1 v2 v3 v4 v5 : Value} {f : Option (Int32 × k_S)} {kg : Int32 → k_S × k_S → Option (Int32 × (k_S × k_S))} (hok : k_Vok y bytes maxL ret0 5) (hc : y.cls = RX6) (hm : Cond.methodLink RL index y ∈ k_ws) (hrm : rm.cells = 0 ∧ rm.slots = 0) (hR : rm.frames + 1 ≤ 2048 ∧ 8 + (maxL + 11) + rm.locals ≤ 84000) (hk : kc ≤ 600000 ∧ ks ≤ 7302250) (hcat : (st.map fun v => v.category).sum ≤ 8) (hd : decode cL_law pc = .ok (.invokevirtual index, 3)) (hM : ∀ r τ, f = some (r, τ) → k_Ct k_ei y bytes maxL ret0 rm (cT (k_I X) q) (k_D X) (k_I X) (.ref (q 0) :: [v1, v2, v3, v4, v5]) s.1 r τ) (kk : ∀ r s2, KO X YL (cL (k_I X) q) kc ks (k_QL X) (pc + 3) L (.int r :: st) s2 (kg r s2)) : KO X YL (cL (k_I X) q) kc ks (k_QL X) pc L (v5 :: v4 :: v3 :: v2 :: v1 :: .ref (q 0) :: st) s (k_ob f fun r τ => k_bn (τ, s.2) (kg r)) := k_Vi5 (Y := YL) (k_InT (k_I X) q s) hok hm ⟨0, 6, _, _, rfl, rfl, hc.symm⟩ hrm hR hk hcat hd hM (fun r τ => kk r (τ, s.2))
theorem k_LMi5 {X : k_C} {q : Nat → Nat} {kc ks pc : Nat} {L : List (Option Value)} {st : List Value} {s : k_S × k_S} {y : MethodName} {bytes : ByteArray} {maxL : Nat} {ret0 : Option FieldType} {index : Nat} {rm : Room} {v1 v2 v3 v4 v5 : Value} {f : Option (Int32 × k_S)} {kg : Int32 → k_S × k_S → Option (Int32 × (k_S × k_S))} (hok : k_Vok y bytes maxL ret0 5) (hc : y.cls = RX7) (hm : Cond.methodLink RL index y ∈ k_ws) (hrm : rm.cells = 0 ∧ rm.slots = 0) (hR : rm.frames + 1 ≤ 2048 ∧ 8 + (maxL + 11) + rm.locals ≤ 84000) (hk : kc ≤ 600000 ∧ ks ≤ 7302250) (hcat : (st.map fun v => v.category).sum ≤ 8) (hd : decode cL_law pc = .ok (.invokevirtual index, 3)) (hM : ∀ r τ, f = some (r, τ) → k_Ct k_ei y bytes maxL ret0 rm (cM (k_I X) (fun k => q (30 + k))) (k_D X) (k_I X) (.ref (q 30) :: [v1, v2, v3, v4, v5]) s.2 r τ) (kk : ∀ r s2, KO X YL (cL (k_I X) q) kc ks (k_QL X) (pc + 3) L (.int r :: st) s2 (kg r s2)) : KO X YL (cL (k_I X) q) kc ks (k_QL X) pc L (v5 :: v4 :: v3 :: v2 :: v1 :: .ref (q 30) :: st) s (k_ob f fun r τ => k_bn (s.1, τ) (kg r)) := k_Vi5 (Y := YL) (k_InM (k_I X) q s) hok hm ⟨30, 7, _, _, rfl, rfl, hc.symm⟩ hrm hR hk hcat hd hM (fun r τ => kk r (s.1, τ))
theorem k_LTi6 {X : k_C} {q : Nat → Nat} {kc ks pc : Nat} {L : List (Option Value)} {st : List Value} {s : k_S × k_S} {y : MethodName} {bytes : ByteArray} {maxL : Nat} {ret0 : Option FieldType} {index : Nat} {rm : Room} {v1 v2 v3 v4 v5 v6 : Value} {f : Option (Int32 × k_S)} {kg : Int32 → k_S × k_S → Option (Int32 × (k_S × k_S))} (hok : k_Vok y bytes maxL ret0 6) (hc : y.cls = RX6) (hm : Cond.methodLink RL index y ∈ k_ws) (hrm : rm.cells = 0 ∧ rm.slots = 0) (hR : rm.frames + 1 ≤ 2048 ∧ 8 + (maxL + 11) + rm.locals ≤ 84000) (hk : kc ≤ 600000 ∧ ks ≤ 7302250) (hcat : (st.map fun v => v.category).sum ≤ 8) (hd : decode cL_law pc = .ok (.invokevirtual index, 3)) (hM : ∀ r τ, f = some (r, τ) → k_Ct k_ei y bytes maxL ret0 rm (cT (k_I X) q) (k_D X) (k_I X) (.ref (q 0) :: [v1, v2, v3, v4, v5, v6]) s.1 r τ) (kk : ∀ r s2, KO X YL (cL (k_I X) q) kc ks (k_QL X) (pc + 3) L (.int r :: st) s2 (kg r s2)) : KO X YL (cL (k_I X) q) kc ks (k_QL X) pc L (v6 :: v5 :: v4 :: v3 :: v2 :: v1 :: .ref (q 0) :: st) s (k_ob f fun r τ => k_bn (τ, s.2) (kg r)) := k_Vi6 (Y := YL) (k_InT (k_I X) q s) hok hm ⟨0, 6, _, _, rfl, rfl, hc.symm⟩ hrm hR hk hcat hd hM (fun r τ => kk r (τ, s.2))
theorem k_LMi6 {X : k_C} {q : Nat → Nat} {kc ks pc : Nat} {L : List (Option Value)} {st : List Value} {s : k_S × k_S} {y : MethodName} {bytes : ByteArray} {maxL : Nat} {ret0 : Option FieldType} {index : Nat} {rm : Room} {v1 v2 v3 v4 v5 v6 : Value} {f : Option (Int32 × k_S)} {kg : Int32 → k_S × k_S → Option (Int32 × (k_S × k_S))} (hok : k_Vok y bytes maxL ret0 6) (hc : y.cls = RX7) (hm : Cond.methodLink RL index y ∈ k_ws) (hrm : rm.cells = 0 ∧ rm.slots = 0) (hR : rm.frames + 1 ≤ 2048 ∧ 8 + (maxL + 11) + rm.locals ≤ 84000) (hk : kc ≤ 600000 ∧ ks ≤ 7302250) (hcat : (st.map fun v => v.category).sum ≤ 8) (hd : decode cL_law pc = .ok (.invokevirtual index, 3)) (hM : ∀ r τ, f = some (r, τ) → k_Ct k_ei y bytes maxL ret0 rm (cM (k_I X) (fun k => q (30 + k))) (k_D X) (k_I X) (.ref (q 30) :: [v1, v2, v3, v4, v5, v6]) s.2 r τ) (kk : ∀ r s2, KO X YL (cL (k_I X) q) kc ks (k_QL X) (pc + 3) L (.int r :: st) s2 (kg r s2)) : KO X YL (cL (k_I X) q) kc ks (k_QL X) pc L (v6 :: v5 :: v4 :: v3 :: v2 :: v1 :: .ref (q 30) :: st) s (k_ob f fun r τ => k_bn (s.1, τ) (kg r)) := k_Vi6 (Y := YL) (k_InM (k_I X) q s) hok hm ⟨30, 7, _, _, rfl, rfl, hc.symm⟩ hrm hR hk hcat hd hM (fun r τ => kk r (s.1, τ))
noncomputable def fL_next (kh18 : k_S × k_S → Int32 → Option (Int32 × (k_S × k_S))) (s : k_S × k_S) (i : Int32) : Option (Int32 × (k_S × k_S)) := k_bn (i + nI 7) fun v => kh18 s v
set_option maxRecDepth 100000 in
set_option maxHeartbeats 4000000 in
theorem kL_next {X : k_C} {q : Nat → Nat} {b : Nat} {kh18 : k_S × k_S → Int32 → Option (Int32 × (k_S × k_S))} (hk18 : ∀ (s : k_S × k_S) (i : Int32), KO X YL (cL (k_I X) q) 50 2363 (k_QL X) 18 [some (.ref b), some (.ref (q 0)), some (.ref (q 30)), some (.int i)] [] s (kh18 s i)) (s : k_S × k_S) (i : Int32) : KO X YL (cL (k_I X) q) 50 2363 (k_QL X) 1070 [some (.ref b), some (.ref (q 0)), some (.ref (q 30)), some (.int i)] [] s (fL_next kh18 s i) := by
  unfold fL_next
  refine k_iinc3 (pc := 1070) (w := nI 7) dL_law_1070 rfl (by decide) (Nat.le_of_ble_eq_true rfl) (fun v => ?_)
  refine k_goto (pc := 1073) 18 dL_law_1073 (by decide) ?_
  exact hk18 s v
noncomputable def fL_0 (Ls : Nat) (xs : Nat → Int32) (kh18 : k_S × k_S → Int32 → Option (Int32 × (k_S × k_S))) (s : k_S × k_S) (i : Int32) : Option (Int32 × (k_S × k_S)) := k_gd (i + (nI 1)) Ls (k_gd (i + (nI 2)) Ls (k_gd (i + (nI 3)) Ls (k_gd (i + (nI 4)) Ls (k_ob (fX6_inn s.1 (xs (Int32.toNatClampNeg (i + (nI 1)))) (xs (Int32.toNatClampNeg (i + (nI 2)))) (xs (Int32.toNatClampNeg (i + (nI 3)))) (xs (Int32.toNatClampNeg (i + (nI 4))))) fun r1 τ1 => k_bn (τ1, s.2) fun s1 => k_gd (i + (nI 1)) Ls (k_gd (i + (nI 2)) Ls (k_gd (i + (nI 3)) Ls (k_gd (i + (nI 4)) Ls (k_ob (fX7_inn s1.2 (xs (Int32.toNatClampNeg (i + (nI 1)))) (xs (Int32.toNatClampNeg (i + (nI 2)))) (xs (Int32.toNatClampNeg (i + (nI 3)))) (xs (Int32.toNatClampNeg (i + (nI 4))))) fun r2 τ2 => k_bn (s1.1, τ2) fun s2 => (if r1 = r2 then fL_next kh18 s2 i else none)))))))))
set_option maxRecDepth 100000 in
set_option maxHeartbeats 4000000 in
theorem kL_0 {X : k_C} {q : Nat → Nat} {b Ls : Nat} {xs : Nat → Int32} (hX : k_At X b Ls xs) (kh18 : k_S × k_S → Int32 → Option (Int32 × (k_S × k_S))) (hk18 : ∀ (s : k_S × k_S) (i : Int32), KO X YL (cL (k_I X) q) 50 2363 (k_QL X) 18 [some (.ref b), some (.ref (q 0)), some (.ref (q 30)), some (.int i)] [] s (kh18 s i)) (s : k_S × k_S) (i : Int32) : KO X YL (cL (k_I X) q) 50 2363 (k_QL X) 156 [some (.ref b), some (.ref (q 0)), some (.ref (q 30)), some (.int i)] [] s (fL_0 Ls xs kh18 s i) := by
  unfold fL_0
  refine k_aload_n (pc := 156) dL_law_156 rfl ?_
  refine k_aload_n (pc := 157) dL_law_157 rfl ?_
  refine k_iload_n (pc := 158) dL_law_158 rfl ?_
  refine k_iconst (pc := 159) (v := (nI 1)) dL_law_159 (by decide) ?_
  refine k_iadd (pc := 160) dL_law_160 ?_
  refine k_sld (pc := 161) hX.1 hX.2.1 hX.2.2.1 dL_law_161 ?_
  refine k_aload_n (pc := 162) dL_law_162 rfl ?_
  refine k_iload_n (pc := 163) dL_law_163 rfl ?_
  refine k_iconst (pc := 164) (v := (nI 2)) dL_law_164 (by decide) ?_
  refine k_iadd (pc := 165) dL_law_165 ?_
  refine k_sld (pc := 166) hX.1 hX.2.1 hX.2.2.1 dL_law_166 ?_
  refine k_aload_n (pc := 167) dL_law_167 rfl ?_
  refine k_iload_n (pc := 168) dL_law_168 rfl ?_
  refine k_iconst (pc := 169) (v := (nI 3)) dL_law_169 (by decide) ?_
  refine k_iadd (pc := 170) dL_law_170 ?_
  refine k_sld (pc := 171) hX.1 hX.2.1 hX.2.2.1 dL_law_171 ?_
  refine k_aload_n (pc := 172) dL_law_172 rfl ?_
  refine k_iload_n (pc := 173) dL_law_173 rfl ?_
  refine k_iconst (pc := 174) (v := (nI 4)) dL_law_174 (by decide) ?_
  refine k_iadd (pc := 175) dL_law_175 ?_
  refine k_sld (pc := 176) hX.1 hX.2.1 hX.2.2.1 dL_law_176 ?_
  refine k_LTi4 (pc := 177) ckX6_inn rfl kwm_L_13 ⟨rfl, rfl⟩ ⟨Nat.le_of_ble_eq_true rfl, Nat.le_of_ble_eq_true rfl⟩ ⟨Nat.le_of_ble_eq_true rfl, Nat.le_of_ble_eq_true rfl⟩ (Nat.le_of_ble_eq_true rfl) dL_law_177 (fun _ _ hf => kX6_inn hf) (fun r1 s1 => ?_)
  refine k_aload_n (pc := 180) dL_law_180 rfl ?_
  refine k_aload_n (pc := 181) dL_law_181 rfl ?_
  refine k_iload_n (pc := 182) dL_law_182 rfl ?_
  refine k_iconst (pc := 183) (v := (nI 1)) dL_law_183 (by decide) ?_
  refine k_iadd (pc := 184) dL_law_184 ?_
  refine k_sld (pc := 185) hX.1 hX.2.1 hX.2.2.1 dL_law_185 ?_
  refine k_aload_n (pc := 186) dL_law_186 rfl ?_
  refine k_iload_n (pc := 187) dL_law_187 rfl ?_
  refine k_iconst (pc := 188) (v := (nI 2)) dL_law_188 (by decide) ?_
  refine k_iadd (pc := 189) dL_law_189 ?_
  refine k_sld (pc := 190) hX.1 hX.2.1 hX.2.2.1 dL_law_190 ?_
  refine k_aload_n (pc := 191) dL_law_191 rfl ?_
  refine k_iload_n (pc := 192) dL_law_192 rfl ?_
  refine k_iconst (pc := 193) (v := (nI 3)) dL_law_193 (by decide) ?_
  refine k_iadd (pc := 194) dL_law_194 ?_
  refine k_sld (pc := 195) hX.1 hX.2.1 hX.2.2.1 dL_law_195 ?_
  refine k_aload_n (pc := 196) dL_law_196 rfl ?_
  refine k_iload_n (pc := 197) dL_law_197 rfl ?_
  refine k_iconst (pc := 198) (v := (nI 4)) dL_law_198 (by decide) ?_
  refine k_iadd (pc := 199) dL_law_199 ?_
  refine k_sld (pc := 200) hX.1 hX.2.1 hX.2.2.1 dL_law_200 ?_
  refine k_LMi4 (pc := 201) ckX7_inn rfl kwm_L_17 ⟨rfl, rfl⟩ ⟨Nat.le_of_ble_eq_true rfl, Nat.le_of_ble_eq_true rfl⟩ ⟨Nat.le_of_ble_eq_true rfl, Nat.le_of_ble_eq_true rfl⟩ (Nat.le_of_ble_eq_true rfl) dL_law_201 (fun _ _ hf => kX7_inn hf) (fun r2 s2 => ?_)
  refine k_icmp_eq (pc := 204) 1070 dL_law_204 (by decide) ?_ KO.nil
  exact kL_next hk18 s2 i
noncomputable def fL_1 (Ls : Nat) (xs : Nat → Int32) (kh18 : k_S × k_S → Int32 → Option (Int32 × (k_S × k_S))) (s : k_S × k_S) (i : Int32) : Option (Int32 × (k_S × k_S)) := k_gd (i + (nI 1)) Ls (k_gd (i + (nI 2)) Ls (k_ob (fX6_ofTale s.1 (xs (Int32.toNatClampNeg (i + (nI 1)))) (xs (Int32.toNatClampNeg (i + (nI 2))))) fun r1 τ1 => k_bn (τ1, s.2) fun s1 => k_gd (i + (nI 1)) Ls (k_gd (i + (nI 2)) Ls (k_ob (fX7_ofTale s1.2 (xs (Int32.toNatClampNeg (i + (nI 1)))) (xs (Int32.toNatClampNeg (i + (nI 2))))) fun r2 τ2 => k_bn (s1.1, τ2) fun s2 => (if r1 = r2 then fL_next kh18 s2 i else none)))))
set_option maxRecDepth 100000 in
set_option maxHeartbeats 4000000 in
theorem kL_1 {X : k_C} {q : Nat → Nat} {b Ls : Nat} {xs : Nat → Int32} (hX : k_At X b Ls xs) (kh18 : k_S × k_S → Int32 → Option (Int32 × (k_S × k_S))) (hk18 : ∀ (s : k_S × k_S) (i : Int32), KO X YL (cL (k_I X) q) 50 2363 (k_QL X) 18 [some (.ref b), some (.ref (q 0)), some (.ref (q 30)), some (.int i)] [] s (kh18 s i)) (s : k_S × k_S) (i : Int32) : KO X YL (cL (k_I X) q) 50 2363 (k_QL X) 209 [some (.ref b), some (.ref (q 0)), some (.ref (q 30)), some (.int i)] [] s (fL_1 Ls xs kh18 s i) := by
  unfold fL_1
  refine k_aload_n (pc := 209) dL_law_209 rfl ?_
  refine k_aload_n (pc := 210) dL_law_210 rfl ?_
  refine k_iload_n (pc := 211) dL_law_211 rfl ?_
  refine k_iconst (pc := 212) (v := (nI 1)) dL_law_212 (by decide) ?_
  refine k_iadd (pc := 213) dL_law_213 ?_
  refine k_sld (pc := 214) hX.1 hX.2.1 hX.2.2.1 dL_law_214 ?_
  refine k_aload_n (pc := 215) dL_law_215 rfl ?_
  refine k_iload_n (pc := 216) dL_law_216 rfl ?_
  refine k_iconst (pc := 217) (v := (nI 2)) dL_law_217 (by decide) ?_
  refine k_iadd (pc := 218) dL_law_218 ?_
  refine k_sld (pc := 219) hX.1 hX.2.1 hX.2.2.1 dL_law_219 ?_
  refine k_LTi2 (pc := 220) ckX6_ofTale rfl kwm_L_18 ⟨rfl, rfl⟩ ⟨Nat.le_of_ble_eq_true rfl, Nat.le_of_ble_eq_true rfl⟩ ⟨Nat.le_of_ble_eq_true rfl, Nat.le_of_ble_eq_true rfl⟩ (Nat.le_of_ble_eq_true rfl) dL_law_220 (fun _ _ hf => kX6_ofTale hf) (fun r1 s1 => ?_)
  refine k_aload_n (pc := 223) dL_law_223 rfl ?_
  refine k_aload_n (pc := 224) dL_law_224 rfl ?_
  refine k_iload_n (pc := 225) dL_law_225 rfl ?_
  refine k_iconst (pc := 226) (v := (nI 1)) dL_law_226 (by decide) ?_
  refine k_iadd (pc := 227) dL_law_227 ?_
  refine k_sld (pc := 228) hX.1 hX.2.1 hX.2.2.1 dL_law_228 ?_
  refine k_aload_n (pc := 229) dL_law_229 rfl ?_
  refine k_iload_n (pc := 230) dL_law_230 rfl ?_
  refine k_iconst (pc := 231) (v := (nI 2)) dL_law_231 (by decide) ?_
  refine k_iadd (pc := 232) dL_law_232 ?_
  refine k_sld (pc := 233) hX.1 hX.2.1 hX.2.2.1 dL_law_233 ?_
  refine k_LMi2 (pc := 234) ckX7_ofTale rfl kwm_L_22 ⟨rfl, rfl⟩ ⟨Nat.le_of_ble_eq_true rfl, Nat.le_of_ble_eq_true rfl⟩ ⟨Nat.le_of_ble_eq_true rfl, Nat.le_of_ble_eq_true rfl⟩ (Nat.le_of_ble_eq_true rfl) dL_law_234 (fun _ _ hf => kX7_ofTale hf) (fun r2 s2 => ?_)
  refine k_icmp_eq (pc := 237) 1070 dL_law_237 (by decide) ?_ KO.nil
  exact kL_next hk18 s2 i
noncomputable def fL_2 (Ls : Nat) (xs : Nat → Int32) (kh18 : k_S × k_S → Int32 → Option (Int32 × (k_S × k_S))) (s : k_S × k_S) (i : Int32) : Option (Int32 × (k_S × k_S)) := k_gd (i + (nI 1)) Ls (k_ob (fX6_memory s.1 (xs (Int32.toNatClampNeg (i + (nI 1))))) fun r1 τ1 => k_bn (τ1, s.2) fun s1 => k_gd (i + (nI 1)) Ls (k_ob (fX7_memory s1.2 (xs (Int32.toNatClampNeg (i + (nI 1))))) fun r2 τ2 => k_bn (s1.1, τ2) fun s2 => (if r1 = r2 then fL_next kh18 s2 i else none)))
set_option maxRecDepth 100000 in
set_option maxHeartbeats 4000000 in
theorem kL_2 {X : k_C} {q : Nat → Nat} {b Ls : Nat} {xs : Nat → Int32} (hX : k_At X b Ls xs) (kh18 : k_S × k_S → Int32 → Option (Int32 × (k_S × k_S))) (hk18 : ∀ (s : k_S × k_S) (i : Int32), KO X YL (cL (k_I X) q) 50 2363 (k_QL X) 18 [some (.ref b), some (.ref (q 0)), some (.ref (q 30)), some (.int i)] [] s (kh18 s i)) (s : k_S × k_S) (i : Int32) : KO X YL (cL (k_I X) q) 50 2363 (k_QL X) 242 [some (.ref b), some (.ref (q 0)), some (.ref (q 30)), some (.int i)] [] s (fL_2 Ls xs kh18 s i) := by
  unfold fL_2
  refine k_aload_n (pc := 242) dL_law_242 rfl ?_
  refine k_aload_n (pc := 243) dL_law_243 rfl ?_
  refine k_iload_n (pc := 244) dL_law_244 rfl ?_
  refine k_iconst (pc := 245) (v := (nI 1)) dL_law_245 (by decide) ?_
  refine k_iadd (pc := 246) dL_law_246 ?_
  refine k_sld (pc := 247) hX.1 hX.2.1 hX.2.2.1 dL_law_247 ?_
  refine k_LTi1 (pc := 248) ckX6_memory rfl kwm_L_23 ⟨rfl, rfl⟩ ⟨Nat.le_of_ble_eq_true rfl, Nat.le_of_ble_eq_true rfl⟩ ⟨Nat.le_of_ble_eq_true rfl, Nat.le_of_ble_eq_true rfl⟩ (Nat.le_of_ble_eq_true rfl) dL_law_248 (fun _ _ hf => kX6_memory hf) (fun r1 s1 => ?_)
  refine k_aload_n (pc := 251) dL_law_251 rfl ?_
  refine k_aload_n (pc := 252) dL_law_252 rfl ?_
  refine k_iload_n (pc := 253) dL_law_253 rfl ?_
  refine k_iconst (pc := 254) (v := (nI 1)) dL_law_254 (by decide) ?_
  refine k_iadd (pc := 255) dL_law_255 ?_
  refine k_sld (pc := 256) hX.1 hX.2.1 hX.2.2.1 dL_law_256 ?_
  refine k_LMi1 (pc := 257) ckX7_memory rfl kwm_L_27 ⟨rfl, rfl⟩ ⟨Nat.le_of_ble_eq_true rfl, Nat.le_of_ble_eq_true rfl⟩ ⟨Nat.le_of_ble_eq_true rfl, Nat.le_of_ble_eq_true rfl⟩ (Nat.le_of_ble_eq_true rfl) dL_law_257 (fun _ _ hf => kX7_memory hf) (fun r2 s2 => ?_)
  refine k_icmp_eq (pc := 260) 1070 dL_law_260 (by decide) ?_ KO.nil
  exact kL_next hk18 s2 i
noncomputable def fL_3 (Ls : Nat) (xs : Nat → Int32) (kh18 : k_S × k_S → Int32 → Option (Int32 × (k_S × k_S))) (s : k_S × k_S) (i : Int32) : Option (Int32 × (k_S × k_S)) := k_gd (i + (nI 1)) Ls (k_gd (i + (nI 2)) Ls (k_ob (fX6_choose s.1 (xs (Int32.toNatClampNeg (i + (nI 1)))) (xs (Int32.toNatClampNeg (i + (nI 2))))) fun r1 τ1 => k_bn (τ1, s.2) fun s1 => k_gd (i + (nI 1)) Ls (k_gd (i + (nI 2)) Ls (k_ob (fX7_choose s1.2 (xs (Int32.toNatClampNeg (i + (nI 1)))) (xs (Int32.toNatClampNeg (i + (nI 2))))) fun r2 τ2 => k_bn (s1.1, τ2) fun s2 => (if r1 = r2 then fL_next kh18 s2 i else none)))))
set_option maxRecDepth 100000 in
set_option maxHeartbeats 4000000 in
theorem kL_3 {X : k_C} {q : Nat → Nat} {b Ls : Nat} {xs : Nat → Int32} (hX : k_At X b Ls xs) (kh18 : k_S × k_S → Int32 → Option (Int32 × (k_S × k_S))) (hk18 : ∀ (s : k_S × k_S) (i : Int32), KO X YL (cL (k_I X) q) 50 2363 (k_QL X) 18 [some (.ref b), some (.ref (q 0)), some (.ref (q 30)), some (.int i)] [] s (kh18 s i)) (s : k_S × k_S) (i : Int32) : KO X YL (cL (k_I X) q) 50 2363 (k_QL X) 265 [some (.ref b), some (.ref (q 0)), some (.ref (q 30)), some (.int i)] [] s (fL_3 Ls xs kh18 s i) := by
  unfold fL_3
  refine k_aload_n (pc := 265) dL_law_265 rfl ?_
  refine k_aload_n (pc := 266) dL_law_266 rfl ?_
  refine k_iload_n (pc := 267) dL_law_267 rfl ?_
  refine k_iconst (pc := 268) (v := (nI 1)) dL_law_268 (by decide) ?_
  refine k_iadd (pc := 269) dL_law_269 ?_
  refine k_sld (pc := 270) hX.1 hX.2.1 hX.2.2.1 dL_law_270 ?_
  refine k_aload_n (pc := 271) dL_law_271 rfl ?_
  refine k_iload_n (pc := 272) dL_law_272 rfl ?_
  refine k_iconst (pc := 273) (v := (nI 2)) dL_law_273 (by decide) ?_
  refine k_iadd (pc := 274) dL_law_274 ?_
  refine k_sld (pc := 275) hX.1 hX.2.1 hX.2.2.1 dL_law_275 ?_
  refine k_LTi2 (pc := 276) ckX6_choose rfl kwm_L_28 ⟨rfl, rfl⟩ ⟨Nat.le_of_ble_eq_true rfl, Nat.le_of_ble_eq_true rfl⟩ ⟨Nat.le_of_ble_eq_true rfl, Nat.le_of_ble_eq_true rfl⟩ (Nat.le_of_ble_eq_true rfl) dL_law_276 (fun _ _ hf => kX6_choose hf) (fun r1 s1 => ?_)
  refine k_aload_n (pc := 279) dL_law_279 rfl ?_
  refine k_aload_n (pc := 280) dL_law_280 rfl ?_
  refine k_iload_n (pc := 281) dL_law_281 rfl ?_
  refine k_iconst (pc := 282) (v := (nI 1)) dL_law_282 (by decide) ?_
  refine k_iadd (pc := 283) dL_law_283 ?_
  refine k_sld (pc := 284) hX.1 hX.2.1 hX.2.2.1 dL_law_284 ?_
  refine k_aload_n (pc := 285) dL_law_285 rfl ?_
  refine k_iload_n (pc := 286) dL_law_286 rfl ?_
  refine k_iconst (pc := 287) (v := (nI 2)) dL_law_287 (by decide) ?_
  refine k_iadd (pc := 288) dL_law_288 ?_
  refine k_sld (pc := 289) hX.1 hX.2.1 hX.2.2.1 dL_law_289 ?_
  refine k_LMi2 (pc := 290) ckX7_choose rfl kwm_L_31 ⟨rfl, rfl⟩ ⟨Nat.le_of_ble_eq_true rfl, Nat.le_of_ble_eq_true rfl⟩ ⟨Nat.le_of_ble_eq_true rfl, Nat.le_of_ble_eq_true rfl⟩ (Nat.le_of_ble_eq_true rfl) dL_law_290 (fun _ _ hf => kX7_choose hf) (fun r2 s2 => ?_)
  refine k_icmp_eq (pc := 293) 1070 dL_law_293 (by decide) ?_ KO.nil
  exact kL_next hk18 s2 i
noncomputable def fL_4 (Ls : Nat) (xs : Nat → Int32) (kh18 : k_S × k_S → Int32 → Option (Int32 × (k_S × k_S))) (s : k_S × k_S) (i : Int32) : Option (Int32 × (k_S × k_S)) := k_ob (fX6_night s.1) fun r1 τ1 => k_bn (τ1, s.2) fun s1 => k_ob (fX7_night s1.2) fun r2 τ2 => k_bn (s1.1, τ2) fun s2 => (if r1 = r2 then fL_next kh18 s2 i else none)
set_option maxRecDepth 100000 in
set_option maxHeartbeats 4000000 in
theorem kL_4 {X : k_C} {q : Nat → Nat} {b Ls : Nat} {xs : Nat → Int32} (hX : k_At X b Ls xs) (kh18 : k_S × k_S → Int32 → Option (Int32 × (k_S × k_S))) (hk18 : ∀ (s : k_S × k_S) (i : Int32), KO X YL (cL (k_I X) q) 50 2363 (k_QL X) 18 [some (.ref b), some (.ref (q 0)), some (.ref (q 30)), some (.int i)] [] s (kh18 s i)) (s : k_S × k_S) (i : Int32) : KO X YL (cL (k_I X) q) 50 2363 (k_QL X) 298 [some (.ref b), some (.ref (q 0)), some (.ref (q 30)), some (.int i)] [] s (fL_4 Ls xs kh18 s i) := by
  unfold fL_4
  refine k_aload_n (pc := 298) dL_law_298 rfl ?_
  refine k_LTi0 (pc := 299) ckX6_night rfl kwm_L_32 ⟨rfl, rfl⟩ ⟨Nat.le_of_ble_eq_true rfl, Nat.le_of_ble_eq_true rfl⟩ ⟨Nat.le_of_ble_eq_true rfl, Nat.le_of_ble_eq_true rfl⟩ (Nat.le_of_ble_eq_true rfl) dL_law_299 (fun _ _ hf => kX6_night hf) (fun r1 s1 => ?_)
  refine k_aload_n (pc := 302) dL_law_302 rfl ?_
  refine k_LMi0 (pc := 303) ckX7_night rfl kwm_L_36 ⟨rfl, rfl⟩ ⟨Nat.le_of_ble_eq_true rfl, Nat.le_of_ble_eq_true rfl⟩ ⟨Nat.le_of_ble_eq_true rfl, Nat.le_of_ble_eq_true rfl⟩ (Nat.le_of_ble_eq_true rfl) dL_law_303 (fun _ _ hf => kX7_night hf) (fun r2 s2 => ?_)
  refine k_icmp_eq (pc := 306) 1070 dL_law_306 (by decide) ?_ KO.nil
  exact kL_next hk18 s2 i
noncomputable def fL_5 (Ls : Nat) (xs : Nat → Int32) (kh18 : k_S × k_S → Int32 → Option (Int32 × (k_S × k_S))) (s : k_S × k_S) (i : Int32) : Option (Int32 × (k_S × k_S)) := k_gd (i + (nI 1)) Ls (k_gd (i + (nI 2)) Ls (k_gd (i + (nI 3)) Ls (k_ob (fX6_ofNight s.1 (xs (Int32.toNatClampNeg (i + (nI 1)))) (xs (Int32.toNatClampNeg (i + (nI 2)))) (xs (Int32.toNatClampNeg (i + (nI 3))))) fun r1 τ1 => k_bn (τ1, s.2) fun s1 => k_gd (i + (nI 1)) Ls (k_gd (i + (nI 2)) Ls (k_gd (i + (nI 3)) Ls (k_ob (fX7_ofNight s1.2 (xs (Int32.toNatClampNeg (i + (nI 1)))) (xs (Int32.toNatClampNeg (i + (nI 2)))) (xs (Int32.toNatClampNeg (i + (nI 3))))) fun r2 τ2 => k_bn (s1.1, τ2) fun s2 => (if r1 = r2 then fL_next kh18 s2 i else none)))))))
set_option maxRecDepth 100000 in
set_option maxHeartbeats 4000000 in
theorem kL_5 {X : k_C} {q : Nat → Nat} {b Ls : Nat} {xs : Nat → Int32} (hX : k_At X b Ls xs) (kh18 : k_S × k_S → Int32 → Option (Int32 × (k_S × k_S))) (hk18 : ∀ (s : k_S × k_S) (i : Int32), KO X YL (cL (k_I X) q) 50 2363 (k_QL X) 18 [some (.ref b), some (.ref (q 0)), some (.ref (q 30)), some (.int i)] [] s (kh18 s i)) (s : k_S × k_S) (i : Int32) : KO X YL (cL (k_I X) q) 50 2363 (k_QL X) 311 [some (.ref b), some (.ref (q 0)), some (.ref (q 30)), some (.int i)] [] s (fL_5 Ls xs kh18 s i) := by
  unfold fL_5
  refine k_aload_n (pc := 311) dL_law_311 rfl ?_
  refine k_aload_n (pc := 312) dL_law_312 rfl ?_
  refine k_iload_n (pc := 313) dL_law_313 rfl ?_
  refine k_iconst (pc := 314) (v := (nI 1)) dL_law_314 (by decide) ?_
  refine k_iadd (pc := 315) dL_law_315 ?_
  refine k_sld (pc := 316) hX.1 hX.2.1 hX.2.2.1 dL_law_316 ?_
  refine k_aload_n (pc := 317) dL_law_317 rfl ?_
  refine k_iload_n (pc := 318) dL_law_318 rfl ?_
  refine k_iconst (pc := 319) (v := (nI 2)) dL_law_319 (by decide) ?_
  refine k_iadd (pc := 320) dL_law_320 ?_
  refine k_sld (pc := 321) hX.1 hX.2.1 hX.2.2.1 dL_law_321 ?_
  refine k_aload_n (pc := 322) dL_law_322 rfl ?_
  refine k_iload_n (pc := 323) dL_law_323 rfl ?_
  refine k_iconst (pc := 324) (v := (nI 3)) dL_law_324 (by decide) ?_
  refine k_iadd (pc := 325) dL_law_325 ?_
  refine k_sld (pc := 326) hX.1 hX.2.1 hX.2.2.1 dL_law_326 ?_
  refine k_LTi3 (pc := 327) ckX6_ofNight rfl kwm_L_37 ⟨rfl, rfl⟩ ⟨Nat.le_of_ble_eq_true rfl, Nat.le_of_ble_eq_true rfl⟩ ⟨Nat.le_of_ble_eq_true rfl, Nat.le_of_ble_eq_true rfl⟩ (Nat.le_of_ble_eq_true rfl) dL_law_327 (fun _ _ hf => kX6_ofNight hf) (fun r1 s1 => ?_)
  refine k_aload_n (pc := 330) dL_law_330 rfl ?_
  refine k_aload_n (pc := 331) dL_law_331 rfl ?_
  refine k_iload_n (pc := 332) dL_law_332 rfl ?_
  refine k_iconst (pc := 333) (v := (nI 1)) dL_law_333 (by decide) ?_
  refine k_iadd (pc := 334) dL_law_334 ?_
  refine k_sld (pc := 335) hX.1 hX.2.1 hX.2.2.1 dL_law_335 ?_
  refine k_aload_n (pc := 336) dL_law_336 rfl ?_
  refine k_iload_n (pc := 337) dL_law_337 rfl ?_
  refine k_iconst (pc := 338) (v := (nI 2)) dL_law_338 (by decide) ?_
  refine k_iadd (pc := 339) dL_law_339 ?_
  refine k_sld (pc := 340) hX.1 hX.2.1 hX.2.2.1 dL_law_340 ?_
  refine k_aload_n (pc := 341) dL_law_341 rfl ?_
  refine k_iload_n (pc := 342) dL_law_342 rfl ?_
  refine k_iconst (pc := 343) (v := (nI 3)) dL_law_343 (by decide) ?_
  refine k_iadd (pc := 344) dL_law_344 ?_
  refine k_sld (pc := 345) hX.1 hX.2.1 hX.2.2.1 dL_law_345 ?_
  refine k_LMi3 (pc := 346) ckX7_ofNight rfl kwm_L_41 ⟨rfl, rfl⟩ ⟨Nat.le_of_ble_eq_true rfl, Nat.le_of_ble_eq_true rfl⟩ ⟨Nat.le_of_ble_eq_true rfl, Nat.le_of_ble_eq_true rfl⟩ (Nat.le_of_ble_eq_true rfl) dL_law_346 (fun _ _ hf => kX7_ofNight hf) (fun r2 s2 => ?_)
  refine k_icmp_eq (pc := 349) 1070 dL_law_349 (by decide) ?_ KO.nil
  exact kL_next hk18 s2 i
noncomputable def fL_6 (Ls : Nat) (xs : Nat → Int32) (kh18 : k_S × k_S → Int32 → Option (Int32 × (k_S × k_S))) (s : k_S × k_S) (i : Int32) : Option (Int32 × (k_S × k_S)) := k_gd (i + (nI 1)) Ls (k_ob (fX6_undo s.1 (xs (Int32.toNatClampNeg (i + (nI 1))))) fun r1 τ1 => k_bn (τ1, s.2) fun s1 => k_gd (i + (nI 1)) Ls (k_ob (fX7_undo s1.2 (xs (Int32.toNatClampNeg (i + (nI 1))))) fun r2 τ2 => k_bn (s1.1, τ2) fun s2 => (if r1 = r2 then fL_next kh18 s2 i else none)))
set_option maxRecDepth 100000 in
set_option maxHeartbeats 4000000 in
theorem kL_6 {X : k_C} {q : Nat → Nat} {b Ls : Nat} {xs : Nat → Int32} (hX : k_At X b Ls xs) (kh18 : k_S × k_S → Int32 → Option (Int32 × (k_S × k_S))) (hk18 : ∀ (s : k_S × k_S) (i : Int32), KO X YL (cL (k_I X) q) 50 2363 (k_QL X) 18 [some (.ref b), some (.ref (q 0)), some (.ref (q 30)), some (.int i)] [] s (kh18 s i)) (s : k_S × k_S) (i : Int32) : KO X YL (cL (k_I X) q) 50 2363 (k_QL X) 354 [some (.ref b), some (.ref (q 0)), some (.ref (q 30)), some (.int i)] [] s (fL_6 Ls xs kh18 s i) := by
  unfold fL_6
  refine k_aload_n (pc := 354) dL_law_354 rfl ?_
  refine k_aload_n (pc := 355) dL_law_355 rfl ?_
  refine k_iload_n (pc := 356) dL_law_356 rfl ?_
  refine k_iconst (pc := 357) (v := (nI 1)) dL_law_357 (by decide) ?_
  refine k_iadd (pc := 358) dL_law_358 ?_
  refine k_sld (pc := 359) hX.1 hX.2.1 hX.2.2.1 dL_law_359 ?_
  refine k_LTi1 (pc := 360) ckX6_undo rfl kwm_L_42 ⟨rfl, rfl⟩ ⟨Nat.le_of_ble_eq_true rfl, Nat.le_of_ble_eq_true rfl⟩ ⟨Nat.le_of_ble_eq_true rfl, Nat.le_of_ble_eq_true rfl⟩ (Nat.le_of_ble_eq_true rfl) dL_law_360 (fun _ _ hf => kX6_undo hf) (fun r1 s1 => ?_)
  refine k_aload_n (pc := 363) dL_law_363 rfl ?_
  refine k_aload_n (pc := 364) dL_law_364 rfl ?_
  refine k_iload_n (pc := 365) dL_law_365 rfl ?_
  refine k_iconst (pc := 366) (v := (nI 1)) dL_law_366 (by decide) ?_
  refine k_iadd (pc := 367) dL_law_367 ?_
  refine k_sld (pc := 368) hX.1 hX.2.1 hX.2.2.1 dL_law_368 ?_
  refine k_LMi1 (pc := 369) ckX7_undo rfl kwm_L_45 ⟨rfl, rfl⟩ ⟨Nat.le_of_ble_eq_true rfl, Nat.le_of_ble_eq_true rfl⟩ ⟨Nat.le_of_ble_eq_true rfl, Nat.le_of_ble_eq_true rfl⟩ (Nat.le_of_ble_eq_true rfl) dL_law_369 (fun _ _ hf => kX7_undo hf) (fun r2 s2 => ?_)
  refine k_icmp_eq (pc := 372) 1070 dL_law_372 (by decide) ?_ KO.nil
  exact kL_next hk18 s2 i
noncomputable def fL_7 (Ls : Nat) (xs : Nat → Int32) (kh18 : k_S × k_S → Int32 → Option (Int32 × (k_S × k_S))) (s : k_S × k_S) (i : Int32) : Option (Int32 × (k_S × k_S)) := k_gd (i + (nI 1)) Ls (k_gd (i + (nI 2)) Ls (k_ob (fX6_lay s.1 (xs (Int32.toNatClampNeg (i + (nI 1)))) (xs (Int32.toNatClampNeg (i + (nI 2))))) fun r1 τ1 => k_bn (τ1, s.2) fun s1 => k_gd (i + (nI 1)) Ls (k_gd (i + (nI 2)) Ls (k_ob (fX7_lay s1.2 (xs (Int32.toNatClampNeg (i + (nI 1)))) (xs (Int32.toNatClampNeg (i + (nI 2))))) fun r2 τ2 => k_bn (s1.1, τ2) fun s2 => (if r1 = r2 then fL_next kh18 s2 i else none)))))
set_option maxRecDepth 100000 in
set_option maxHeartbeats 4000000 in
theorem kL_7 {X : k_C} {q : Nat → Nat} {b Ls : Nat} {xs : Nat → Int32} (hX : k_At X b Ls xs) (kh18 : k_S × k_S → Int32 → Option (Int32 × (k_S × k_S))) (hk18 : ∀ (s : k_S × k_S) (i : Int32), KO X YL (cL (k_I X) q) 50 2363 (k_QL X) 18 [some (.ref b), some (.ref (q 0)), some (.ref (q 30)), some (.int i)] [] s (kh18 s i)) (s : k_S × k_S) (i : Int32) : KO X YL (cL (k_I X) q) 50 2363 (k_QL X) 377 [some (.ref b), some (.ref (q 0)), some (.ref (q 30)), some (.int i)] [] s (fL_7 Ls xs kh18 s i) := by
  unfold fL_7
  refine k_aload_n (pc := 377) dL_law_377 rfl ?_
  refine k_aload_n (pc := 378) dL_law_378 rfl ?_
  refine k_iload_n (pc := 379) dL_law_379 rfl ?_
  refine k_iconst (pc := 380) (v := (nI 1)) dL_law_380 (by decide) ?_
  refine k_iadd (pc := 381) dL_law_381 ?_
  refine k_sld (pc := 382) hX.1 hX.2.1 hX.2.2.1 dL_law_382 ?_
  refine k_aload_n (pc := 383) dL_law_383 rfl ?_
  refine k_iload_n (pc := 384) dL_law_384 rfl ?_
  refine k_iconst (pc := 385) (v := (nI 2)) dL_law_385 (by decide) ?_
  refine k_iadd (pc := 386) dL_law_386 ?_
  refine k_sld (pc := 387) hX.1 hX.2.1 hX.2.2.1 dL_law_387 ?_
  refine k_LTi2 (pc := 388) ckX6_lay rfl kwm_L_46 ⟨rfl, rfl⟩ ⟨Nat.le_of_ble_eq_true rfl, Nat.le_of_ble_eq_true rfl⟩ ⟨Nat.le_of_ble_eq_true rfl, Nat.le_of_ble_eq_true rfl⟩ (Nat.le_of_ble_eq_true rfl) dL_law_388 (fun _ _ hf => kX6_lay hf) (fun r1 s1 => ?_)
  refine k_aload_n (pc := 391) dL_law_391 rfl ?_
  refine k_aload_n (pc := 392) dL_law_392 rfl ?_
  refine k_iload_n (pc := 393) dL_law_393 rfl ?_
  refine k_iconst (pc := 394) (v := (nI 1)) dL_law_394 (by decide) ?_
  refine k_iadd (pc := 395) dL_law_395 ?_
  refine k_sld (pc := 396) hX.1 hX.2.1 hX.2.2.1 dL_law_396 ?_
  refine k_aload_n (pc := 397) dL_law_397 rfl ?_
  refine k_iload_n (pc := 398) dL_law_398 rfl ?_
  refine k_iconst (pc := 399) (v := (nI 2)) dL_law_399 (by decide) ?_
  refine k_iadd (pc := 400) dL_law_400 ?_
  refine k_sld (pc := 401) hX.1 hX.2.1 hX.2.2.1 dL_law_401 ?_
  refine k_LMi2 (pc := 402) ckX7_lay rfl kwm_L_49 ⟨rfl, rfl⟩ ⟨Nat.le_of_ble_eq_true rfl, Nat.le_of_ble_eq_true rfl⟩ ⟨Nat.le_of_ble_eq_true rfl, Nat.le_of_ble_eq_true rfl⟩ (Nat.le_of_ble_eq_true rfl) dL_law_402 (fun _ _ hf => kX7_lay hf) (fun r2 s2 => ?_)
  refine k_icmp_eq (pc := 405) 1070 dL_law_405 (by decide) ?_ KO.nil
  exact kL_next hk18 s2 i
noncomputable def fL_8 (Ls : Nat) (xs : Nat → Int32) (kh18 : k_S × k_S → Int32 → Option (Int32 × (k_S × k_S))) (s : k_S × k_S) (i : Int32) : Option (Int32 × (k_S × k_S)) := k_gd (i + (nI 1)) Ls (k_gd (i + (nI 2)) Ls (k_ob (fX6_tonight s.1 (xs (Int32.toNatClampNeg (i + (nI 1)))) (xs (Int32.toNatClampNeg (i + (nI 2))))) fun r1 τ1 => k_bn (τ1, s.2) fun s1 => k_gd (i + (nI 1)) Ls (k_gd (i + (nI 2)) Ls (k_ob (fX7_tonight s1.2 (xs (Int32.toNatClampNeg (i + (nI 1)))) (xs (Int32.toNatClampNeg (i + (nI 2))))) fun r2 τ2 => k_bn (s1.1, τ2) fun s2 => (if r1 = r2 then fL_next kh18 s2 i else none)))))
set_option maxRecDepth 100000 in
set_option maxHeartbeats 4000000 in
theorem kL_8 {X : k_C} {q : Nat → Nat} {b Ls : Nat} {xs : Nat → Int32} (hX : k_At X b Ls xs) (kh18 : k_S × k_S → Int32 → Option (Int32 × (k_S × k_S))) (hk18 : ∀ (s : k_S × k_S) (i : Int32), KO X YL (cL (k_I X) q) 50 2363 (k_QL X) 18 [some (.ref b), some (.ref (q 0)), some (.ref (q 30)), some (.int i)] [] s (kh18 s i)) (s : k_S × k_S) (i : Int32) : KO X YL (cL (k_I X) q) 50 2363 (k_QL X) 410 [some (.ref b), some (.ref (q 0)), some (.ref (q 30)), some (.int i)] [] s (fL_8 Ls xs kh18 s i) := by
  unfold fL_8
  refine k_aload_n (pc := 410) dL_law_410 rfl ?_
  refine k_aload_n (pc := 411) dL_law_411 rfl ?_
  refine k_iload_n (pc := 412) dL_law_412 rfl ?_
  refine k_iconst (pc := 413) (v := (nI 1)) dL_law_413 (by decide) ?_
  refine k_iadd (pc := 414) dL_law_414 ?_
  refine k_sld (pc := 415) hX.1 hX.2.1 hX.2.2.1 dL_law_415 ?_
  refine k_aload_n (pc := 416) dL_law_416 rfl ?_
  refine k_iload_n (pc := 417) dL_law_417 rfl ?_
  refine k_iconst (pc := 418) (v := (nI 2)) dL_law_418 (by decide) ?_
  refine k_iadd (pc := 419) dL_law_419 ?_
  refine k_sld (pc := 420) hX.1 hX.2.1 hX.2.2.1 dL_law_420 ?_
  refine k_LTi2 (pc := 421) ckX6_tonight rfl kwm_L_50 ⟨rfl, rfl⟩ ⟨Nat.le_of_ble_eq_true rfl, Nat.le_of_ble_eq_true rfl⟩ ⟨Nat.le_of_ble_eq_true rfl, Nat.le_of_ble_eq_true rfl⟩ (Nat.le_of_ble_eq_true rfl) dL_law_421 (fun _ _ hf => kX6_tonight hf) (fun r1 s1 => ?_)
  refine k_aload_n (pc := 424) dL_law_424 rfl ?_
  refine k_aload_n (pc := 425) dL_law_425 rfl ?_
  refine k_iload_n (pc := 426) dL_law_426 rfl ?_
  refine k_iconst (pc := 427) (v := (nI 1)) dL_law_427 (by decide) ?_
  refine k_iadd (pc := 428) dL_law_428 ?_
  refine k_sld (pc := 429) hX.1 hX.2.1 hX.2.2.1 dL_law_429 ?_
  refine k_aload_n (pc := 430) dL_law_430 rfl ?_
  refine k_iload_n (pc := 431) dL_law_431 rfl ?_
  refine k_iconst (pc := 432) (v := (nI 2)) dL_law_432 (by decide) ?_
  refine k_iadd (pc := 433) dL_law_433 ?_
  refine k_sld (pc := 434) hX.1 hX.2.1 hX.2.2.1 dL_law_434 ?_
  refine k_LMi2 (pc := 435) ckX7_tonight rfl kwm_L_53 ⟨rfl, rfl⟩ ⟨Nat.le_of_ble_eq_true rfl, Nat.le_of_ble_eq_true rfl⟩ ⟨Nat.le_of_ble_eq_true rfl, Nat.le_of_ble_eq_true rfl⟩ (Nat.le_of_ble_eq_true rfl) dL_law_435 (fun _ _ hf => kX7_tonight hf) (fun r2 s2 => ?_)
  refine k_icmp_eq (pc := 438) 1070 dL_law_438 (by decide) ?_ KO.nil
  exact kL_next hk18 s2 i
noncomputable def fL_9 (Ls : Nat) (xs : Nat → Int32) (kh18 : k_S × k_S → Int32 → Option (Int32 × (k_S × k_S))) (s : k_S × k_S) (i : Int32) : Option (Int32 × (k_S × k_S)) := k_gd (i + (nI 1)) Ls (k_gd (i + (nI 2)) Ls (k_ob (fX6_answer s.1 (xs (Int32.toNatClampNeg (i + (nI 1)))) (xs (Int32.toNatClampNeg (i + (nI 2))))) fun r1 τ1 => k_bn (τ1, s.2) fun s1 => k_gd (i + (nI 1)) Ls (k_gd (i + (nI 2)) Ls (k_ob (fX7_answer s1.2 (xs (Int32.toNatClampNeg (i + (nI 1)))) (xs (Int32.toNatClampNeg (i + (nI 2))))) fun r2 τ2 => k_bn (s1.1, τ2) fun s2 => (if r1 = r2 then fL_next kh18 s2 i else none)))))
set_option maxRecDepth 100000 in
set_option maxHeartbeats 4000000 in
theorem kL_9 {X : k_C} {q : Nat → Nat} {b Ls : Nat} {xs : Nat → Int32} (hX : k_At X b Ls xs) (kh18 : k_S × k_S → Int32 → Option (Int32 × (k_S × k_S))) (hk18 : ∀ (s : k_S × k_S) (i : Int32), KO X YL (cL (k_I X) q) 50 2363 (k_QL X) 18 [some (.ref b), some (.ref (q 0)), some (.ref (q 30)), some (.int i)] [] s (kh18 s i)) (s : k_S × k_S) (i : Int32) : KO X YL (cL (k_I X) q) 50 2363 (k_QL X) 443 [some (.ref b), some (.ref (q 0)), some (.ref (q 30)), some (.int i)] [] s (fL_9 Ls xs kh18 s i) := by
  unfold fL_9
  refine k_aload_n (pc := 443) dL_law_443 rfl ?_
  refine k_aload_n (pc := 444) dL_law_444 rfl ?_
  refine k_iload_n (pc := 445) dL_law_445 rfl ?_
  refine k_iconst (pc := 446) (v := (nI 1)) dL_law_446 (by decide) ?_
  refine k_iadd (pc := 447) dL_law_447 ?_
  refine k_sld (pc := 448) hX.1 hX.2.1 hX.2.2.1 dL_law_448 ?_
  refine k_aload_n (pc := 449) dL_law_449 rfl ?_
  refine k_iload_n (pc := 450) dL_law_450 rfl ?_
  refine k_iconst (pc := 451) (v := (nI 2)) dL_law_451 (by decide) ?_
  refine k_iadd (pc := 452) dL_law_452 ?_
  refine k_sld (pc := 453) hX.1 hX.2.1 hX.2.2.1 dL_law_453 ?_
  refine k_LTi2 (pc := 454) ckX6_answer rfl kwm_L_54 ⟨rfl, rfl⟩ ⟨Nat.le_of_ble_eq_true rfl, Nat.le_of_ble_eq_true rfl⟩ ⟨Nat.le_of_ble_eq_true rfl, Nat.le_of_ble_eq_true rfl⟩ (Nat.le_of_ble_eq_true rfl) dL_law_454 (fun _ _ hf => kX6_answer hf) (fun r1 s1 => ?_)
  refine k_aload_n (pc := 457) dL_law_457 rfl ?_
  refine k_aload_n (pc := 458) dL_law_458 rfl ?_
  refine k_iload_n (pc := 459) dL_law_459 rfl ?_
  refine k_iconst (pc := 460) (v := (nI 1)) dL_law_460 (by decide) ?_
  refine k_iadd (pc := 461) dL_law_461 ?_
  refine k_sld (pc := 462) hX.1 hX.2.1 hX.2.2.1 dL_law_462 ?_
  refine k_aload_n (pc := 463) dL_law_463 rfl ?_
  refine k_iload_n (pc := 464) dL_law_464 rfl ?_
  refine k_iconst (pc := 465) (v := (nI 2)) dL_law_465 (by decide) ?_
  refine k_iadd (pc := 466) dL_law_466 ?_
  refine k_sld (pc := 467) hX.1 hX.2.1 hX.2.2.1 dL_law_467 ?_
  refine k_LMi2 (pc := 468) ckX7_answer rfl kwm_L_57 ⟨rfl, rfl⟩ ⟨Nat.le_of_ble_eq_true rfl, Nat.le_of_ble_eq_true rfl⟩ ⟨Nat.le_of_ble_eq_true rfl, Nat.le_of_ble_eq_true rfl⟩ (Nat.le_of_ble_eq_true rfl) dL_law_468 (fun _ _ hf => kX7_answer hf) (fun r2 s2 => ?_)
  refine k_icmp_eq (pc := 471) 1070 dL_law_471 (by decide) ?_ KO.nil
  exact kL_next hk18 s2 i
noncomputable def fL_10 (Ls : Nat) (xs : Nat → Int32) (kh18 : k_S × k_S → Int32 → Option (Int32 × (k_S × k_S))) (s : k_S × k_S) (i : Int32) : Option (Int32 × (k_S × k_S)) := k_gd (i + (nI 1)) Ls (k_gd (i + (nI 2)) Ls (k_ob (fX6_borrowed s.1 (xs (Int32.toNatClampNeg (i + (nI 1)))) (xs (Int32.toNatClampNeg (i + (nI 2))))) fun r1 τ1 => k_bn (τ1, s.2) fun s1 => k_gd (i + (nI 1)) Ls (k_gd (i + (nI 2)) Ls (k_ob (fX7_borrowed s1.2 (xs (Int32.toNatClampNeg (i + (nI 1)))) (xs (Int32.toNatClampNeg (i + (nI 2))))) fun r2 τ2 => k_bn (s1.1, τ2) fun s2 => (if r1 = r2 then fL_next kh18 s2 i else none)))))
set_option maxRecDepth 100000 in
set_option maxHeartbeats 4000000 in
theorem kL_10 {X : k_C} {q : Nat → Nat} {b Ls : Nat} {xs : Nat → Int32} (hX : k_At X b Ls xs) (kh18 : k_S × k_S → Int32 → Option (Int32 × (k_S × k_S))) (hk18 : ∀ (s : k_S × k_S) (i : Int32), KO X YL (cL (k_I X) q) 50 2363 (k_QL X) 18 [some (.ref b), some (.ref (q 0)), some (.ref (q 30)), some (.int i)] [] s (kh18 s i)) (s : k_S × k_S) (i : Int32) : KO X YL (cL (k_I X) q) 50 2363 (k_QL X) 476 [some (.ref b), some (.ref (q 0)), some (.ref (q 30)), some (.int i)] [] s (fL_10 Ls xs kh18 s i) := by
  unfold fL_10
  refine k_aload_n (pc := 476) dL_law_476 rfl ?_
  refine k_aload_n (pc := 477) dL_law_477 rfl ?_
  refine k_iload_n (pc := 478) dL_law_478 rfl ?_
  refine k_iconst (pc := 479) (v := (nI 1)) dL_law_479 (by decide) ?_
  refine k_iadd (pc := 480) dL_law_480 ?_
  refine k_sld (pc := 481) hX.1 hX.2.1 hX.2.2.1 dL_law_481 ?_
  refine k_aload_n (pc := 482) dL_law_482 rfl ?_
  refine k_iload_n (pc := 483) dL_law_483 rfl ?_
  refine k_iconst (pc := 484) (v := (nI 2)) dL_law_484 (by decide) ?_
  refine k_iadd (pc := 485) dL_law_485 ?_
  refine k_sld (pc := 486) hX.1 hX.2.1 hX.2.2.1 dL_law_486 ?_
  refine k_LTi2 (pc := 487) ckX6_borrowed rfl kwm_L_58 ⟨rfl, rfl⟩ ⟨Nat.le_of_ble_eq_true rfl, Nat.le_of_ble_eq_true rfl⟩ ⟨Nat.le_of_ble_eq_true rfl, Nat.le_of_ble_eq_true rfl⟩ (Nat.le_of_ble_eq_true rfl) dL_law_487 (fun _ _ hf => kX6_borrowed hf) (fun r1 s1 => ?_)
  refine k_aload_n (pc := 490) dL_law_490 rfl ?_
  refine k_aload_n (pc := 491) dL_law_491 rfl ?_
  refine k_iload_n (pc := 492) dL_law_492 rfl ?_
  refine k_iconst (pc := 493) (v := (nI 1)) dL_law_493 (by decide) ?_
  refine k_iadd (pc := 494) dL_law_494 ?_
  refine k_sld (pc := 495) hX.1 hX.2.1 hX.2.2.1 dL_law_495 ?_
  refine k_aload_n (pc := 496) dL_law_496 rfl ?_
  refine k_iload_n (pc := 497) dL_law_497 rfl ?_
  refine k_iconst (pc := 498) (v := (nI 2)) dL_law_498 (by decide) ?_
  refine k_iadd (pc := 499) dL_law_499 ?_
  refine k_sld (pc := 500) hX.1 hX.2.1 hX.2.2.1 dL_law_500 ?_
  refine k_LMi2 (pc := 501) ckX7_borrowed rfl kwm_L_61 ⟨rfl, rfl⟩ ⟨Nat.le_of_ble_eq_true rfl, Nat.le_of_ble_eq_true rfl⟩ ⟨Nat.le_of_ble_eq_true rfl, Nat.le_of_ble_eq_true rfl⟩ (Nat.le_of_ble_eq_true rfl) dL_law_501 (fun _ _ hf => kX7_borrowed hf) (fun r2 s2 => ?_)
  refine k_icmp_eq (pc := 504) 1070 dL_law_504 (by decide) ?_ KO.nil
  exact kL_next hk18 s2 i
noncomputable def fL_11 (Ls : Nat) (xs : Nat → Int32) (kh18 : k_S × k_S → Int32 → Option (Int32 × (k_S × k_S))) (s : k_S × k_S) (i : Int32) : Option (Int32 × (k_S × k_S)) := k_gd (i + (nI 1)) Ls (k_ob (fX6_bishop s.1 (xs (Int32.toNatClampNeg (i + (nI 1))))) fun r1 τ1 => k_bn (τ1, s.2) fun s1 => k_gd (i + (nI 1)) Ls (k_ob (fX7_bishop s1.2 (xs (Int32.toNatClampNeg (i + (nI 1))))) fun r2 τ2 => k_bn (s1.1, τ2) fun s2 => (if r1 = r2 then fL_next kh18 s2 i else none)))
set_option maxRecDepth 100000 in
set_option maxHeartbeats 4000000 in
theorem kL_11 {X : k_C} {q : Nat → Nat} {b Ls : Nat} {xs : Nat → Int32} (hX : k_At X b Ls xs) (kh18 : k_S × k_S → Int32 → Option (Int32 × (k_S × k_S))) (hk18 : ∀ (s : k_S × k_S) (i : Int32), KO X YL (cL (k_I X) q) 50 2363 (k_QL X) 18 [some (.ref b), some (.ref (q 0)), some (.ref (q 30)), some (.int i)] [] s (kh18 s i)) (s : k_S × k_S) (i : Int32) : KO X YL (cL (k_I X) q) 50 2363 (k_QL X) 509 [some (.ref b), some (.ref (q 0)), some (.ref (q 30)), some (.int i)] [] s (fL_11 Ls xs kh18 s i) := by
  unfold fL_11
  refine k_aload_n (pc := 509) dL_law_509 rfl ?_
  refine k_aload_n (pc := 510) dL_law_510 rfl ?_
  refine k_iload_n (pc := 511) dL_law_511 rfl ?_
  refine k_iconst (pc := 512) (v := (nI 1)) dL_law_512 (by decide) ?_
  refine k_iadd (pc := 513) dL_law_513 ?_
  refine k_sld (pc := 514) hX.1 hX.2.1 hX.2.2.1 dL_law_514 ?_
  refine k_LTi1 (pc := 515) ckX6_bishop rfl kwm_L_62 ⟨rfl, rfl⟩ ⟨Nat.le_of_ble_eq_true rfl, Nat.le_of_ble_eq_true rfl⟩ ⟨Nat.le_of_ble_eq_true rfl, Nat.le_of_ble_eq_true rfl⟩ (Nat.le_of_ble_eq_true rfl) dL_law_515 (fun _ _ hf => kX6_bishop hf) (fun r1 s1 => ?_)
  refine k_aload_n (pc := 518) dL_law_518 rfl ?_
  refine k_aload_n (pc := 519) dL_law_519 rfl ?_
  refine k_iload_n (pc := 520) dL_law_520 rfl ?_
  refine k_iconst (pc := 521) (v := (nI 1)) dL_law_521 (by decide) ?_
  refine k_iadd (pc := 522) dL_law_522 ?_
  refine k_sld (pc := 523) hX.1 hX.2.1 hX.2.2.1 dL_law_523 ?_
  refine k_LMi1 (pc := 524) ckX7_bishop rfl kwm_L_65 ⟨rfl, rfl⟩ ⟨Nat.le_of_ble_eq_true rfl, Nat.le_of_ble_eq_true rfl⟩ ⟨Nat.le_of_ble_eq_true rfl, Nat.le_of_ble_eq_true rfl⟩ (Nat.le_of_ble_eq_true rfl) dL_law_524 (fun _ _ hf => kX7_bishop hf) (fun r2 s2 => ?_)
  refine k_icmp_eq (pc := 527) 1070 dL_law_527 (by decide) ?_ KO.nil
  exact kL_next hk18 s2 i
noncomputable def fL_12 (Ls : Nat) (xs : Nat → Int32) (kh18 : k_S × k_S → Int32 → Option (Int32 × (k_S × k_S))) (s : k_S × k_S) (i : Int32) : Option (Int32 × (k_S × k_S)) := k_gd (i + (nI 1)) Ls (k_ob (fX6_rests s.1 (xs (Int32.toNatClampNeg (i + (nI 1))))) fun r1 τ1 => k_bn (τ1, s.2) fun s1 => k_gd (i + (nI 1)) Ls (k_ob (fX7_rests s1.2 (xs (Int32.toNatClampNeg (i + (nI 1))))) fun r2 τ2 => k_bn (s1.1, τ2) fun s2 => (if r1 = r2 then fL_next kh18 s2 i else none)))
set_option maxRecDepth 100000 in
set_option maxHeartbeats 4000000 in
theorem kL_12 {X : k_C} {q : Nat → Nat} {b Ls : Nat} {xs : Nat → Int32} (hX : k_At X b Ls xs) (kh18 : k_S × k_S → Int32 → Option (Int32 × (k_S × k_S))) (hk18 : ∀ (s : k_S × k_S) (i : Int32), KO X YL (cL (k_I X) q) 50 2363 (k_QL X) 18 [some (.ref b), some (.ref (q 0)), some (.ref (q 30)), some (.int i)] [] s (kh18 s i)) (s : k_S × k_S) (i : Int32) : KO X YL (cL (k_I X) q) 50 2363 (k_QL X) 532 [some (.ref b), some (.ref (q 0)), some (.ref (q 30)), some (.int i)] [] s (fL_12 Ls xs kh18 s i) := by
  unfold fL_12
  refine k_aload_n (pc := 532) dL_law_532 rfl ?_
  refine k_aload_n (pc := 533) dL_law_533 rfl ?_
  refine k_iload_n (pc := 534) dL_law_534 rfl ?_
  refine k_iconst (pc := 535) (v := (nI 1)) dL_law_535 (by decide) ?_
  refine k_iadd (pc := 536) dL_law_536 ?_
  refine k_sld (pc := 537) hX.1 hX.2.1 hX.2.2.1 dL_law_537 ?_
  refine k_LTi1 (pc := 538) ckX6_rests rfl kwm_L_66 ⟨rfl, rfl⟩ ⟨Nat.le_of_ble_eq_true rfl, Nat.le_of_ble_eq_true rfl⟩ ⟨Nat.le_of_ble_eq_true rfl, Nat.le_of_ble_eq_true rfl⟩ (Nat.le_of_ble_eq_true rfl) dL_law_538 (fun _ _ hf => kX6_rests hf) (fun r1 s1 => ?_)
  refine k_aload_n (pc := 541) dL_law_541 rfl ?_
  refine k_aload_n (pc := 542) dL_law_542 rfl ?_
  refine k_iload_n (pc := 543) dL_law_543 rfl ?_
  refine k_iconst (pc := 544) (v := (nI 1)) dL_law_544 (by decide) ?_
  refine k_iadd (pc := 545) dL_law_545 ?_
  refine k_sld (pc := 546) hX.1 hX.2.1 hX.2.2.1 dL_law_546 ?_
  refine k_LMi1 (pc := 547) ckX7_rests rfl kwm_L_69 ⟨rfl, rfl⟩ ⟨Nat.le_of_ble_eq_true rfl, Nat.le_of_ble_eq_true rfl⟩ ⟨Nat.le_of_ble_eq_true rfl, Nat.le_of_ble_eq_true rfl⟩ (Nat.le_of_ble_eq_true rfl) dL_law_547 (fun _ _ hf => kX7_rests hf) (fun r2 s2 => ?_)
  refine k_icmp_eq (pc := 550) 1070 dL_law_550 (by decide) ?_ KO.nil
  exact kL_next hk18 s2 i
noncomputable def fL_13 (Ls : Nat) (xs : Nat → Int32) (kh18 : k_S × k_S → Int32 → Option (Int32 × (k_S × k_S))) (s : k_S × k_S) (i : Int32) : Option (Int32 × (k_S × k_S)) := k_gd (i + (nI 1)) Ls (k_gd (i + (nI 2)) Ls (k_gd (i + (nI 3)) Ls (k_gd (i + (nI 4)) Ls (k_gd (i + (nI 5)) Ls (k_gd (i + (nI 6)) Ls (k_ob (fX6_winter s.1 (xs (Int32.toNatClampNeg (i + (nI 1)))) (xs (Int32.toNatClampNeg (i + (nI 2)))) (xs (Int32.toNatClampNeg (i + (nI 3)))) (xs (Int32.toNatClampNeg (i + (nI 4)))) (xs (Int32.toNatClampNeg (i + (nI 5)))) (xs (Int32.toNatClampNeg (i + (nI 6))))) fun r1 τ1 => k_bn (τ1, s.2) fun s1 => k_gd (i + (nI 1)) Ls (k_gd (i + (nI 2)) Ls (k_gd (i + (nI 3)) Ls (k_gd (i + (nI 4)) Ls (k_gd (i + (nI 5)) Ls (k_gd (i + (nI 6)) Ls (k_ob (fX7_winter s1.2 (xs (Int32.toNatClampNeg (i + (nI 1)))) (xs (Int32.toNatClampNeg (i + (nI 2)))) (xs (Int32.toNatClampNeg (i + (nI 3)))) (xs (Int32.toNatClampNeg (i + (nI 4)))) (xs (Int32.toNatClampNeg (i + (nI 5)))) (xs (Int32.toNatClampNeg (i + (nI 6))))) fun r2 τ2 => k_bn (s1.1, τ2) fun s2 => (if r1 = r2 then fL_next kh18 s2 i else none)))))))))))))
set_option maxRecDepth 100000 in
set_option maxHeartbeats 4000000 in
theorem kL_13 {X : k_C} {q : Nat → Nat} {b Ls : Nat} {xs : Nat → Int32} (hX : k_At X b Ls xs) (kh18 : k_S × k_S → Int32 → Option (Int32 × (k_S × k_S))) (hk18 : ∀ (s : k_S × k_S) (i : Int32), KO X YL (cL (k_I X) q) 50 2363 (k_QL X) 18 [some (.ref b), some (.ref (q 0)), some (.ref (q 30)), some (.int i)] [] s (kh18 s i)) (s : k_S × k_S) (i : Int32) : KO X YL (cL (k_I X) q) 50 2363 (k_QL X) 555 [some (.ref b), some (.ref (q 0)), some (.ref (q 30)), some (.int i)] [] s (fL_13 Ls xs kh18 s i) := by
  unfold fL_13
  refine k_aload_n (pc := 555) dL_law_555 rfl ?_
  refine k_aload_n (pc := 556) dL_law_556 rfl ?_
  refine k_iload_n (pc := 557) dL_law_557 rfl ?_
  refine k_iconst (pc := 558) (v := (nI 1)) dL_law_558 (by decide) ?_
  refine k_iadd (pc := 559) dL_law_559 ?_
  refine k_sld (pc := 560) hX.1 hX.2.1 hX.2.2.1 dL_law_560 ?_
  refine k_aload_n (pc := 561) dL_law_561 rfl ?_
  refine k_iload_n (pc := 562) dL_law_562 rfl ?_
  refine k_iconst (pc := 563) (v := (nI 2)) dL_law_563 (by decide) ?_
  refine k_iadd (pc := 564) dL_law_564 ?_
  refine k_sld (pc := 565) hX.1 hX.2.1 hX.2.2.1 dL_law_565 ?_
  refine k_aload_n (pc := 566) dL_law_566 rfl ?_
  refine k_iload_n (pc := 567) dL_law_567 rfl ?_
  refine k_iconst (pc := 568) (v := (nI 3)) dL_law_568 (by decide) ?_
  refine k_iadd (pc := 569) dL_law_569 ?_
  refine k_sld (pc := 570) hX.1 hX.2.1 hX.2.2.1 dL_law_570 ?_
  refine k_aload_n (pc := 571) dL_law_571 rfl ?_
  refine k_iload_n (pc := 572) dL_law_572 rfl ?_
  refine k_iconst (pc := 573) (v := (nI 4)) dL_law_573 (by decide) ?_
  refine k_iadd (pc := 574) dL_law_574 ?_
  refine k_sld (pc := 575) hX.1 hX.2.1 hX.2.2.1 dL_law_575 ?_
  refine k_aload_n (pc := 576) dL_law_576 rfl ?_
  refine k_iload_n (pc := 577) dL_law_577 rfl ?_
  refine k_iconst (pc := 578) (v := (nI 5)) dL_law_578 (by decide) ?_
  refine k_iadd (pc := 579) dL_law_579 ?_
  refine k_sld (pc := 580) hX.1 hX.2.1 hX.2.2.1 dL_law_580 ?_
  refine k_aload_n (pc := 581) dL_law_581 rfl ?_
  refine k_iload_n (pc := 582) dL_law_582 rfl ?_
  refine k_bipush (pc := 583) (v := (nI 6)) dL_law_583 (by decide) ?_
  refine k_iadd (pc := 585) dL_law_585 ?_
  refine k_sld (pc := 586) hX.1 hX.2.1 hX.2.2.1 dL_law_586 ?_
  refine k_LTi6 (pc := 587) ckX6_winter rfl kwm_L_70 ⟨rfl, rfl⟩ ⟨Nat.le_of_ble_eq_true rfl, Nat.le_of_ble_eq_true rfl⟩ ⟨Nat.le_of_ble_eq_true rfl, Nat.le_of_ble_eq_true rfl⟩ (Nat.le_of_ble_eq_true rfl) dL_law_587 (fun _ _ hf => kX6_winter hf) (fun r1 s1 => ?_)
  refine k_aload_n (pc := 590) dL_law_590 rfl ?_
  refine k_aload_n (pc := 591) dL_law_591 rfl ?_
  refine k_iload_n (pc := 592) dL_law_592 rfl ?_
  refine k_iconst (pc := 593) (v := (nI 1)) dL_law_593 (by decide) ?_
  refine k_iadd (pc := 594) dL_law_594 ?_
  refine k_sld (pc := 595) hX.1 hX.2.1 hX.2.2.1 dL_law_595 ?_
  refine k_aload_n (pc := 596) dL_law_596 rfl ?_
  refine k_iload_n (pc := 597) dL_law_597 rfl ?_
  refine k_iconst (pc := 598) (v := (nI 2)) dL_law_598 (by decide) ?_
  refine k_iadd (pc := 599) dL_law_599 ?_
  refine k_sld (pc := 600) hX.1 hX.2.1 hX.2.2.1 dL_law_600 ?_
  refine k_aload_n (pc := 601) dL_law_601 rfl ?_
  refine k_iload_n (pc := 602) dL_law_602 rfl ?_
  refine k_iconst (pc := 603) (v := (nI 3)) dL_law_603 (by decide) ?_
  refine k_iadd (pc := 604) dL_law_604 ?_
  refine k_sld (pc := 605) hX.1 hX.2.1 hX.2.2.1 dL_law_605 ?_
  refine k_aload_n (pc := 606) dL_law_606 rfl ?_
  refine k_iload_n (pc := 607) dL_law_607 rfl ?_
  refine k_iconst (pc := 608) (v := (nI 4)) dL_law_608 (by decide) ?_
  refine k_iadd (pc := 609) dL_law_609 ?_
  refine k_sld (pc := 610) hX.1 hX.2.1 hX.2.2.1 dL_law_610 ?_
  refine k_aload_n (pc := 611) dL_law_611 rfl ?_
  refine k_iload_n (pc := 612) dL_law_612 rfl ?_
  refine k_iconst (pc := 613) (v := (nI 5)) dL_law_613 (by decide) ?_
  refine k_iadd (pc := 614) dL_law_614 ?_
  refine k_sld (pc := 615) hX.1 hX.2.1 hX.2.2.1 dL_law_615 ?_
  refine k_aload_n (pc := 616) dL_law_616 rfl ?_
  refine k_iload_n (pc := 617) dL_law_617 rfl ?_
  refine k_bipush (pc := 618) (v := (nI 6)) dL_law_618 (by decide) ?_
  refine k_iadd (pc := 620) dL_law_620 ?_
  refine k_sld (pc := 621) hX.1 hX.2.1 hX.2.2.1 dL_law_621 ?_
  refine k_LMi6 (pc := 622) ckX7_winter rfl kwm_L_74 ⟨rfl, rfl⟩ ⟨Nat.le_of_ble_eq_true rfl, Nat.le_of_ble_eq_true rfl⟩ ⟨Nat.le_of_ble_eq_true rfl, Nat.le_of_ble_eq_true rfl⟩ (Nat.le_of_ble_eq_true rfl) dL_law_622 (fun _ _ hf => kX7_winter hf) (fun r2 s2 => ?_)
  refine k_icmp_eq (pc := 625) 1070 dL_law_625 (by decide) ?_ KO.nil
  exact kL_next hk18 s2 i
noncomputable def fL_14 (Ls : Nat) (xs : Nat → Int32) (kh18 : k_S × k_S → Int32 → Option (Int32 × (k_S × k_S))) (s : k_S × k_S) (i : Int32) : Option (Int32 × (k_S × k_S)) := k_gd (i + (nI 1)) Ls (k_gd (i + (nI 2)) Ls (k_ob (fX6_trade s.1 (xs (Int32.toNatClampNeg (i + (nI 1)))) (xs (Int32.toNatClampNeg (i + (nI 2))))) fun r1 τ1 => k_bn (τ1, s.2) fun s1 => k_gd (i + (nI 1)) Ls (k_gd (i + (nI 2)) Ls (k_ob (fX7_trade s1.2 (xs (Int32.toNatClampNeg (i + (nI 1)))) (xs (Int32.toNatClampNeg (i + (nI 2))))) fun r2 τ2 => k_bn (s1.1, τ2) fun s2 => (if r1 = r2 then fL_next kh18 s2 i else none)))))
set_option maxRecDepth 100000 in
set_option maxHeartbeats 4000000 in
theorem kL_14 {X : k_C} {q : Nat → Nat} {b Ls : Nat} {xs : Nat → Int32} (hX : k_At X b Ls xs) (kh18 : k_S × k_S → Int32 → Option (Int32 × (k_S × k_S))) (hk18 : ∀ (s : k_S × k_S) (i : Int32), KO X YL (cL (k_I X) q) 50 2363 (k_QL X) 18 [some (.ref b), some (.ref (q 0)), some (.ref (q 30)), some (.int i)] [] s (kh18 s i)) (s : k_S × k_S) (i : Int32) : KO X YL (cL (k_I X) q) 50 2363 (k_QL X) 630 [some (.ref b), some (.ref (q 0)), some (.ref (q 30)), some (.int i)] [] s (fL_14 Ls xs kh18 s i) := by
  unfold fL_14
  refine k_aload_n (pc := 630) dL_law_630 rfl ?_
  refine k_aload_n (pc := 631) dL_law_631 rfl ?_
  refine k_iload_n (pc := 632) dL_law_632 rfl ?_
  refine k_iconst (pc := 633) (v := (nI 1)) dL_law_633 (by decide) ?_
  refine k_iadd (pc := 634) dL_law_634 ?_
  refine k_sld (pc := 635) hX.1 hX.2.1 hX.2.2.1 dL_law_635 ?_
  refine k_aload_n (pc := 636) dL_law_636 rfl ?_
  refine k_iload_n (pc := 637) dL_law_637 rfl ?_
  refine k_iconst (pc := 638) (v := (nI 2)) dL_law_638 (by decide) ?_
  refine k_iadd (pc := 639) dL_law_639 ?_
  refine k_sld (pc := 640) hX.1 hX.2.1 hX.2.2.1 dL_law_640 ?_
  refine k_LTi2 (pc := 641) ckX6_trade rfl kwm_L_75 ⟨rfl, rfl⟩ ⟨Nat.le_of_ble_eq_true rfl, Nat.le_of_ble_eq_true rfl⟩ ⟨Nat.le_of_ble_eq_true rfl, Nat.le_of_ble_eq_true rfl⟩ (Nat.le_of_ble_eq_true rfl) dL_law_641 (fun _ _ hf => kX6_trade hf) (fun r1 s1 => ?_)
  refine k_aload_n (pc := 644) dL_law_644 rfl ?_
  refine k_aload_n (pc := 645) dL_law_645 rfl ?_
  refine k_iload_n (pc := 646) dL_law_646 rfl ?_
  refine k_iconst (pc := 647) (v := (nI 1)) dL_law_647 (by decide) ?_
  refine k_iadd (pc := 648) dL_law_648 ?_
  refine k_sld (pc := 649) hX.1 hX.2.1 hX.2.2.1 dL_law_649 ?_
  refine k_aload_n (pc := 650) dL_law_650 rfl ?_
  refine k_iload_n (pc := 651) dL_law_651 rfl ?_
  refine k_iconst (pc := 652) (v := (nI 2)) dL_law_652 (by decide) ?_
  refine k_iadd (pc := 653) dL_law_653 ?_
  refine k_sld (pc := 654) hX.1 hX.2.1 hX.2.2.1 dL_law_654 ?_
  refine k_LMi2 (pc := 655) ckX7_trade rfl kwm_L_78 ⟨rfl, rfl⟩ ⟨Nat.le_of_ble_eq_true rfl, Nat.le_of_ble_eq_true rfl⟩ ⟨Nat.le_of_ble_eq_true rfl, Nat.le_of_ble_eq_true rfl⟩ (Nat.le_of_ble_eq_true rfl) dL_law_655 (fun _ _ hf => kX7_trade hf) (fun r2 s2 => ?_)
  refine k_icmp_eq (pc := 658) 1070 dL_law_658 (by decide) ?_ KO.nil
  exact kL_next hk18 s2 i
noncomputable def fL_15 (Ls : Nat) (xs : Nat → Int32) (kh18 : k_S × k_S → Int32 → Option (Int32 × (k_S × k_S))) (s : k_S × k_S) (i : Int32) : Option (Int32 × (k_S × k_S)) := k_gd (i + (nI 1)) Ls (k_gd (i + (nI 2)) Ls (k_gd (i + (nI 3)) Ls (k_gd (i + (nI 4)) Ls (k_gd (i + (nI 5)) Ls (k_ob (fX6_toldBy s.1 (xs (Int32.toNatClampNeg (i + (nI 1)))) (xs (Int32.toNatClampNeg (i + (nI 2)))) (xs (Int32.toNatClampNeg (i + (nI 3)))) (xs (Int32.toNatClampNeg (i + (nI 4)))) (xs (Int32.toNatClampNeg (i + (nI 5))))) fun r1 τ1 => k_bn (τ1, s.2) fun s1 => k_gd (i + (nI 1)) Ls (k_gd (i + (nI 2)) Ls (k_gd (i + (nI 3)) Ls (k_gd (i + (nI 4)) Ls (k_gd (i + (nI 5)) Ls (k_ob (fX7_toldBy s1.2 (xs (Int32.toNatClampNeg (i + (nI 1)))) (xs (Int32.toNatClampNeg (i + (nI 2)))) (xs (Int32.toNatClampNeg (i + (nI 3)))) (xs (Int32.toNatClampNeg (i + (nI 4)))) (xs (Int32.toNatClampNeg (i + (nI 5))))) fun r2 τ2 => k_bn (s1.1, τ2) fun s2 => (if r1 = r2 then fL_next kh18 s2 i else none)))))))))))
set_option maxRecDepth 100000 in
set_option maxHeartbeats 4000000 in
theorem kL_15 {X : k_C} {q : Nat → Nat} {b Ls : Nat} {xs : Nat → Int32} (hX : k_At X b Ls xs) (kh18 : k_S × k_S → Int32 → Option (Int32 × (k_S × k_S))) (hk18 : ∀ (s : k_S × k_S) (i : Int32), KO X YL (cL (k_I X) q) 50 2363 (k_QL X) 18 [some (.ref b), some (.ref (q 0)), some (.ref (q 30)), some (.int i)] [] s (kh18 s i)) (s : k_S × k_S) (i : Int32) : KO X YL (cL (k_I X) q) 50 2363 (k_QL X) 663 [some (.ref b), some (.ref (q 0)), some (.ref (q 30)), some (.int i)] [] s (fL_15 Ls xs kh18 s i) := by
  unfold fL_15
  refine k_aload_n (pc := 663) dL_law_663 rfl ?_
  refine k_aload_n (pc := 664) dL_law_664 rfl ?_
  refine k_iload_n (pc := 665) dL_law_665 rfl ?_
  refine k_iconst (pc := 666) (v := (nI 1)) dL_law_666 (by decide) ?_
  refine k_iadd (pc := 667) dL_law_667 ?_
  refine k_sld (pc := 668) hX.1 hX.2.1 hX.2.2.1 dL_law_668 ?_
  refine k_aload_n (pc := 669) dL_law_669 rfl ?_
  refine k_iload_n (pc := 670) dL_law_670 rfl ?_
  refine k_iconst (pc := 671) (v := (nI 2)) dL_law_671 (by decide) ?_
  refine k_iadd (pc := 672) dL_law_672 ?_
  refine k_sld (pc := 673) hX.1 hX.2.1 hX.2.2.1 dL_law_673 ?_
  refine k_aload_n (pc := 674) dL_law_674 rfl ?_
  refine k_iload_n (pc := 675) dL_law_675 rfl ?_
  refine k_iconst (pc := 676) (v := (nI 3)) dL_law_676 (by decide) ?_
  refine k_iadd (pc := 677) dL_law_677 ?_
  refine k_sld (pc := 678) hX.1 hX.2.1 hX.2.2.1 dL_law_678 ?_
  refine k_aload_n (pc := 679) dL_law_679 rfl ?_
  refine k_iload_n (pc := 680) dL_law_680 rfl ?_
  refine k_iconst (pc := 681) (v := (nI 4)) dL_law_681 (by decide) ?_
  refine k_iadd (pc := 682) dL_law_682 ?_
  refine k_sld (pc := 683) hX.1 hX.2.1 hX.2.2.1 dL_law_683 ?_
  refine k_aload_n (pc := 684) dL_law_684 rfl ?_
  refine k_iload_n (pc := 685) dL_law_685 rfl ?_
  refine k_iconst (pc := 686) (v := (nI 5)) dL_law_686 (by decide) ?_
  refine k_iadd (pc := 687) dL_law_687 ?_
  refine k_sld (pc := 688) hX.1 hX.2.1 hX.2.2.1 dL_law_688 ?_
  refine k_LTi5 (pc := 689) ckX6_toldBy rfl kwm_L_79 ⟨rfl, rfl⟩ ⟨Nat.le_of_ble_eq_true rfl, Nat.le_of_ble_eq_true rfl⟩ ⟨Nat.le_of_ble_eq_true rfl, Nat.le_of_ble_eq_true rfl⟩ (Nat.le_of_ble_eq_true rfl) dL_law_689 (fun _ _ hf => kX6_toldBy hf) (fun r1 s1 => ?_)
  refine k_aload_n (pc := 692) dL_law_692 rfl ?_
  refine k_aload_n (pc := 693) dL_law_693 rfl ?_
  refine k_iload_n (pc := 694) dL_law_694 rfl ?_
  refine k_iconst (pc := 695) (v := (nI 1)) dL_law_695 (by decide) ?_
  refine k_iadd (pc := 696) dL_law_696 ?_
  refine k_sld (pc := 697) hX.1 hX.2.1 hX.2.2.1 dL_law_697 ?_
  refine k_aload_n (pc := 698) dL_law_698 rfl ?_
  refine k_iload_n (pc := 699) dL_law_699 rfl ?_
  refine k_iconst (pc := 700) (v := (nI 2)) dL_law_700 (by decide) ?_
  refine k_iadd (pc := 701) dL_law_701 ?_
  refine k_sld (pc := 702) hX.1 hX.2.1 hX.2.2.1 dL_law_702 ?_
  refine k_aload_n (pc := 703) dL_law_703 rfl ?_
  refine k_iload_n (pc := 704) dL_law_704 rfl ?_
  refine k_iconst (pc := 705) (v := (nI 3)) dL_law_705 (by decide) ?_
  refine k_iadd (pc := 706) dL_law_706 ?_
  refine k_sld (pc := 707) hX.1 hX.2.1 hX.2.2.1 dL_law_707 ?_
  refine k_aload_n (pc := 708) dL_law_708 rfl ?_
  refine k_iload_n (pc := 709) dL_law_709 rfl ?_
  refine k_iconst (pc := 710) (v := (nI 4)) dL_law_710 (by decide) ?_
  refine k_iadd (pc := 711) dL_law_711 ?_
  refine k_sld (pc := 712) hX.1 hX.2.1 hX.2.2.1 dL_law_712 ?_
  refine k_aload_n (pc := 713) dL_law_713 rfl ?_
  refine k_iload_n (pc := 714) dL_law_714 rfl ?_
  refine k_iconst (pc := 715) (v := (nI 5)) dL_law_715 (by decide) ?_
  refine k_iadd (pc := 716) dL_law_716 ?_
  refine k_sld (pc := 717) hX.1 hX.2.1 hX.2.2.1 dL_law_717 ?_
  refine k_LMi5 (pc := 718) ckX7_toldBy rfl kwm_L_83 ⟨rfl, rfl⟩ ⟨Nat.le_of_ble_eq_true rfl, Nat.le_of_ble_eq_true rfl⟩ ⟨Nat.le_of_ble_eq_true rfl, Nat.le_of_ble_eq_true rfl⟩ (Nat.le_of_ble_eq_true rfl) dL_law_718 (fun _ _ hf => kX7_toldBy hf) (fun r2 s2 => ?_)
  refine k_icmp_eq (pc := 721) 1070 dL_law_721 (by decide) ?_ KO.nil
  exact kL_next hk18 s2 i
noncomputable def fL_16 (Ls : Nat) (xs : Nat → Int32) (kh18 : k_S × k_S → Int32 → Option (Int32 × (k_S × k_S))) (s : k_S × k_S) (i : Int32) : Option (Int32 × (k_S × k_S)) := k_gd (i + (nI 1)) Ls (k_gd (i + (nI 2)) Ls (k_gd (i + (nI 3)) Ls (k_ob (fX6_sheet s.1 (xs (Int32.toNatClampNeg (i + (nI 1)))) (xs (Int32.toNatClampNeg (i + (nI 2)))) (xs (Int32.toNatClampNeg (i + (nI 3))))) fun r1 τ1 => k_bn (τ1, s.2) fun s1 => k_gd (i + (nI 1)) Ls (k_gd (i + (nI 2)) Ls (k_gd (i + (nI 3)) Ls (k_ob (fX7_sheet s1.2 (xs (Int32.toNatClampNeg (i + (nI 1)))) (xs (Int32.toNatClampNeg (i + (nI 2)))) (xs (Int32.toNatClampNeg (i + (nI 3))))) fun r2 τ2 => k_bn (s1.1, τ2) fun s2 => (if r1 = r2 then fL_next kh18 s2 i else none)))))))
set_option maxRecDepth 100000 in
set_option maxHeartbeats 4000000 in
theorem kL_16 {X : k_C} {q : Nat → Nat} {b Ls : Nat} {xs : Nat → Int32} (hX : k_At X b Ls xs) (kh18 : k_S × k_S → Int32 → Option (Int32 × (k_S × k_S))) (hk18 : ∀ (s : k_S × k_S) (i : Int32), KO X YL (cL (k_I X) q) 50 2363 (k_QL X) 18 [some (.ref b), some (.ref (q 0)), some (.ref (q 30)), some (.int i)] [] s (kh18 s i)) (s : k_S × k_S) (i : Int32) : KO X YL (cL (k_I X) q) 50 2363 (k_QL X) 726 [some (.ref b), some (.ref (q 0)), some (.ref (q 30)), some (.int i)] [] s (fL_16 Ls xs kh18 s i) := by
  unfold fL_16
  refine k_aload_n (pc := 726) dL_law_726 rfl ?_
  refine k_aload_n (pc := 727) dL_law_727 rfl ?_
  refine k_iload_n (pc := 728) dL_law_728 rfl ?_
  refine k_iconst (pc := 729) (v := (nI 1)) dL_law_729 (by decide) ?_
  refine k_iadd (pc := 730) dL_law_730 ?_
  refine k_sld (pc := 731) hX.1 hX.2.1 hX.2.2.1 dL_law_731 ?_
  refine k_aload_n (pc := 732) dL_law_732 rfl ?_
  refine k_iload_n (pc := 733) dL_law_733 rfl ?_
  refine k_iconst (pc := 734) (v := (nI 2)) dL_law_734 (by decide) ?_
  refine k_iadd (pc := 735) dL_law_735 ?_
  refine k_sld (pc := 736) hX.1 hX.2.1 hX.2.2.1 dL_law_736 ?_
  refine k_aload_n (pc := 737) dL_law_737 rfl ?_
  refine k_iload_n (pc := 738) dL_law_738 rfl ?_
  refine k_iconst (pc := 739) (v := (nI 3)) dL_law_739 (by decide) ?_
  refine k_iadd (pc := 740) dL_law_740 ?_
  refine k_sld (pc := 741) hX.1 hX.2.1 hX.2.2.1 dL_law_741 ?_
  refine k_LTi3 (pc := 742) ckX6_sheet rfl kwm_L_84 ⟨rfl, rfl⟩ ⟨Nat.le_of_ble_eq_true rfl, Nat.le_of_ble_eq_true rfl⟩ ⟨Nat.le_of_ble_eq_true rfl, Nat.le_of_ble_eq_true rfl⟩ (Nat.le_of_ble_eq_true rfl) dL_law_742 (fun _ _ hf => kX6_sheet hf) (fun r1 s1 => ?_)
  refine k_aload_n (pc := 745) dL_law_745 rfl ?_
  refine k_aload_n (pc := 746) dL_law_746 rfl ?_
  refine k_iload_n (pc := 747) dL_law_747 rfl ?_
  refine k_iconst (pc := 748) (v := (nI 1)) dL_law_748 (by decide) ?_
  refine k_iadd (pc := 749) dL_law_749 ?_
  refine k_sld (pc := 750) hX.1 hX.2.1 hX.2.2.1 dL_law_750 ?_
  refine k_aload_n (pc := 751) dL_law_751 rfl ?_
  refine k_iload_n (pc := 752) dL_law_752 rfl ?_
  refine k_iconst (pc := 753) (v := (nI 2)) dL_law_753 (by decide) ?_
  refine k_iadd (pc := 754) dL_law_754 ?_
  refine k_sld (pc := 755) hX.1 hX.2.1 hX.2.2.1 dL_law_755 ?_
  refine k_aload_n (pc := 756) dL_law_756 rfl ?_
  refine k_iload_n (pc := 757) dL_law_757 rfl ?_
  refine k_iconst (pc := 758) (v := (nI 3)) dL_law_758 (by decide) ?_
  refine k_iadd (pc := 759) dL_law_759 ?_
  refine k_sld (pc := 760) hX.1 hX.2.1 hX.2.2.1 dL_law_760 ?_
  refine k_LMi3 (pc := 761) ckX7_sheet rfl kwm_L_87 ⟨rfl, rfl⟩ ⟨Nat.le_of_ble_eq_true rfl, Nat.le_of_ble_eq_true rfl⟩ ⟨Nat.le_of_ble_eq_true rfl, Nat.le_of_ble_eq_true rfl⟩ (Nat.le_of_ble_eq_true rfl) dL_law_761 (fun _ _ hf => kX7_sheet hf) (fun r2 s2 => ?_)
  refine k_icmp_eq (pc := 764) 1070 dL_law_764 (by decide) ?_ KO.nil
  exact kL_next hk18 s2 i
noncomputable def fL_17 (Ls : Nat) (xs : Nat → Int32) (kh18 : k_S × k_S → Int32 → Option (Int32 × (k_S × k_S))) (s : k_S × k_S) (i : Int32) : Option (Int32 × (k_S × k_S)) := k_gd (i + (nI 1)) Ls (k_ob (fX6_lose s.1 (xs (Int32.toNatClampNeg (i + (nI 1))))) fun r1 τ1 => k_bn (τ1, s.2) fun s1 => k_gd (i + (nI 1)) Ls (k_ob (fX7_lose s1.2 (xs (Int32.toNatClampNeg (i + (nI 1))))) fun r2 τ2 => k_bn (s1.1, τ2) fun s2 => (if r1 = r2 then fL_next kh18 s2 i else none)))
set_option maxRecDepth 100000 in
set_option maxHeartbeats 4000000 in
theorem kL_17 {X : k_C} {q : Nat → Nat} {b Ls : Nat} {xs : Nat → Int32} (hX : k_At X b Ls xs) (kh18 : k_S × k_S → Int32 → Option (Int32 × (k_S × k_S))) (hk18 : ∀ (s : k_S × k_S) (i : Int32), KO X YL (cL (k_I X) q) 50 2363 (k_QL X) 18 [some (.ref b), some (.ref (q 0)), some (.ref (q 30)), some (.int i)] [] s (kh18 s i)) (s : k_S × k_S) (i : Int32) : KO X YL (cL (k_I X) q) 50 2363 (k_QL X) 769 [some (.ref b), some (.ref (q 0)), some (.ref (q 30)), some (.int i)] [] s (fL_17 Ls xs kh18 s i) := by
  unfold fL_17
  refine k_aload_n (pc := 769) dL_law_769 rfl ?_
  refine k_aload_n (pc := 770) dL_law_770 rfl ?_
  refine k_iload_n (pc := 771) dL_law_771 rfl ?_
  refine k_iconst (pc := 772) (v := (nI 1)) dL_law_772 (by decide) ?_
  refine k_iadd (pc := 773) dL_law_773 ?_
  refine k_sld (pc := 774) hX.1 hX.2.1 hX.2.2.1 dL_law_774 ?_
  refine k_LTi1 (pc := 775) ckX6_lose rfl kwm_L_88 ⟨rfl, rfl⟩ ⟨Nat.le_of_ble_eq_true rfl, Nat.le_of_ble_eq_true rfl⟩ ⟨Nat.le_of_ble_eq_true rfl, Nat.le_of_ble_eq_true rfl⟩ (Nat.le_of_ble_eq_true rfl) dL_law_775 (fun _ _ hf => kX6_lose hf) (fun r1 s1 => ?_)
  refine k_aload_n (pc := 778) dL_law_778 rfl ?_
  refine k_aload_n (pc := 779) dL_law_779 rfl ?_
  refine k_iload_n (pc := 780) dL_law_780 rfl ?_
  refine k_iconst (pc := 781) (v := (nI 1)) dL_law_781 (by decide) ?_
  refine k_iadd (pc := 782) dL_law_782 ?_
  refine k_sld (pc := 783) hX.1 hX.2.1 hX.2.2.1 dL_law_783 ?_
  refine k_LMi1 (pc := 784) ckX7_lose rfl kwm_L_91 ⟨rfl, rfl⟩ ⟨Nat.le_of_ble_eq_true rfl, Nat.le_of_ble_eq_true rfl⟩ ⟨Nat.le_of_ble_eq_true rfl, Nat.le_of_ble_eq_true rfl⟩ (Nat.le_of_ble_eq_true rfl) dL_law_784 (fun _ _ hf => kX7_lose hf) (fun r2 s2 => ?_)
  refine k_icmp_eq (pc := 787) 1070 dL_law_787 (by decide) ?_ KO.nil
  exact kL_next hk18 s2 i
noncomputable def fL_18 (Ls : Nat) (xs : Nat → Int32) (kh18 : k_S × k_S → Int32 → Option (Int32 × (k_S × k_S))) (s : k_S × k_S) (i : Int32) : Option (Int32 × (k_S × k_S)) := k_gd (i + (nI 1)) Ls (k_gd (i + (nI 2)) Ls (k_gd (i + (nI 3)) Ls (k_ob (fX6_put s.1 (xs (Int32.toNatClampNeg (i + (nI 1)))) (xs (Int32.toNatClampNeg (i + (nI 2)))) (xs (Int32.toNatClampNeg (i + (nI 3))))) fun r1 τ1 => k_bn (τ1, s.2) fun s1 => k_gd (i + (nI 1)) Ls (k_gd (i + (nI 2)) Ls (k_gd (i + (nI 3)) Ls (k_ob (fX7_put s1.2 (xs (Int32.toNatClampNeg (i + (nI 1)))) (xs (Int32.toNatClampNeg (i + (nI 2)))) (xs (Int32.toNatClampNeg (i + (nI 3))))) fun r2 τ2 => k_bn (s1.1, τ2) fun s2 => (if r1 = r2 then fL_next kh18 s2 i else none)))))))
set_option maxRecDepth 100000 in
set_option maxHeartbeats 4000000 in
theorem kL_18 {X : k_C} {q : Nat → Nat} {b Ls : Nat} {xs : Nat → Int32} (hX : k_At X b Ls xs) (kh18 : k_S × k_S → Int32 → Option (Int32 × (k_S × k_S))) (hk18 : ∀ (s : k_S × k_S) (i : Int32), KO X YL (cL (k_I X) q) 50 2363 (k_QL X) 18 [some (.ref b), some (.ref (q 0)), some (.ref (q 30)), some (.int i)] [] s (kh18 s i)) (s : k_S × k_S) (i : Int32) : KO X YL (cL (k_I X) q) 50 2363 (k_QL X) 792 [some (.ref b), some (.ref (q 0)), some (.ref (q 30)), some (.int i)] [] s (fL_18 Ls xs kh18 s i) := by
  unfold fL_18
  refine k_aload_n (pc := 792) dL_law_792 rfl ?_
  refine k_aload_n (pc := 793) dL_law_793 rfl ?_
  refine k_iload_n (pc := 794) dL_law_794 rfl ?_
  refine k_iconst (pc := 795) (v := (nI 1)) dL_law_795 (by decide) ?_
  refine k_iadd (pc := 796) dL_law_796 ?_
  refine k_sld (pc := 797) hX.1 hX.2.1 hX.2.2.1 dL_law_797 ?_
  refine k_aload_n (pc := 798) dL_law_798 rfl ?_
  refine k_iload_n (pc := 799) dL_law_799 rfl ?_
  refine k_iconst (pc := 800) (v := (nI 2)) dL_law_800 (by decide) ?_
  refine k_iadd (pc := 801) dL_law_801 ?_
  refine k_sld (pc := 802) hX.1 hX.2.1 hX.2.2.1 dL_law_802 ?_
  refine k_aload_n (pc := 803) dL_law_803 rfl ?_
  refine k_iload_n (pc := 804) dL_law_804 rfl ?_
  refine k_iconst (pc := 805) (v := (nI 3)) dL_law_805 (by decide) ?_
  refine k_iadd (pc := 806) dL_law_806 ?_
  refine k_sld (pc := 807) hX.1 hX.2.1 hX.2.2.1 dL_law_807 ?_
  refine k_LTi3 (pc := 808) ckX6_put rfl kwm_L_92 ⟨rfl, rfl⟩ ⟨Nat.le_of_ble_eq_true rfl, Nat.le_of_ble_eq_true rfl⟩ ⟨Nat.le_of_ble_eq_true rfl, Nat.le_of_ble_eq_true rfl⟩ (Nat.le_of_ble_eq_true rfl) dL_law_808 (fun _ _ hf => kX6_put hf) (fun r1 s1 => ?_)
  refine k_aload_n (pc := 811) dL_law_811 rfl ?_
  refine k_aload_n (pc := 812) dL_law_812 rfl ?_
  refine k_iload_n (pc := 813) dL_law_813 rfl ?_
  refine k_iconst (pc := 814) (v := (nI 1)) dL_law_814 (by decide) ?_
  refine k_iadd (pc := 815) dL_law_815 ?_
  refine k_sld (pc := 816) hX.1 hX.2.1 hX.2.2.1 dL_law_816 ?_
  refine k_aload_n (pc := 817) dL_law_817 rfl ?_
  refine k_iload_n (pc := 818) dL_law_818 rfl ?_
  refine k_iconst (pc := 819) (v := (nI 2)) dL_law_819 (by decide) ?_
  refine k_iadd (pc := 820) dL_law_820 ?_
  refine k_sld (pc := 821) hX.1 hX.2.1 hX.2.2.1 dL_law_821 ?_
  refine k_aload_n (pc := 822) dL_law_822 rfl ?_
  refine k_iload_n (pc := 823) dL_law_823 rfl ?_
  refine k_iconst (pc := 824) (v := (nI 3)) dL_law_824 (by decide) ?_
  refine k_iadd (pc := 825) dL_law_825 ?_
  refine k_sld (pc := 826) hX.1 hX.2.1 hX.2.2.1 dL_law_826 ?_
  refine k_LMi3 (pc := 827) ckX7_put rfl kwm_L_95 ⟨rfl, rfl⟩ ⟨Nat.le_of_ble_eq_true rfl, Nat.le_of_ble_eq_true rfl⟩ ⟨Nat.le_of_ble_eq_true rfl, Nat.le_of_ble_eq_true rfl⟩ (Nat.le_of_ble_eq_true rfl) dL_law_827 (fun _ _ hf => kX7_put hf) (fun r2 s2 => ?_)
  refine k_icmp_eq (pc := 830) 1070 dL_law_830 (by decide) ?_ KO.nil
  exact kL_next hk18 s2 i
noncomputable def fL_19 (Ls : Nat) (xs : Nat → Int32) (kh18 : k_S × k_S → Int32 → Option (Int32 × (k_S × k_S))) (s : k_S × k_S) (i : Int32) : Option (Int32 × (k_S × k_S)) := k_gd (i + (nI 1)) Ls (k_gd (i + (nI 2)) Ls (k_gd (i + (nI 3)) Ls (k_ob (fX6_cell s.1 (xs (Int32.toNatClampNeg (i + (nI 1)))) (xs (Int32.toNatClampNeg (i + (nI 2)))) (xs (Int32.toNatClampNeg (i + (nI 3))))) fun r1 τ1 => k_bn (τ1, s.2) fun s1 => k_gd (i + (nI 1)) Ls (k_gd (i + (nI 2)) Ls (k_gd (i + (nI 3)) Ls (k_ob (fX7_cell s1.2 (xs (Int32.toNatClampNeg (i + (nI 1)))) (xs (Int32.toNatClampNeg (i + (nI 2)))) (xs (Int32.toNatClampNeg (i + (nI 3))))) fun r2 τ2 => k_bn (s1.1, τ2) fun s2 => (if (lg_cmp r1 r2) = 0 then fL_next kh18 s2 i else none)))))))
set_option maxRecDepth 100000 in
set_option maxHeartbeats 4000000 in
theorem kL_19 {X : k_C} {q : Nat → Nat} {b Ls : Nat} {xs : Nat → Int32} (hX : k_At X b Ls xs) (kh18 : k_S × k_S → Int32 → Option (Int32 × (k_S × k_S))) (hk18 : ∀ (s : k_S × k_S) (i : Int32), KO X YL (cL (k_I X) q) 50 2363 (k_QL X) 18 [some (.ref b), some (.ref (q 0)), some (.ref (q 30)), some (.int i)] [] s (kh18 s i)) (s : k_S × k_S) (i : Int32) : KO X YL (cL (k_I X) q) 50 2363 (k_QL X) 835 [some (.ref b), some (.ref (q 0)), some (.ref (q 30)), some (.int i)] [] s (fL_19 Ls xs kh18 s i) := by
  unfold fL_19
  refine k_aload_n (pc := 835) dL_law_835 rfl ?_
  refine k_aload_n (pc := 836) dL_law_836 rfl ?_
  refine k_iload_n (pc := 837) dL_law_837 rfl ?_
  refine k_iconst (pc := 838) (v := (nI 1)) dL_law_838 (by decide) ?_
  refine k_iadd (pc := 839) dL_law_839 ?_
  refine k_sld (pc := 840) hX.1 hX.2.1 hX.2.2.1 dL_law_840 ?_
  refine k_aload_n (pc := 841) dL_law_841 rfl ?_
  refine k_iload_n (pc := 842) dL_law_842 rfl ?_
  refine k_iconst (pc := 843) (v := (nI 2)) dL_law_843 (by decide) ?_
  refine k_iadd (pc := 844) dL_law_844 ?_
  refine k_sld (pc := 845) hX.1 hX.2.1 hX.2.2.1 dL_law_845 ?_
  refine k_aload_n (pc := 846) dL_law_846 rfl ?_
  refine k_iload_n (pc := 847) dL_law_847 rfl ?_
  refine k_iconst (pc := 848) (v := (nI 3)) dL_law_848 (by decide) ?_
  refine k_iadd (pc := 849) dL_law_849 ?_
  refine k_sld (pc := 850) hX.1 hX.2.1 hX.2.2.1 dL_law_850 ?_
  refine k_LTl3 (pc := 851) ckX6_cell rfl kwm_L_96 ⟨rfl, rfl⟩ ⟨Nat.le_of_ble_eq_true rfl, Nat.le_of_ble_eq_true rfl⟩ ⟨Nat.le_of_ble_eq_true rfl, Nat.le_of_ble_eq_true rfl⟩ (Nat.le_of_ble_eq_true rfl) dL_law_851 (fun _ _ hf => kX6_cell hf) (fun r1 s1 => ?_)
  refine k_aload_n (pc := 854) dL_law_854 rfl ?_
  refine k_aload_n (pc := 855) dL_law_855 rfl ?_
  refine k_iload_n (pc := 856) dL_law_856 rfl ?_
  refine k_iconst (pc := 857) (v := (nI 1)) dL_law_857 (by decide) ?_
  refine k_iadd (pc := 858) dL_law_858 ?_
  refine k_sld (pc := 859) hX.1 hX.2.1 hX.2.2.1 dL_law_859 ?_
  refine k_aload_n (pc := 860) dL_law_860 rfl ?_
  refine k_iload_n (pc := 861) dL_law_861 rfl ?_
  refine k_iconst (pc := 862) (v := (nI 2)) dL_law_862 (by decide) ?_
  refine k_iadd (pc := 863) dL_law_863 ?_
  refine k_sld (pc := 864) hX.1 hX.2.1 hX.2.2.1 dL_law_864 ?_
  refine k_aload_n (pc := 865) dL_law_865 rfl ?_
  refine k_iload_n (pc := 866) dL_law_866 rfl ?_
  refine k_iconst (pc := 867) (v := (nI 3)) dL_law_867 (by decide) ?_
  refine k_iadd (pc := 868) dL_law_868 ?_
  refine k_sld (pc := 869) hX.1 hX.2.1 hX.2.2.1 dL_law_869 ?_
  refine k_LMl3 (pc := 870) ckX7_cell rfl kwm_L_100 ⟨rfl, rfl⟩ ⟨Nat.le_of_ble_eq_true rfl, Nat.le_of_ble_eq_true rfl⟩ ⟨Nat.le_of_ble_eq_true rfl, Nat.le_of_ble_eq_true rfl⟩ (Nat.le_of_ble_eq_true rfl) dL_law_870 (fun _ _ hf => kX7_cell hf) (fun r2 s2 => ?_)
  refine k_lcmp (pc := 873) dL_law_873 ?_
  refine k_if_eq (pc := 874) 1070 dL_law_874 (by decide) ?_ KO.nil
  exact kL_next hk18 s2 i
noncomputable def fL_20 (Ls : Nat) (xs : Nat → Int32) (kh18 : k_S × k_S → Int32 → Option (Int32 × (k_S × k_S))) (s : k_S × k_S) (i : Int32) : Option (Int32 × (k_S × k_S)) := k_gd (i + (nI 1)) Ls (k_gd (i + (nI 2)) Ls (k_gd (i + (nI 3)) Ls (k_gd (i + (nI 4)) Ls (k_gd (i + (nI 5)) Ls (k_ob (fX6_copy s.1 (xs (Int32.toNatClampNeg (i + (nI 1)))) (xs (Int32.toNatClampNeg (i + (nI 2)))) (xs (Int32.toNatClampNeg (i + (nI 3)))) (xs (Int32.toNatClampNeg (i + (nI 4)))) (xs (Int32.toNatClampNeg (i + (nI 5))))) fun r1 τ1 => k_bn (τ1, s.2) fun s1 => k_gd (i + (nI 1)) Ls (k_gd (i + (nI 2)) Ls (k_gd (i + (nI 3)) Ls (k_gd (i + (nI 4)) Ls (k_gd (i + (nI 5)) Ls (k_ob (fX7_copy s1.2 (xs (Int32.toNatClampNeg (i + (nI 1)))) (xs (Int32.toNatClampNeg (i + (nI 2)))) (xs (Int32.toNatClampNeg (i + (nI 3)))) (xs (Int32.toNatClampNeg (i + (nI 4)))) (xs (Int32.toNatClampNeg (i + (nI 5))))) fun r2 τ2 => k_bn (s1.1, τ2) fun s2 => (if r1 = r2 then fL_next kh18 s2 i else none)))))))))))
set_option maxRecDepth 100000 in
set_option maxHeartbeats 4000000 in
theorem kL_20 {X : k_C} {q : Nat → Nat} {b Ls : Nat} {xs : Nat → Int32} (hX : k_At X b Ls xs) (kh18 : k_S × k_S → Int32 → Option (Int32 × (k_S × k_S))) (hk18 : ∀ (s : k_S × k_S) (i : Int32), KO X YL (cL (k_I X) q) 50 2363 (k_QL X) 18 [some (.ref b), some (.ref (q 0)), some (.ref (q 30)), some (.int i)] [] s (kh18 s i)) (s : k_S × k_S) (i : Int32) : KO X YL (cL (k_I X) q) 50 2363 (k_QL X) 879 [some (.ref b), some (.ref (q 0)), some (.ref (q 30)), some (.int i)] [] s (fL_20 Ls xs kh18 s i) := by
  unfold fL_20
  refine k_aload_n (pc := 879) dL_law_879 rfl ?_
  refine k_aload_n (pc := 880) dL_law_880 rfl ?_
  refine k_iload_n (pc := 881) dL_law_881 rfl ?_
  refine k_iconst (pc := 882) (v := (nI 1)) dL_law_882 (by decide) ?_
  refine k_iadd (pc := 883) dL_law_883 ?_
  refine k_sld (pc := 884) hX.1 hX.2.1 hX.2.2.1 dL_law_884 ?_
  refine k_aload_n (pc := 885) dL_law_885 rfl ?_
  refine k_iload_n (pc := 886) dL_law_886 rfl ?_
  refine k_iconst (pc := 887) (v := (nI 2)) dL_law_887 (by decide) ?_
  refine k_iadd (pc := 888) dL_law_888 ?_
  refine k_sld (pc := 889) hX.1 hX.2.1 hX.2.2.1 dL_law_889 ?_
  refine k_aload_n (pc := 890) dL_law_890 rfl ?_
  refine k_iload_n (pc := 891) dL_law_891 rfl ?_
  refine k_iconst (pc := 892) (v := (nI 3)) dL_law_892 (by decide) ?_
  refine k_iadd (pc := 893) dL_law_893 ?_
  refine k_sld (pc := 894) hX.1 hX.2.1 hX.2.2.1 dL_law_894 ?_
  refine k_aload_n (pc := 895) dL_law_895 rfl ?_
  refine k_iload_n (pc := 896) dL_law_896 rfl ?_
  refine k_iconst (pc := 897) (v := (nI 4)) dL_law_897 (by decide) ?_
  refine k_iadd (pc := 898) dL_law_898 ?_
  refine k_sld (pc := 899) hX.1 hX.2.1 hX.2.2.1 dL_law_899 ?_
  refine k_aload_n (pc := 900) dL_law_900 rfl ?_
  refine k_iload_n (pc := 901) dL_law_901 rfl ?_
  refine k_iconst (pc := 902) (v := (nI 5)) dL_law_902 (by decide) ?_
  refine k_iadd (pc := 903) dL_law_903 ?_
  refine k_sld (pc := 904) hX.1 hX.2.1 hX.2.2.1 dL_law_904 ?_
  refine k_LTi5 (pc := 905) ckX6_copy rfl kwm_L_101 ⟨rfl, rfl⟩ ⟨Nat.le_of_ble_eq_true rfl, Nat.le_of_ble_eq_true rfl⟩ ⟨Nat.le_of_ble_eq_true rfl, Nat.le_of_ble_eq_true rfl⟩ (Nat.le_of_ble_eq_true rfl) dL_law_905 (fun _ _ hf => kX6_copy hf) (fun r1 s1 => ?_)
  refine k_aload_n (pc := 908) dL_law_908 rfl ?_
  refine k_aload_n (pc := 909) dL_law_909 rfl ?_
  refine k_iload_n (pc := 910) dL_law_910 rfl ?_
  refine k_iconst (pc := 911) (v := (nI 1)) dL_law_911 (by decide) ?_
  refine k_iadd (pc := 912) dL_law_912 ?_
  refine k_sld (pc := 913) hX.1 hX.2.1 hX.2.2.1 dL_law_913 ?_
  refine k_aload_n (pc := 914) dL_law_914 rfl ?_
  refine k_iload_n (pc := 915) dL_law_915 rfl ?_
  refine k_iconst (pc := 916) (v := (nI 2)) dL_law_916 (by decide) ?_
  refine k_iadd (pc := 917) dL_law_917 ?_
  refine k_sld (pc := 918) hX.1 hX.2.1 hX.2.2.1 dL_law_918 ?_
  refine k_aload_n (pc := 919) dL_law_919 rfl ?_
  refine k_iload_n (pc := 920) dL_law_920 rfl ?_
  refine k_iconst (pc := 921) (v := (nI 3)) dL_law_921 (by decide) ?_
  refine k_iadd (pc := 922) dL_law_922 ?_
  refine k_sld (pc := 923) hX.1 hX.2.1 hX.2.2.1 dL_law_923 ?_
  refine k_aload_n (pc := 924) dL_law_924 rfl ?_
  refine k_iload_n (pc := 925) dL_law_925 rfl ?_
  refine k_iconst (pc := 926) (v := (nI 4)) dL_law_926 (by decide) ?_
  refine k_iadd (pc := 927) dL_law_927 ?_
  refine k_sld (pc := 928) hX.1 hX.2.1 hX.2.2.1 dL_law_928 ?_
  refine k_aload_n (pc := 929) dL_law_929 rfl ?_
  refine k_iload_n (pc := 930) dL_law_930 rfl ?_
  refine k_iconst (pc := 931) (v := (nI 5)) dL_law_931 (by decide) ?_
  refine k_iadd (pc := 932) dL_law_932 ?_
  refine k_sld (pc := 933) hX.1 hX.2.1 hX.2.2.1 dL_law_933 ?_
  refine k_LMi5 (pc := 934) ckX7_copy rfl kwm_L_104 ⟨rfl, rfl⟩ ⟨Nat.le_of_ble_eq_true rfl, Nat.le_of_ble_eq_true rfl⟩ ⟨Nat.le_of_ble_eq_true rfl, Nat.le_of_ble_eq_true rfl⟩ (Nat.le_of_ble_eq_true rfl) dL_law_934 (fun _ _ hf => kX7_copy hf) (fun r2 s2 => ?_)
  refine k_icmp_eq (pc := 937) 1070 dL_law_937 (by decide) ?_ KO.nil
  exact kL_next hk18 s2 i
noncomputable def fL_21 (Ls : Nat) (xs : Nat → Int32) (kh18 : k_S × k_S → Int32 → Option (Int32 × (k_S × k_S))) (s : k_S × k_S) (i : Int32) : Option (Int32 × (k_S × k_S)) := k_gd (i + (nI 1)) Ls (k_ob (fX6_tell s.1 (xs (Int32.toNatClampNeg (i + (nI 1))))) fun r1 τ1 => k_bn (τ1, s.2) fun s1 => k_gd (i + (nI 1)) Ls (k_ob (fX7_tell s1.2 (xs (Int32.toNatClampNeg (i + (nI 1))))) fun r2 τ2 => k_bn (s1.1, τ2) fun s2 => (if r1 = r2 then fL_next kh18 s2 i else none)))
set_option maxRecDepth 100000 in
set_option maxHeartbeats 4000000 in
theorem kL_21 {X : k_C} {q : Nat → Nat} {b Ls : Nat} {xs : Nat → Int32} (hX : k_At X b Ls xs) (kh18 : k_S × k_S → Int32 → Option (Int32 × (k_S × k_S))) (hk18 : ∀ (s : k_S × k_S) (i : Int32), KO X YL (cL (k_I X) q) 50 2363 (k_QL X) 18 [some (.ref b), some (.ref (q 0)), some (.ref (q 30)), some (.int i)] [] s (kh18 s i)) (s : k_S × k_S) (i : Int32) : KO X YL (cL (k_I X) q) 50 2363 (k_QL X) 942 [some (.ref b), some (.ref (q 0)), some (.ref (q 30)), some (.int i)] [] s (fL_21 Ls xs kh18 s i) := by
  unfold fL_21
  refine k_aload_n (pc := 942) dL_law_942 rfl ?_
  refine k_aload_n (pc := 943) dL_law_943 rfl ?_
  refine k_iload_n (pc := 944) dL_law_944 rfl ?_
  refine k_iconst (pc := 945) (v := (nI 1)) dL_law_945 (by decide) ?_
  refine k_iadd (pc := 946) dL_law_946 ?_
  refine k_sld (pc := 947) hX.1 hX.2.1 hX.2.2.1 dL_law_947 ?_
  refine k_LTi1 (pc := 948) ckX6_tell rfl kwm_L_105 ⟨rfl, rfl⟩ ⟨Nat.le_of_ble_eq_true rfl, Nat.le_of_ble_eq_true rfl⟩ ⟨Nat.le_of_ble_eq_true rfl, Nat.le_of_ble_eq_true rfl⟩ (Nat.le_of_ble_eq_true rfl) dL_law_948 (fun _ _ hf => kX6_tell hf) (fun r1 s1 => ?_)
  refine k_aload_n (pc := 951) dL_law_951 rfl ?_
  refine k_aload_n (pc := 952) dL_law_952 rfl ?_
  refine k_iload_n (pc := 953) dL_law_953 rfl ?_
  refine k_iconst (pc := 954) (v := (nI 1)) dL_law_954 (by decide) ?_
  refine k_iadd (pc := 955) dL_law_955 ?_
  refine k_sld (pc := 956) hX.1 hX.2.1 hX.2.2.1 dL_law_956 ?_
  refine k_LMi1 (pc := 957) ckX7_tell rfl kwm_L_108 ⟨rfl, rfl⟩ ⟨Nat.le_of_ble_eq_true rfl, Nat.le_of_ble_eq_true rfl⟩ ⟨Nat.le_of_ble_eq_true rfl, Nat.le_of_ble_eq_true rfl⟩ (Nat.le_of_ble_eq_true rfl) dL_law_957 (fun _ _ hf => kX7_tell hf) (fun r2 s2 => ?_)
  refine k_icmp_eq (pc := 960) 1070 dL_law_960 (by decide) ?_ KO.nil
  exact kL_next hk18 s2 i
noncomputable def fL_22 (Ls : Nat) (xs : Nat → Int32) (kh18 : k_S × k_S → Int32 → Option (Int32 × (k_S × k_S))) (s : k_S × k_S) (i : Int32) : Option (Int32 × (k_S × k_S)) := k_gd (i + (nI 1)) Ls (k_ob (fX6_swear s.1 (xs (Int32.toNatClampNeg (i + (nI 1))))) fun r1 τ1 => k_bn (τ1, s.2) fun s1 => k_gd (i + (nI 1)) Ls (k_ob (fX7_swear s1.2 (xs (Int32.toNatClampNeg (i + (nI 1))))) fun r2 τ2 => k_bn (s1.1, τ2) fun s2 => (if r1 = r2 then fL_next kh18 s2 i else none)))
set_option maxRecDepth 100000 in
set_option maxHeartbeats 4000000 in
theorem kL_22 {X : k_C} {q : Nat → Nat} {b Ls : Nat} {xs : Nat → Int32} (hX : k_At X b Ls xs) (kh18 : k_S × k_S → Int32 → Option (Int32 × (k_S × k_S))) (hk18 : ∀ (s : k_S × k_S) (i : Int32), KO X YL (cL (k_I X) q) 50 2363 (k_QL X) 18 [some (.ref b), some (.ref (q 0)), some (.ref (q 30)), some (.int i)] [] s (kh18 s i)) (s : k_S × k_S) (i : Int32) : KO X YL (cL (k_I X) q) 50 2363 (k_QL X) 965 [some (.ref b), some (.ref (q 0)), some (.ref (q 30)), some (.int i)] [] s (fL_22 Ls xs kh18 s i) := by
  unfold fL_22
  refine k_aload_n (pc := 965) dL_law_965 rfl ?_
  refine k_aload_n (pc := 966) dL_law_966 rfl ?_
  refine k_iload_n (pc := 967) dL_law_967 rfl ?_
  refine k_iconst (pc := 968) (v := (nI 1)) dL_law_968 (by decide) ?_
  refine k_iadd (pc := 969) dL_law_969 ?_
  refine k_sld (pc := 970) hX.1 hX.2.1 hX.2.2.1 dL_law_970 ?_
  refine k_LTi1 (pc := 971) ckX6_swear rfl kwm_L_109 ⟨rfl, rfl⟩ ⟨Nat.le_of_ble_eq_true rfl, Nat.le_of_ble_eq_true rfl⟩ ⟨Nat.le_of_ble_eq_true rfl, Nat.le_of_ble_eq_true rfl⟩ (Nat.le_of_ble_eq_true rfl) dL_law_971 (fun _ _ hf => kX6_swear hf) (fun r1 s1 => ?_)
  refine k_aload_n (pc := 974) dL_law_974 rfl ?_
  refine k_aload_n (pc := 975) dL_law_975 rfl ?_
  refine k_iload_n (pc := 976) dL_law_976 rfl ?_
  refine k_iconst (pc := 977) (v := (nI 1)) dL_law_977 (by decide) ?_
  refine k_iadd (pc := 978) dL_law_978 ?_
  refine k_sld (pc := 979) hX.1 hX.2.1 hX.2.2.1 dL_law_979 ?_
  refine k_LMi1 (pc := 980) ckX7_swear rfl kwm_L_112 ⟨rfl, rfl⟩ ⟨Nat.le_of_ble_eq_true rfl, Nat.le_of_ble_eq_true rfl⟩ ⟨Nat.le_of_ble_eq_true rfl, Nat.le_of_ble_eq_true rfl⟩ (Nat.le_of_ble_eq_true rfl) dL_law_980 (fun _ _ hf => kX7_swear hf) (fun r2 s2 => ?_)
  refine k_icmp_eq (pc := 983) 1070 dL_law_983 (by decide) ?_ KO.nil
  exact kL_next hk18 s2 i
noncomputable def fL_23 (Ls : Nat) (xs : Nat → Int32) (kh18 : k_S × k_S → Int32 → Option (Int32 × (k_S × k_S))) (s : k_S × k_S) (i : Int32) : Option (Int32 × (k_S × k_S)) := k_gd (i + (nI 1)) Ls (k_gd (i + (nI 2)) Ls (k_ob (fX6_as s.1 (xs (Int32.toNatClampNeg (i + (nI 1)))) (xs (Int32.toNatClampNeg (i + (nI 2))))) fun r1 τ1 => k_bn (τ1, s.2) fun s1 => k_gd (i + (nI 1)) Ls (k_gd (i + (nI 2)) Ls (k_ob (fX7_as s1.2 (xs (Int32.toNatClampNeg (i + (nI 1)))) (xs (Int32.toNatClampNeg (i + (nI 2))))) fun r2 τ2 => k_bn (s1.1, τ2) fun s2 => (if r1 = r2 then fL_next kh18 s2 i else none)))))
set_option maxRecDepth 100000 in
set_option maxHeartbeats 4000000 in
theorem kL_23 {X : k_C} {q : Nat → Nat} {b Ls : Nat} {xs : Nat → Int32} (hX : k_At X b Ls xs) (kh18 : k_S × k_S → Int32 → Option (Int32 × (k_S × k_S))) (hk18 : ∀ (s : k_S × k_S) (i : Int32), KO X YL (cL (k_I X) q) 50 2363 (k_QL X) 18 [some (.ref b), some (.ref (q 0)), some (.ref (q 30)), some (.int i)] [] s (kh18 s i)) (s : k_S × k_S) (i : Int32) : KO X YL (cL (k_I X) q) 50 2363 (k_QL X) 988 [some (.ref b), some (.ref (q 0)), some (.ref (q 30)), some (.int i)] [] s (fL_23 Ls xs kh18 s i) := by
  unfold fL_23
  refine k_aload_n (pc := 988) dL_law_988 rfl ?_
  refine k_aload_n (pc := 989) dL_law_989 rfl ?_
  refine k_iload_n (pc := 990) dL_law_990 rfl ?_
  refine k_iconst (pc := 991) (v := (nI 1)) dL_law_991 (by decide) ?_
  refine k_iadd (pc := 992) dL_law_992 ?_
  refine k_sld (pc := 993) hX.1 hX.2.1 hX.2.2.1 dL_law_993 ?_
  refine k_aload_n (pc := 994) dL_law_994 rfl ?_
  refine k_iload_n (pc := 995) dL_law_995 rfl ?_
  refine k_iconst (pc := 996) (v := (nI 2)) dL_law_996 (by decide) ?_
  refine k_iadd (pc := 997) dL_law_997 ?_
  refine k_sld (pc := 998) hX.1 hX.2.1 hX.2.2.1 dL_law_998 ?_
  refine k_LTi2 (pc := 999) ckX6_as rfl kwm_L_113 ⟨rfl, rfl⟩ ⟨Nat.le_of_ble_eq_true rfl, Nat.le_of_ble_eq_true rfl⟩ ⟨Nat.le_of_ble_eq_true rfl, Nat.le_of_ble_eq_true rfl⟩ (Nat.le_of_ble_eq_true rfl) dL_law_999 (fun _ _ hf => kX6_as hf) (fun r1 s1 => ?_)
  refine k_aload_n (pc := 1002) dL_law_1002 rfl ?_
  refine k_aload_n (pc := 1003) dL_law_1003 rfl ?_
  refine k_iload_n (pc := 1004) dL_law_1004 rfl ?_
  refine k_iconst (pc := 1005) (v := (nI 1)) dL_law_1005 (by decide) ?_
  refine k_iadd (pc := 1006) dL_law_1006 ?_
  refine k_sld (pc := 1007) hX.1 hX.2.1 hX.2.2.1 dL_law_1007 ?_
  refine k_aload_n (pc := 1008) dL_law_1008 rfl ?_
  refine k_iload_n (pc := 1009) dL_law_1009 rfl ?_
  refine k_iconst (pc := 1010) (v := (nI 2)) dL_law_1010 (by decide) ?_
  refine k_iadd (pc := 1011) dL_law_1011 ?_
  refine k_sld (pc := 1012) hX.1 hX.2.1 hX.2.2.1 dL_law_1012 ?_
  refine k_LMi2 (pc := 1013) ckX7_as rfl kwm_L_116 ⟨rfl, rfl⟩ ⟨Nat.le_of_ble_eq_true rfl, Nat.le_of_ble_eq_true rfl⟩ ⟨Nat.le_of_ble_eq_true rfl, Nat.le_of_ble_eq_true rfl⟩ (Nat.le_of_ble_eq_true rfl) dL_law_1013 (fun _ _ hf => kX7_as hf) (fun r2 s2 => ?_)
  refine k_icmp_eq (pc := 1016) 1070 dL_law_1016 (by decide) ?_ KO.nil
  exact kL_next hk18 s2 i
noncomputable def fL_24 (Ls : Nat) (xs : Nat → Int32) (kh18 : k_S × k_S → Int32 → Option (Int32 × (k_S × k_S))) (s : k_S × k_S) (i : Int32) : Option (Int32 × (k_S × k_S)) := k_ob (fX6_trace s.1) fun r1 τ1 => k_bn (τ1, s.2) fun s1 => k_ob (fX7_trace s1.2) fun r2 τ2 => k_bn (s1.1, τ2) fun s2 => (if r1 = r2 then fL_next kh18 s2 i else none)
set_option maxRecDepth 100000 in
set_option maxHeartbeats 4000000 in
theorem kL_24 {X : k_C} {q : Nat → Nat} {b Ls : Nat} {xs : Nat → Int32} (hX : k_At X b Ls xs) (kh18 : k_S × k_S → Int32 → Option (Int32 × (k_S × k_S))) (hk18 : ∀ (s : k_S × k_S) (i : Int32), KO X YL (cL (k_I X) q) 50 2363 (k_QL X) 18 [some (.ref b), some (.ref (q 0)), some (.ref (q 30)), some (.int i)] [] s (kh18 s i)) (s : k_S × k_S) (i : Int32) : KO X YL (cL (k_I X) q) 50 2363 (k_QL X) 1021 [some (.ref b), some (.ref (q 0)), some (.ref (q 30)), some (.int i)] [] s (fL_24 Ls xs kh18 s i) := by
  unfold fL_24
  refine k_aload_n (pc := 1021) dL_law_1021 rfl ?_
  refine k_LTi0 (pc := 1022) ckX6_trace rfl kwm_L_117 ⟨rfl, rfl⟩ ⟨Nat.le_of_ble_eq_true rfl, Nat.le_of_ble_eq_true rfl⟩ ⟨Nat.le_of_ble_eq_true rfl, Nat.le_of_ble_eq_true rfl⟩ (Nat.le_of_ble_eq_true rfl) dL_law_1022 (fun _ _ hf => kX6_trace hf) (fun r1 s1 => ?_)
  refine k_aload_n (pc := 1025) dL_law_1025 rfl ?_
  refine k_LMi0 (pc := 1026) ckX7_trace rfl kwm_L_120 ⟨rfl, rfl⟩ ⟨Nat.le_of_ble_eq_true rfl, Nat.le_of_ble_eq_true rfl⟩ ⟨Nat.le_of_ble_eq_true rfl, Nat.le_of_ble_eq_true rfl⟩ (Nat.le_of_ble_eq_true rfl) dL_law_1026 (fun _ _ hf => kX7_trace hf) (fun r2 s2 => ?_)
  refine k_icmp_eq (pc := 1029) 1070 dL_law_1029 (by decide) ?_ KO.nil
  exact kL_next hk18 s2 i
noncomputable def fL_25 (Ls : Nat) (xs : Nat → Int32) (kh18 : k_S × k_S → Int32 → Option (Int32 × (k_S × k_S))) (s : k_S × k_S) (i : Int32) : Option (Int32 × (k_S × k_S)) := k_ob (fX6_fault s.1) fun r1 τ1 => k_bn (τ1, s.2) fun s1 => k_ob (fX7_fault s1.2) fun r2 τ2 => k_bn (s1.1, τ2) fun s2 => (if r1 = r2 then fL_next kh18 s2 i else none)
set_option maxRecDepth 100000 in
set_option maxHeartbeats 4000000 in
theorem kL_25 {X : k_C} {q : Nat → Nat} {b Ls : Nat} {xs : Nat → Int32} (hX : k_At X b Ls xs) (kh18 : k_S × k_S → Int32 → Option (Int32 × (k_S × k_S))) (hk18 : ∀ (s : k_S × k_S) (i : Int32), KO X YL (cL (k_I X) q) 50 2363 (k_QL X) 18 [some (.ref b), some (.ref (q 0)), some (.ref (q 30)), some (.int i)] [] s (kh18 s i)) (s : k_S × k_S) (i : Int32) : KO X YL (cL (k_I X) q) 50 2363 (k_QL X) 1034 [some (.ref b), some (.ref (q 0)), some (.ref (q 30)), some (.int i)] [] s (fL_25 Ls xs kh18 s i) := by
  unfold fL_25
  refine k_aload_n (pc := 1034) dL_law_1034 rfl ?_
  refine k_LTi0 (pc := 1035) ckX6_fault rfl kwm_L_121 ⟨rfl, rfl⟩ ⟨Nat.le_of_ble_eq_true rfl, Nat.le_of_ble_eq_true rfl⟩ ⟨Nat.le_of_ble_eq_true rfl, Nat.le_of_ble_eq_true rfl⟩ (Nat.le_of_ble_eq_true rfl) dL_law_1035 (fun _ _ hf => kX6_fault hf) (fun r1 s1 => ?_)
  refine k_aload_n (pc := 1038) dL_law_1038 rfl ?_
  refine k_LMi0 (pc := 1039) ckX7_fault rfl kwm_L_124 ⟨rfl, rfl⟩ ⟨Nat.le_of_ble_eq_true rfl, Nat.le_of_ble_eq_true rfl⟩ ⟨Nat.le_of_ble_eq_true rfl, Nat.le_of_ble_eq_true rfl⟩ (Nat.le_of_ble_eq_true rfl) dL_law_1039 (fun _ _ hf => kX7_fault hf) (fun r2 s2 => ?_)
  refine k_icmp_eq (pc := 1042) 1070 dL_law_1042 (by decide) ?_ KO.nil
  exact kL_next hk18 s2 i
noncomputable def fL_26 (Ls : Nat) (xs : Nat → Int32) (kh18 : k_S × k_S → Int32 → Option (Int32 × (k_S × k_S))) (s : k_S × k_S) (i : Int32) : Option (Int32 × (k_S × k_S)) := k_gd (i + (nI 1)) Ls (k_ob (fX6_many s.1 (xs (Int32.toNatClampNeg (i + (nI 1))))) fun r1 τ1 => k_bn (τ1, s.2) fun s1 => k_gd (i + (nI 1)) Ls (k_ob (fX7_many s1.2 (xs (Int32.toNatClampNeg (i + (nI 1))))) fun r2 τ2 => k_bn (s1.1, τ2) fun s2 => (if r1 = r2 then fL_next kh18 s2 i else none)))
set_option maxRecDepth 100000 in
set_option maxHeartbeats 4000000 in
theorem kL_26 {X : k_C} {q : Nat → Nat} {b Ls : Nat} {xs : Nat → Int32} (hX : k_At X b Ls xs) (kh18 : k_S × k_S → Int32 → Option (Int32 × (k_S × k_S))) (hk18 : ∀ (s : k_S × k_S) (i : Int32), KO X YL (cL (k_I X) q) 50 2363 (k_QL X) 18 [some (.ref b), some (.ref (q 0)), some (.ref (q 30)), some (.int i)] [] s (kh18 s i)) (s : k_S × k_S) (i : Int32) : KO X YL (cL (k_I X) q) 50 2363 (k_QL X) 1047 [some (.ref b), some (.ref (q 0)), some (.ref (q 30)), some (.int i)] [] s (fL_26 Ls xs kh18 s i) := by
  unfold fL_26
  refine k_aload_n (pc := 1047) dL_law_1047 rfl ?_
  refine k_aload_n (pc := 1048) dL_law_1048 rfl ?_
  refine k_iload_n (pc := 1049) dL_law_1049 rfl ?_
  refine k_iconst (pc := 1050) (v := (nI 1)) dL_law_1050 (by decide) ?_
  refine k_iadd (pc := 1051) dL_law_1051 ?_
  refine k_sld (pc := 1052) hX.1 hX.2.1 hX.2.2.1 dL_law_1052 ?_
  refine k_LTi1 (pc := 1053) ckX6_many rfl kwm_L_125 ⟨rfl, rfl⟩ ⟨Nat.le_of_ble_eq_true rfl, Nat.le_of_ble_eq_true rfl⟩ ⟨Nat.le_of_ble_eq_true rfl, Nat.le_of_ble_eq_true rfl⟩ (Nat.le_of_ble_eq_true rfl) dL_law_1053 (fun _ _ hf => kX6_many hf) (fun r1 s1 => ?_)
  refine k_aload_n (pc := 1056) dL_law_1056 rfl ?_
  refine k_aload_n (pc := 1057) dL_law_1057 rfl ?_
  refine k_iload_n (pc := 1058) dL_law_1058 rfl ?_
  refine k_iconst (pc := 1059) (v := (nI 1)) dL_law_1059 (by decide) ?_
  refine k_iadd (pc := 1060) dL_law_1060 ?_
  refine k_sld (pc := 1061) hX.1 hX.2.1 hX.2.2.1 dL_law_1061 ?_
  refine k_LMi1 (pc := 1062) ckX7_many rfl kwm_L_128 ⟨rfl, rfl⟩ ⟨Nat.le_of_ble_eq_true rfl, Nat.le_of_ble_eq_true rfl⟩ ⟨Nat.le_of_ble_eq_true rfl, Nat.le_of_ble_eq_true rfl⟩ (Nat.le_of_ble_eq_true rfl) dL_law_1062 (fun _ _ hf => kX7_many hf) (fun r2 s2 => ?_)
  refine k_icmp_eq (pc := 1065) 1070 dL_law_1065 (by decide) ?_ KO.nil
  exact kL_next hk18 s2 i
noncomputable def fL (Ls : Nat) (xs : Nat → Int32) : Nat → k_S × k_S → Int32 → Option (Int32 × (k_S × k_S))
  | 0, _, _ => none
  | n + 1, s, i => (if (nI Ls - nI 7) < i then some (1, s) else k_gd i Ls (if (xs (Int32.toNatClampNeg i) &&& nI 31) = nI 0 then fL_0 Ls xs (fL Ls xs n) s i else if (xs (Int32.toNatClampNeg i) &&& nI 31) = nI 1 then fL_1 Ls xs (fL Ls xs n) s i else if (xs (Int32.toNatClampNeg i) &&& nI 31) = nI 2 then fL_2 Ls xs (fL Ls xs n) s i else if (xs (Int32.toNatClampNeg i) &&& nI 31) = nI 3 then fL_3 Ls xs (fL Ls xs n) s i else if (xs (Int32.toNatClampNeg i) &&& nI 31) = nI 4 then fL_4 Ls xs (fL Ls xs n) s i else if (xs (Int32.toNatClampNeg i) &&& nI 31) = nI 5 then fL_5 Ls xs (fL Ls xs n) s i else if (xs (Int32.toNatClampNeg i) &&& nI 31) = nI 6 then fL_6 Ls xs (fL Ls xs n) s i else if (xs (Int32.toNatClampNeg i) &&& nI 31) = nI 7 then fL_7 Ls xs (fL Ls xs n) s i else if (xs (Int32.toNatClampNeg i) &&& nI 31) = nI 8 then fL_8 Ls xs (fL Ls xs n) s i else if (xs (Int32.toNatClampNeg i) &&& nI 31) = nI 9 then fL_9 Ls xs (fL Ls xs n) s i else if (xs (Int32.toNatClampNeg i) &&& nI 31) = nI 10 then fL_10 Ls xs (fL Ls xs n) s i else if (xs (Int32.toNatClampNeg i) &&& nI 31) = nI 11 then fL_11 Ls xs (fL Ls xs n) s i else if (xs (Int32.toNatClampNeg i) &&& nI 31) = nI 12 then fL_12 Ls xs (fL Ls xs n) s i else if (xs (Int32.toNatClampNeg i) &&& nI 31) = nI 13 then fL_13 Ls xs (fL Ls xs n) s i else if (xs (Int32.toNatClampNeg i) &&& nI 31) = nI 14 then fL_14 Ls xs (fL Ls xs n) s i else if (xs (Int32.toNatClampNeg i) &&& nI 31) = nI 15 then fL_15 Ls xs (fL Ls xs n) s i else if (xs (Int32.toNatClampNeg i) &&& nI 31) = nI 16 then fL_16 Ls xs (fL Ls xs n) s i else if (xs (Int32.toNatClampNeg i) &&& nI 31) = nI 17 then fL_17 Ls xs (fL Ls xs n) s i else if (xs (Int32.toNatClampNeg i) &&& nI 31) = nI 18 then fL_18 Ls xs (fL Ls xs n) s i else if (xs (Int32.toNatClampNeg i) &&& nI 31) = nI 19 then fL_19 Ls xs (fL Ls xs n) s i else if (xs (Int32.toNatClampNeg i) &&& nI 31) = nI 20 then fL_20 Ls xs (fL Ls xs n) s i else if (xs (Int32.toNatClampNeg i) &&& nI 31) = nI 21 then fL_21 Ls xs (fL Ls xs n) s i else if (xs (Int32.toNatClampNeg i) &&& nI 31) = nI 22 then fL_22 Ls xs (fL Ls xs n) s i else if (xs (Int32.toNatClampNeg i) &&& nI 31) = nI 23 then fL_23 Ls xs (fL Ls xs n) s i else if (xs (Int32.toNatClampNeg i) &&& nI 31) = nI 24 then fL_24 Ls xs (fL Ls xs n) s i else if (xs (Int32.toNatClampNeg i) &&& nI 31) = nI 25 then fL_25 Ls xs (fL Ls xs n) s i else if (xs (Int32.toNatClampNeg i) &&& nI 31) = nI 26 then fL_26 Ls xs (fL Ls xs n) s i else fL_next (fL Ls xs n) s i))
theorem fL_s (Ls : Nat) (xs : Nat → Int32) (n : Nat) (s : k_S × k_S) (i : Int32) : fL Ls xs (n + 1) s i = (if (nI Ls - nI 7) < i then some (1, s) else k_gd i Ls (if (xs (Int32.toNatClampNeg i) &&& nI 31) = nI 0 then fL_0 Ls xs (fL Ls xs n) s i else if (xs (Int32.toNatClampNeg i) &&& nI 31) = nI 1 then fL_1 Ls xs (fL Ls xs n) s i else if (xs (Int32.toNatClampNeg i) &&& nI 31) = nI 2 then fL_2 Ls xs (fL Ls xs n) s i else if (xs (Int32.toNatClampNeg i) &&& nI 31) = nI 3 then fL_3 Ls xs (fL Ls xs n) s i else if (xs (Int32.toNatClampNeg i) &&& nI 31) = nI 4 then fL_4 Ls xs (fL Ls xs n) s i else if (xs (Int32.toNatClampNeg i) &&& nI 31) = nI 5 then fL_5 Ls xs (fL Ls xs n) s i else if (xs (Int32.toNatClampNeg i) &&& nI 31) = nI 6 then fL_6 Ls xs (fL Ls xs n) s i else if (xs (Int32.toNatClampNeg i) &&& nI 31) = nI 7 then fL_7 Ls xs (fL Ls xs n) s i else if (xs (Int32.toNatClampNeg i) &&& nI 31) = nI 8 then fL_8 Ls xs (fL Ls xs n) s i else if (xs (Int32.toNatClampNeg i) &&& nI 31) = nI 9 then fL_9 Ls xs (fL Ls xs n) s i else if (xs (Int32.toNatClampNeg i) &&& nI 31) = nI 10 then fL_10 Ls xs (fL Ls xs n) s i else if (xs (Int32.toNatClampNeg i) &&& nI 31) = nI 11 then fL_11 Ls xs (fL Ls xs n) s i else if (xs (Int32.toNatClampNeg i) &&& nI 31) = nI 12 then fL_12 Ls xs (fL Ls xs n) s i else if (xs (Int32.toNatClampNeg i) &&& nI 31) = nI 13 then fL_13 Ls xs (fL Ls xs n) s i else if (xs (Int32.toNatClampNeg i) &&& nI 31) = nI 14 then fL_14 Ls xs (fL Ls xs n) s i else if (xs (Int32.toNatClampNeg i) &&& nI 31) = nI 15 then fL_15 Ls xs (fL Ls xs n) s i else if (xs (Int32.toNatClampNeg i) &&& nI 31) = nI 16 then fL_16 Ls xs (fL Ls xs n) s i else if (xs (Int32.toNatClampNeg i) &&& nI 31) = nI 17 then fL_17 Ls xs (fL Ls xs n) s i else if (xs (Int32.toNatClampNeg i) &&& nI 31) = nI 18 then fL_18 Ls xs (fL Ls xs n) s i else if (xs (Int32.toNatClampNeg i) &&& nI 31) = nI 19 then fL_19 Ls xs (fL Ls xs n) s i else if (xs (Int32.toNatClampNeg i) &&& nI 31) = nI 20 then fL_20 Ls xs (fL Ls xs n) s i else if (xs (Int32.toNatClampNeg i) &&& nI 31) = nI 21 then fL_21 Ls xs (fL Ls xs n) s i else if (xs (Int32.toNatClampNeg i) &&& nI 31) = nI 22 then fL_22 Ls xs (fL Ls xs n) s i else if (xs (Int32.toNatClampNeg i) &&& nI 31) = nI 23 then fL_23 Ls xs (fL Ls xs n) s i else if (xs (Int32.toNatClampNeg i) &&& nI 31) = nI 24 then fL_24 Ls xs (fL Ls xs n) s i else if (xs (Int32.toNatClampNeg i) &&& nI 31) = nI 25 then fL_25 Ls xs (fL Ls xs n) s i else if (xs (Int32.toNatClampNeg i) &&& nI 31) = nI 26 then fL_26 Ls xs (fL Ls xs n) s i else fL_next (fL Ls xs n) s i)) := rfl
set_option maxRecDepth 100000 in
set_option maxHeartbeats 4000000 in
theorem kL_loop {X : k_C} {q : Nat → Nat} {b Ls : Nat} {xs : Nat → Int32} (hX : k_At X b Ls xs) : ∀ (n : Nat) (s : k_S × k_S) (i : Int32), KO X YL (cL (k_I X) q) 50 2363 (k_QL X) 18 [some (.ref b), some (.ref (q 0)), some (.ref (q 30)), some (.int i)] [] s (fL Ls xs n s i) := by
  intro n
  induction n with
  | zero => intros; exact KO.nil
  | succ n ih =>
    intro s i
    rw [fL_s]
    refine k_iload_n (pc := 18) dL_law_18 rfl ?_
    refine k_aload_n (pc := 19) dL_law_19 rfl ?_
    refine k_slen (pc := 20) hX.1 hX.2.1 hX.2.2.1 dL_law_20 ?_
    refine k_bipush (pc := 21) (v := nI 7) dL_law_21 (by decide) ?_
    refine k_isub (pc := 23) dL_law_23 ?_
    refine k_icmp_gt (pc := 24) 1076 dL_law_24 (by decide) ?_ ?_
    · refine k_iconst (pc := 1076) (v := 1) dL_law_1076 (by decide) ?_
      exact k_lret (pc := 1077) hX ⟨Nat.le_of_ble_eq_true rfl, Nat.le_of_ble_eq_true rfl⟩ dL_law_1077
    refine k_aload_n (pc := 27) dL_law_27 rfl ?_
    refine k_iload_n (pc := 28) dL_law_28 rfl ?_
    refine k_sld (pc := 29) hX.1 hX.2.1 hX.2.2.1 dL_law_29 ?_
    refine k_bipush (pc := 30) (v := nI 31) dL_law_30 (by decide) ?_
    refine k_iand (pc := 32) dL_law_32 ?_
    refine KO.ite (fun h0 => ?_) (fun h0 => ?_)
    · exact k_tableIn (off := 123) (pc := 33) 156 dL_law_33 h0 (by decide) (by decide) (by decide) (by decide) (kL_0 hX (fL Ls xs n) ih s i)
    refine KO.ite (fun h1 => ?_) (fun h1 => ?_)
    · exact k_tableIn (off := 176) (pc := 33) 209 dL_law_33 h1 (by decide) (by decide) (by decide) (by decide) (kL_1 hX (fL Ls xs n) ih s i)
    refine KO.ite (fun h2 => ?_) (fun h2 => ?_)
    · exact k_tableIn (off := 209) (pc := 33) 242 dL_law_33 h2 (by decide) (by decide) (by decide) (by decide) (kL_2 hX (fL Ls xs n) ih s i)
    refine KO.ite (fun h3 => ?_) (fun h3 => ?_)
    · exact k_tableIn (off := 232) (pc := 33) 265 dL_law_33 h3 (by decide) (by decide) (by decide) (by decide) (kL_3 hX (fL Ls xs n) ih s i)
    refine KO.ite (fun h4 => ?_) (fun h4 => ?_)
    · exact k_tableIn (off := 265) (pc := 33) 298 dL_law_33 h4 (by decide) (by decide) (by decide) (by decide) (kL_4 hX (fL Ls xs n) ih s i)
    refine KO.ite (fun h5 => ?_) (fun h5 => ?_)
    · exact k_tableIn (off := 278) (pc := 33) 311 dL_law_33 h5 (by decide) (by decide) (by decide) (by decide) (kL_5 hX (fL Ls xs n) ih s i)
    refine KO.ite (fun h6 => ?_) (fun h6 => ?_)
    · exact k_tableIn (off := 321) (pc := 33) 354 dL_law_33 h6 (by decide) (by decide) (by decide) (by decide) (kL_6 hX (fL Ls xs n) ih s i)
    refine KO.ite (fun h7 => ?_) (fun h7 => ?_)
    · exact k_tableIn (off := 344) (pc := 33) 377 dL_law_33 h7 (by decide) (by decide) (by decide) (by decide) (kL_7 hX (fL Ls xs n) ih s i)
    refine KO.ite (fun h8 => ?_) (fun h8 => ?_)
    · exact k_tableIn (off := 377) (pc := 33) 410 dL_law_33 h8 (by decide) (by decide) (by decide) (by decide) (kL_8 hX (fL Ls xs n) ih s i)
    refine KO.ite (fun h9 => ?_) (fun h9 => ?_)
    · exact k_tableIn (off := 410) (pc := 33) 443 dL_law_33 h9 (by decide) (by decide) (by decide) (by decide) (kL_9 hX (fL Ls xs n) ih s i)
    refine KO.ite (fun h10 => ?_) (fun h10 => ?_)
    · exact k_tableIn (off := 443) (pc := 33) 476 dL_law_33 h10 (by decide) (by decide) (by decide) (by decide) (kL_10 hX (fL Ls xs n) ih s i)
    refine KO.ite (fun h11 => ?_) (fun h11 => ?_)
    · exact k_tableIn (off := 476) (pc := 33) 509 dL_law_33 h11 (by decide) (by decide) (by decide) (by decide) (kL_11 hX (fL Ls xs n) ih s i)
    refine KO.ite (fun h12 => ?_) (fun h12 => ?_)
    · exact k_tableIn (off := 499) (pc := 33) 532 dL_law_33 h12 (by decide) (by decide) (by decide) (by decide) (kL_12 hX (fL Ls xs n) ih s i)
    refine KO.ite (fun h13 => ?_) (fun h13 => ?_)
    · exact k_tableIn (off := 522) (pc := 33) 555 dL_law_33 h13 (by decide) (by decide) (by decide) (by decide) (kL_13 hX (fL Ls xs n) ih s i)
    refine KO.ite (fun h14 => ?_) (fun h14 => ?_)
    · exact k_tableIn (off := 597) (pc := 33) 630 dL_law_33 h14 (by decide) (by decide) (by decide) (by decide) (kL_14 hX (fL Ls xs n) ih s i)
    refine KO.ite (fun h15 => ?_) (fun h15 => ?_)
    · exact k_tableIn (off := 630) (pc := 33) 663 dL_law_33 h15 (by decide) (by decide) (by decide) (by decide) (kL_15 hX (fL Ls xs n) ih s i)
    refine KO.ite (fun h16 => ?_) (fun h16 => ?_)
    · exact k_tableIn (off := 693) (pc := 33) 726 dL_law_33 h16 (by decide) (by decide) (by decide) (by decide) (kL_16 hX (fL Ls xs n) ih s i)
    refine KO.ite (fun h17 => ?_) (fun h17 => ?_)
    · exact k_tableIn (off := 736) (pc := 33) 769 dL_law_33 h17 (by decide) (by decide) (by decide) (by decide) (kL_17 hX (fL Ls xs n) ih s i)
    refine KO.ite (fun h18 => ?_) (fun h18 => ?_)
    · exact k_tableIn (off := 759) (pc := 33) 792 dL_law_33 h18 (by decide) (by decide) (by decide) (by decide) (kL_18 hX (fL Ls xs n) ih s i)
    refine KO.ite (fun h19 => ?_) (fun h19 => ?_)
    · exact k_tableIn (off := 802) (pc := 33) 835 dL_law_33 h19 (by decide) (by decide) (by decide) (by decide) (kL_19 hX (fL Ls xs n) ih s i)
    refine KO.ite (fun h20 => ?_) (fun h20 => ?_)
    · exact k_tableIn (off := 846) (pc := 33) 879 dL_law_33 h20 (by decide) (by decide) (by decide) (by decide) (kL_20 hX (fL Ls xs n) ih s i)
    refine KO.ite (fun h21 => ?_) (fun h21 => ?_)
    · exact k_tableIn (off := 909) (pc := 33) 942 dL_law_33 h21 (by decide) (by decide) (by decide) (by decide) (kL_21 hX (fL Ls xs n) ih s i)
    refine KO.ite (fun h22 => ?_) (fun h22 => ?_)
    · exact k_tableIn (off := 932) (pc := 33) 965 dL_law_33 h22 (by decide) (by decide) (by decide) (by decide) (kL_22 hX (fL Ls xs n) ih s i)
    refine KO.ite (fun h23 => ?_) (fun h23 => ?_)
    · exact k_tableIn (off := 955) (pc := 33) 988 dL_law_33 h23 (by decide) (by decide) (by decide) (by decide) (kL_23 hX (fL Ls xs n) ih s i)
    refine KO.ite (fun h24 => ?_) (fun h24 => ?_)
    · exact k_tableIn (off := 988) (pc := 33) 1021 dL_law_33 h24 (by decide) (by decide) (by decide) (by decide) (kL_24 hX (fL Ls xs n) ih s i)
    refine KO.ite (fun h25 => ?_) (fun h25 => ?_)
    · exact k_tableIn (off := 1001) (pc := 33) 1034 dL_law_33 h25 (by decide) (by decide) (by decide) (by decide) (kL_25 hX (fL Ls xs n) ih s i)
    refine KO.ite (fun h26 => ?_) (fun h26 => ?_)
    · exact k_tableIn (off := 1014) (pc := 33) 1047 dL_law_33 h26 (by decide) (by decide) (by decide) (by decide) (kL_26 hX (fL Ls xs n) ih s i)
    refine k_tableOut (pc := 33) 1070 dL_law_33 (by have g0 := lv_neT (a := 0) h0 (by decide); have g1 := lv_neT (a := 1) h1 (by decide); have g2 := lv_neT (a := 2) h2 (by decide); have g3 := lv_neT (a := 3) h3 (by decide); have g4 := lv_neT (a := 4) h4 (by decide); have g5 := lv_neT (a := 5) h5 (by decide); have g6 := lv_neT (a := 6) h6 (by decide); have g7 := lv_neT (a := 7) h7 (by decide); have g8 := lv_neT (a := 8) h8 (by decide); have g9 := lv_neT (a := 9) h9 (by decide); have g10 := lv_neT (a := 10) h10 (by decide); have g11 := lv_neT (a := 11) h11 (by decide); have g12 := lv_neT (a := 12) h12 (by decide); have g13 := lv_neT (a := 13) h13 (by decide); have g14 := lv_neT (a := 14) h14 (by decide); have g15 := lv_neT (a := 15) h15 (by decide); have g16 := lv_neT (a := 16) h16 (by decide); have g17 := lv_neT (a := 17) h17 (by decide); have g18 := lv_neT (a := 18) h18 (by decide); have g19 := lv_neT (a := 19) h19 (by decide); have g20 := lv_neT (a := 20) h20 (by decide); have g21 := lv_neT (a := 21) h21 (by decide); have g22 := lv_neT (a := 22) h22 (by decide); have g23 := lv_neT (a := 23) h23 (by decide); have g24 := lv_neT (a := 24) h24 (by decide); have g25 := lv_neT (a := 25) h25 (by decide); have g26 := lv_neT (a := 26) h26 (by decide); omega) (by decide) ?_
    exact kL_next ih s i
