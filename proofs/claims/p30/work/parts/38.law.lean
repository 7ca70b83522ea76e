/-! ===== the law: its body as a pure function, and its rows (by program: wip/gen30/lawdec.py); the middle is the kit's skeleton ===== -/
/-! THE CLAIM OUT OF ONE WALK OF THE LAW'S BODY. Your part is whole_start (and what it stands on); all else here is the same for every law, but numbers. -/
def R_law : String := "TallTalesLaw"
def lw_P (b : Addr) (xs : List Int32) (args : Array Value) (s : State) : Prop := args = #[.ref b] ∧ s.IntsAt b xs ∧ xs.length ≤ 260 ∧ (Jvm.Cond.and given_1 narrow_1).before args s = true
def lw_Q (_ : Array Value) (s : State) (o : Outcome) (t : State) : Prop := o = .returned (some (.int 1)) ∧ Framed s o t [] 600000 7302249
def lw_Z (below : List Frame) (a : Array Value) (s : State) : State → Prop := fun t => ∃ o, t.status = .running ∧ Ended t below o ∧ lw_Q a s o t
/-- the law's own end, with 1 on the stack, nothing written that was there before, its room as the claim has it -/
theorem lw_ret {p : Program} {l : Launch} {e : Env} {s : State} {m : MethodId} {below : List Frame} {meth : Method} {c : Code} {b : Nat} (hx : p.tables.exec = Jvm.exec) (hb : c.code = code) (hr : meth.sig.returnType = ret) (hlocks : meth.locks = false) {pc : Nat} {H : Heap} {ls : Array Slot} (hdg : decode code pc = .ok (.ireturn, 1)) : W p l e room_1 s m #[Value.ref b] below meth c H [] 600000 7302249 (lw_Z below #[Value.ref b] s) (F0 m pc ls [.int 1]) := by
  intro T hT X
  obtain ⟨fs, hret, hrun, hended, hW, hframe⟩ := X.leave (v := some (.int 1)) (hlocks := hlocks) (fun h => by rw [hr] at h; cases h)
  have hmeth' : T.vm.method? m = some meth := X.method'
  refine ⟨T.setFrames fs, ?_, .returned (some (.int 1)), hrun, hended, rfl, ⟨_, rfl⟩, hW, hframe⟩
  jvm_step X.here [X.here.top, hx, hb, hdg, hmeth', hr, ret, narrow_b1]
  (try refine ⟨rfl, ?_⟩); (try refine ⟨rfl, ?_⟩)
  first | (intro acts; rw [hret _ acts rfl rfl rfl]) | rw [hret _ _ rfl rfl rfl]
  exact Steps.refl _
/-- what holds at the law's entry: the machine, the code, the tables' words (any of lw_tbl by 'hts w (by decide +kernel)'), the script of L ints xs at the cell b, what the Statement gives of the start (any of its parts by flat_of_before) -/
def lw_At (p : Program) (s : State) (m : MethodId) (meth : Method) (c : Code) (b L : Nat) (xs : Nat → Int32) : Prop :=
  p.tables.exec = Jvm.exec ∧ c.code = code ∧ meth.sig.returnType = ret ∧ c.maxLocals = 20 ∧ s.vm.findClass R_law = some m.cls ∧ (∀ w ∈ lw_tbl, w.before #[Value.ref b] s = true) ∧ va_X b L xs s s.heap ∧ b < s.heap.size ∧ meth.locks = false ∧ (Jvm.Cond.and given_1 narrow_1).before #[Value.ref b] s = true

abbrev YL : k_Y := (room_1, cL_law, 20, RL, ret)
abbrev k_QL (X : k_C) : Int32 → k_S × k_S → State → Prop := fun _ _ => lw_Z (k_b X) (k_a X) (k_s X)
/-- what the law's walk knows of its start -/
def k_At (X : k_C) (b Ls : Nat) (xs : Nat → Int32) : Prop := k_Sc X b Ls xs ∧ k_R X = room_1 ∧ k_a X = #[.ref b] ∧ ∀ q, k_A X q → (k_s X).heap.size ≤ q
theorem k_lret {X : k_C} {cw : k_S × k_S → va_W} {kc ks b Ls : Nat} {xs : Nat → Int32} {pc : Nat} {L : List (Option Value)} {s : k_S × k_S} (hX : k_At X b Ls xs) (hk : kc ≤ 600000 ∧ ks ≤ 7302249) (hd : decode cL_law pc = .ok (.ireturn, 1)) : KO X YL cw kc ks (k_QL X) pc L [.int 1] s (some (1, s)) := by
  intro g r σ' ho H locs ls hP hS hL
  obtain ⟨-, hR, ha, hA⟩ := hX
  unfold k_W
  rw [hR, ha]
  show W _ _ _ _ _ _ _ _ _ _ _ _ _ _ (lw_Z (k_b X) (k_a X) (k_s X)) _
  rw [ha]
  refine va_forget (fun q hq => hA _ (hS.2.2 q hq)) ?_
  refine W.widen hk.1 hk.2 ?_
  exact lw_ret g.1 g.2.1 g.2.2.2.2.2.2.2.2.2.2 g.2.2.2.2.2.2.2.2.2.1 hd
noncomputable def fL_law_c278 (Ls : Nat) (xs : Nat → Int32) (kh83 : k_S × k_S → Int32 → Option (Int32 × (k_S × k_S))) (kh208 : k_S × k_S → Int32 → Int32 → Int32 → Option (Int32 × (k_S × k_S))) (s : k_S × k_S) (l6 l7 l8 t0 t1 : Int32) : Option (Int32 × (k_S × k_S)) := (if t0 = t1 then k_ob (fX6_ofTale s.1 (l8) ((nI 6))) fun r1 τ2 => k_bn (τ2, s.2) fun s3 => k_gd ((nI 33)) 34 (k_oq (fL_tall (s3.2.2 0) (s3.2.2 1) (s3.2.2 0 (Int32.toNatClampNeg ((nI 33)))) (l8)) fun r4 => (if r1 = r4 then k_bn (l8 + (nI 1)) fun v5 => kh208 s3 l6 l7 v5 else none)) else none)
set_option maxRecDepth 100000 in
set_option maxHeartbeats 4000000 in
theorem kL_law_c278 {X : k_C} {q : Nat → Nat} {b Ls kc ks : Nat} {xs : Nat → Int32} (hX : k_At X b Ls xs) (hk : kc ≤ 600000 ∧ ks ≤ 7302249) (hr : kc + 2 ≤ 600000 ∧ ks + 30 ≤ 7302249) (kh83 : k_S × k_S → Int32 → Option (Int32 × (k_S × k_S))) (hk83 : ∀ (q : Nat → Nat) (s : k_S × k_S) (l6 : Int32), KO X YL (cV 3 (k_I X) q) (kc + 2) (ks + 30) (k_QL X) 83 [some (.ref (b)), some (.ref (q 0)), some (.ref (q 30)), some (.ref (q 31)), some (.ref (q 32)), none, some (.int l6), none, none, none, none, none, none, none, none, none, none, none, none, none] [] s (kh83 s l6)) (kh208 : k_S × k_S → Int32 → Int32 → Int32 → Option (Int32 × (k_S × k_S))) (hk208 : ∀ (s : k_S × k_S) (l6 l7 l8 : Int32), KO X YL (cV 3 (k_I X) q) kc ks (k_QL X) 208 [some (.ref (b)), some (.ref (q 0)), some (.ref (q 30)), some (.ref (q 31)), some (.ref (q 32)), none, some (.int l6), some (.int l7), some (.int l8), none, none, none, none, none, none, none, none, none, none, none] [] s (kh208 s l6 l7 l8)) (s : k_S × k_S) (l6 l7 l8 t0 t1 : Int32) : KO X YL (cV 3 (k_I X) q) kc ks (k_QL X) 278 [some (.ref (b)), some (.ref (q 0)), some (.ref (q 30)), some (.ref (q 31)), some (.ref (q 32)), none, some (.int l6), some (.int l7), some (.int l8), none, none, none, none, none, none, none, none, none, none, none] [.int t1, .int t0] s (fL_law_c278 Ls xs kh83 kh208 s l6 l7 l8 t0 t1) := by
  unfold fL_law_c278
  refine k_icmp_ne (pc := 278) 303 dL_law_278 (by decide) ?_ ?_
  · exact KO.nil
  · refine k_aload_n (pc := 281) dL_law_281 rfl ?_
    refine k_iload (pc := 282) dL_law_282 rfl ?_
    refine k_bipush (pc := 284) (v := (nI 6)) dL_law_284 (by decide) ?_
    refine k_LTi2 (pc := 286) ckX6_ofTale rfl kwm_L_61 ⟨rfl, rfl⟩ ⟨Nat.le_of_ble_eq_true rfl, Nat.le_of_ble_eq_true rfl⟩ hk (Nat.le_of_ble_eq_true rfl) dL_law_286 (fun _ _ hf => kX6_ofTale hf) (fun r1 s3 => ?_)
    refine k_aload_n (pc := 289) dL_law_289 rfl ?_
    refine k_aload_n (pc := 290) dL_law_290 rfl ?_
    refine k_aload_n (pc := 291) dL_law_291 rfl ?_
    refine k_bipush (pc := 292) (v := (nI 33)) dL_law_292 (by decide) ?_
    refine k_lV3_0 (pc := 294) dL_law_294 ?_
    refine k_iload (pc := 295) dL_law_295 rfl ?_
    refine k_cq (pc := 297) (n := 4) (W0 := cR (k_I X) (fun k => q (30 + k)) (s3.2.2 0) (s3.2.2 1) (s3.2.2 2)) (As := [.ref (q 30), .ref (q 31), .int (s3.2.2 0 (Int32.toNatClampNeg ((nI 33)))), .int (l8)]) [30, 31, 32] (by decide) rfl ckL_tall kwm_L_35 rfl ⟨rfl, rfl⟩ ⟨Nat.le_of_ble_eq_true rfl, Nat.le_of_ble_eq_true rfl⟩ hk (Nat.le_of_ble_eq_true rfl) dL_law_297 rfl (fun _ _ hf => kL_tall (q := (fun k => q (30 + k))) (g := (s3.2.2 0)) (b := (s3.2.2 1)) (r := (s3.2.2 2)) hf) (fun r4 => ?_)
    refine k_icmp_eq (pc := 300) 305 dL_law_300 (by decide) ?_ ?_
    · refine k_iinc8 (pc := 305) (w := (nI 1)) dL_law_305 rfl (by decide) (Nat.le_of_ble_eq_true rfl) (fun v5 => ?_)
      refine k_goto (pc := 308) 208 dL_law_308 (by decide) ?_
      exact hk208 s3 l6 l7 v5
    · exact KO.nil
noncomputable def fL_law_c428 (Ls : Nat) (xs : Nat → Int32) (kh83 : k_S × k_S → Int32 → Option (Int32 × (k_S × k_S))) (kh319 : k_S × k_S → Int32 → Int32 → Int32 → Option (Int32 × (k_S × k_S))) (kh358 : k_S × k_S → Int32 → Int32 → Int32 → Int32 → Int32 → Option (Int32 × (k_S × k_S))) (s : k_S × k_S) (l6 l7 l9 l11 t0 : Int32) : Option (Int32 × (k_S × k_S)) := k_bn (t0) fun v1 => k_bn (l11 + (nI 1)) fun v2 => kh358 s l6 l7 l9 v1 v2
set_option maxRecDepth 100000 in
set_option maxHeartbeats 4000000 in
theorem kL_law_c428 {X : k_C} {q : Nat → Nat} {b Ls kc ks : Nat} {xs : Nat → Int32} (hX : k_At X b Ls xs) (hk : kc ≤ 600000 ∧ ks ≤ 7302249) (hr : kc + 1 ≤ 600000 ∧ ks + 25 ≤ 7302249) (kh83 : k_S × k_S → Int32 → Option (Int32 × (k_S × k_S))) (hk83 : ∀ (q : Nat → Nat) (s : k_S × k_S) (l6 : Int32), KO X YL (cV 3 (k_I X) q) (kc + 1) (ks + 25) (k_QL X) 83 [some (.ref (b)), some (.ref (q 0)), some (.ref (q 30)), some (.ref (q 31)), some (.ref (q 32)), none, some (.int l6), none, none, none, none, none, none, none, none, none, none, none, none, none] [] s (kh83 s l6)) (kh319 : k_S × k_S → Int32 → Int32 → Int32 → Option (Int32 × (k_S × k_S))) (hk319 : ∀ (s : k_S × k_S) (l6 l7 l9 : Int32), KO X YL (cV 4 (k_I X) q) kc ks (k_QL X) 319 [some (.ref (b)), some (.ref (q 0)), some (.ref (q 30)), some (.ref (q 31)), some (.ref (q 32)), none, some (.int l6), some (.int l7), some (.ref (q 33)), some (.int l9), none, none, none, none, none, none, none, none, none, none] [] s (kh319 s l6 l7 l9)) (kh358 : k_S × k_S → Int32 → Int32 → Int32 → Int32 → Int32 → Option (Int32 × (k_S × k_S))) (hk358 : ∀ (s : k_S × k_S) (l6 l7 l9 l10 l11 : Int32), KO X YL (cV 4 (k_I X) q) kc ks (k_QL X) 358 [some (.ref (b)), some (.ref (q 0)), some (.ref (q 30)), some (.ref (q 31)), some (.ref (q 32)), none, some (.int l6), some (.int l7), some (.ref (q 33)), some (.int l9), some (.int l10), some (.int l11), none, none, none, none, none, none, none, none] [] s (kh358 s l6 l7 l9 l10 l11)) (s : k_S × k_S) (l6 l7 l9 l11 t0 : Int32) : KO X YL (cV 4 (k_I X) q) kc ks (k_QL X) 428 [some (.ref (b)), some (.ref (q 0)), some (.ref (q 30)), some (.ref (q 31)), some (.ref (q 32)), none, some (.int l6), some (.int l7), some (.ref (q 33)), some (.int l9), none, some (.int l11), none, none, none, none, none, none, none, none] [.int t0] s (fL_law_c428 Ls xs kh83 kh319 kh358 s l6 l7 l9 l11 t0) := by
  unfold fL_law_c428
  refine k_ist10 (pc := 428) dL_law_428 (Nat.le_of_ble_eq_true rfl) (fun v1 => ?_)
  refine k_iinc11 (pc := 430) (w := (nI 1)) dL_law_430 rfl (by decide) (Nat.le_of_ble_eq_true rfl) (fun v2 => ?_)
  refine k_goto (pc := 433) 358 dL_law_433 (by decide) ?_
  exact hk358 s l6 l7 l9 v1 v2
noncomputable def fL_law_c412 (Ls : Nat) (xs : Nat → Int32) (kh83 : k_S × k_S → Int32 → Option (Int32 × (k_S × k_S))) (kh319 : k_S × k_S → Int32 → Int32 → Int32 → Option (Int32 × (k_S × k_S))) (kh358 : k_S × k_S → Int32 → Int32 → Int32 → Int32 → Int32 → Option (Int32 × (k_S × k_S))) (s : k_S × k_S) (l6 l7 l9 l10 l11 t0 : Int32) : Option (Int32 × (k_S × k_S)) := k_bn (t0) fun v1 => (if l10 < v1 then fL_law_c428 Ls xs kh83 kh319 kh358 s l6 l7 l9 l11 v1 else fL_law_c428 Ls xs kh83 kh319 kh358 s l6 l7 l9 l11 l10)
set_option maxRecDepth 100000 in
set_option maxHeartbeats 4000000 in
theorem kL_law_c412 {X : k_C} {q : Nat → Nat} {b Ls kc ks : Nat} {xs : Nat → Int32} (hX : k_At X b Ls xs) (hk : kc ≤ 600000 ∧ ks ≤ 7302249) (hr : kc + 1 ≤ 600000 ∧ ks + 25 ≤ 7302249) (kh83 : k_S × k_S → Int32 → Option (Int32 × (k_S × k_S))) (hk83 : ∀ (q : Nat → Nat) (s : k_S × k_S) (l6 : Int32), KO X YL (cV 3 (k_I X) q) (kc + 1) (ks + 25) (k_QL X) 83 [some (.ref (b)), some (.ref (q 0)), some (.ref (q 30)), some (.ref (q 31)), some (.ref (q 32)), none, some (.int l6), none, none, none, none, none, none, none, none, none, none, none, none, none] [] s (kh83 s l6)) (kh319 : k_S × k_S → Int32 → Int32 → Int32 → Option (Int32 × (k_S × k_S))) (hk319 : ∀ (s : k_S × k_S) (l6 l7 l9 : Int32), KO X YL (cV 4 (k_I X) q) kc ks (k_QL X) 319 [some (.ref (b)), some (.ref (q 0)), some (.ref (q 30)), some (.ref (q 31)), some (.ref (q 32)), none, some (.int l6), some (.int l7), some (.ref (q 33)), some (.int l9), none, none, none, none, none, none, none, none, none, none] [] s (kh319 s l6 l7 l9)) (kh358 : k_S × k_S → Int32 → Int32 → Int32 → Int32 → Int32 → Option (Int32 × (k_S × k_S))) (hk358 : ∀ (s : k_S × k_S) (l6 l7 l9 l10 l11 : Int32), KO X YL (cV 4 (k_I X) q) kc ks (k_QL X) 358 [some (.ref (b)), some (.ref (q 0)), some (.ref (q 30)), some (.ref (q 31)), some (.ref (q 32)), none, some (.int l6), some (.int l7), some (.ref (q 33)), some (.int l9), some (.int l10), some (.int l11), none, none, none, none, none, none, none, none] [] s (kh358 s l6 l7 l9 l10 l11)) (s : k_S × k_S) (l6 l7 l9 l10 l11 t0 : Int32) : KO X YL (cV 4 (k_I X) q) kc ks (k_QL X) 412 [some (.ref (b)), some (.ref (q 0)), some (.ref (q 30)), some (.ref (q 31)), some (.ref (q 32)), none, some (.int l6), some (.int l7), some (.ref (q 33)), some (.int l9), some (.int l10), some (.int l11), none, none, none, none, none, none, none, none] [.int t0] s (fL_law_c412 Ls xs kh83 kh319 kh358 s l6 l7 l9 l10 l11 t0) := by
  unfold fL_law_c412
  refine k_ist12 (pc := 412) dL_law_412 (Nat.le_of_ble_eq_true rfl) (fun v1 => ?_)
  refine k_iload (pc := 414) dL_law_414 rfl ?_
  refine k_iload (pc := 416) dL_law_416 rfl ?_
  refine k_icmp_le (pc := 418) 426 dL_law_418 (by decide) ?_ ?_
  · refine k_iload (pc := 426) dL_law_426 rfl ?_
    refine k_fg10 ?_
    refine k_fg12 ?_
    exact kL_law_c428 hX hk hr kh83 hk83 kh319 hk319 kh358 hk358 s l6 l7 l9 l11 l10
  · refine k_iload (pc := 421) dL_law_421 rfl ?_
    refine k_goto (pc := 423) 428 dL_law_423 (by decide) ?_
    refine k_fg10 ?_
    refine k_fg12 ?_
    exact kL_law_c428 hX hk hr kh83 hk83 kh319 hk319 kh358 hk358 s l6 l7 l9 l11 v1
noncomputable def fL_law_c381 (Ls : Nat) (xs : Nat → Int32) (kh83 : k_S × k_S → Int32 → Option (Int32 × (k_S × k_S))) (kh319 : k_S × k_S → Int32 → Int32 → Int32 → Option (Int32 × (k_S × k_S))) (kh358 : k_S × k_S → Int32 → Int32 → Int32 → Int32 → Int32 → Option (Int32 × (k_S × k_S))) (s : k_S × k_S) (l6 l7 l9 l10 l11 : Int32) : Option (Int32 × (k_S × k_S)) := fL_law_c412 Ls xs kh83 kh319 kh358 s l6 l7 l9 l10 l11 ((nI 0))
set_option maxRecDepth 100000 in
set_option maxHeartbeats 4000000 in
theorem kL_law_c381 {X : k_C} {q : Nat → Nat} {b Ls kc ks : Nat} {xs : Nat → Int32} (hX : k_At X b Ls xs) (hk : kc ≤ 600000 ∧ ks ≤ 7302249) (hr : kc + 1 ≤ 600000 ∧ ks + 25 ≤ 7302249) (kh83 : k_S × k_S → Int32 → Option (Int32 × (k_S × k_S))) (hk83 : ∀ (q : Nat → Nat) (s : k_S × k_S) (l6 : Int32), KO X YL (cV 3 (k_I X) q) (kc + 1) (ks + 25) (k_QL X) 83 [some (.ref (b)), some (.ref (q 0)), some (.ref (q 30)), some (.ref (q 31)), some (.ref (q 32)), none, some (.int l6), none, none, none, none, none, none, none, none, none, none, none, none, none] [] s (kh83 s l6)) (kh319 : k_S × k_S → Int32 → Int32 → Int32 → Option (Int32 × (k_S × k_S))) (hk319 : ∀ (s : k_S × k_S) (l6 l7 l9 : Int32), KO X YL (cV 4 (k_I X) q) kc ks (k_QL X) 319 [some (.ref (b)), some (.ref (q 0)), some (.ref (q 30)), some (.ref (q 31)), some (.ref (q 32)), none, some (.int l6), some (.int l7), some (.ref (q 33)), some (.int l9), none, none, none, none, none, none, none, none, none, none] [] s (kh319 s l6 l7 l9)) (kh358 : k_S × k_S → Int32 → Int32 → Int32 → Int32 → Int32 → Option (Int32 × (k_S × k_S))) (hk358 : ∀ (s : k_S × k_S) (l6 l7 l9 l10 l11 : Int32), KO X YL (cV 4 (k_I X) q) kc ks (k_QL X) 358 [some (.ref (b)), some (.ref (q 0)), some (.ref (q 30)), some (.ref (q 31)), some (.ref (q 32)), none, some (.int l6), some (.int l7), some (.ref (q 33)), some (.int l9), some (.int l10), some (.int l11), none, none, none, none, none, none, none, none] [] s (kh358 s l6 l7 l9 l10 l11)) (s : k_S × k_S) (l6 l7 l9 l10 l11 : Int32) : KO X YL (cV 4 (k_I X) q) kc ks (k_QL X) 381 [some (.ref (b)), some (.ref (q 0)), some (.ref (q 30)), some (.ref (q 31)), some (.ref (q 32)), none, some (.int l6), some (.int l7), some (.ref (q 33)), some (.int l9), some (.int l10), some (.int l11), none, none, none, none, none, none, none, none] [] s (fL_law_c381 Ls xs kh83 kh319 kh358 s l6 l7 l9 l10 l11) := by
  unfold fL_law_c381
  refine k_iconst (pc := 381) (v := (nI 0)) dL_law_381 (by decide) ?_
  refine k_goto (pc := 382) 412 dL_law_382 (by decide) ?_
  exact kL_law_c412 hX hk hr kh83 hk83 kh319 hk319 kh358 hk358 s l6 l7 l9 l10 l11 ((nI 0))
noncomputable def fL_law_c411 (Ls : Nat) (xs : Nat → Int32) (kh83 : k_S × k_S → Int32 → Option (Int32 × (k_S × k_S))) (kh319 : k_S × k_S → Int32 → Int32 → Int32 → Option (Int32 × (k_S × k_S))) (kh358 : k_S × k_S → Int32 → Int32 → Int32 → Int32 → Int32 → Option (Int32 × (k_S × k_S))) (s : k_S × k_S) (l6 l7 l9 l10 l11 t0 t1 : Int32) : Option (Int32 × (k_S × k_S)) := fL_law_c412 Ls xs kh83 kh319 kh358 s l6 l7 l9 l10 l11 ((t0 + t1))
set_option maxRecDepth 100000 in
set_option maxHeartbeats 4000000 in
theorem kL_law_c411 {X : k_C} {q : Nat → Nat} {b Ls kc ks : Nat} {xs : Nat → Int32} (hX : k_At X b Ls xs) (hk : kc ≤ 600000 ∧ ks ≤ 7302249) (hr : kc + 1 ≤ 600000 ∧ ks + 25 ≤ 7302249) (kh83 : k_S × k_S → Int32 → Option (Int32 × (k_S × k_S))) (hk83 : ∀ (q : Nat → Nat) (s : k_S × k_S) (l6 : Int32), KO X YL (cV 3 (k_I X) q) (kc + 1) (ks + 25) (k_QL X) 83 [some (.ref (b)), some (.ref (q 0)), some (.ref (q 30)), some (.ref (q 31)), some (.ref (q 32)), none, some (.int l6), none, none, none, none, none, none, none, none, none, none, none, none, none] [] s (kh83 s l6)) (kh319 : k_S × k_S → Int32 → Int32 → Int32 → Option (Int32 × (k_S × k_S))) (hk319 : ∀ (s : k_S × k_S) (l6 l7 l9 : Int32), KO X YL (cV 4 (k_I X) q) kc ks (k_QL X) 319 [some (.ref (b)), some (.ref (q 0)), some (.ref (q 30)), some (.ref (q 31)), some (.ref (q 32)), none, some (.int l6), some (.int l7), some (.ref (q 33)), some (.int l9), none, none, none, none, none, none, none, none, none, none] [] s (kh319 s l6 l7 l9)) (kh358 : k_S × k_S → Int32 → Int32 → Int32 → Int32 → Int32 → Option (Int32 × (k_S × k_S))) (hk358 : ∀ (s : k_S × k_S) (l6 l7 l9 l10 l11 : Int32), KO X YL (cV 4 (k_I X) q) kc ks (k_QL X) 358 [some (.ref (b)), some (.ref (q 0)), some (.ref (q 30)), some (.ref (q 31)), some (.ref (q 32)), none, some (.int l6), some (.int l7), some (.ref (q 33)), some (.int l9), some (.int l10), some (.int l11), none, none, none, none, none, none, none, none] [] s (kh358 s l6 l7 l9 l10 l11)) (s : k_S × k_S) (l6 l7 l9 l10 l11 t0 t1 : Int32) : KO X YL (cV 4 (k_I X) q) kc ks (k_QL X) 411 [some (.ref (b)), some (.ref (q 0)), some (.ref (q 30)), some (.ref (q 31)), some (.ref (q 32)), none, some (.int l6), some (.int l7), some (.ref (q 33)), some (.int l9), some (.int l10), some (.int l11), none, none, none, none, none, none, none, none] [.int t1, .int t0] s (fL_law_c411 Ls xs kh83 kh319 kh358 s l6 l7 l9 l10 l11 t0 t1) := by
  unfold fL_law_c411
  refine k_iadd (pc := 411) dL_law_411 ?_
  exact kL_law_c412 hX hk hr kh83 hk83 kh319 hk319 kh358 hk358 s l6 l7 l9 l10 l11 ((t0 + t1))
noncomputable def fL_law_c709 (Ls : Nat) (xs : Nat → Int32) (kh83 : k_S × k_S → Int32 → Option (Int32 × (k_S × k_S))) (kh319 : k_S × k_S → Int32 → Int32 → Int32 → Option (Int32 × (k_S × k_S))) (kh508 : k_S × k_S → Int32 → Int32 → Int32 → Int32 → Int32 → Int32 → Int32 → Int32 → Option (Int32 × (k_S × k_S))) (s : k_S × k_S) (l6 l7 l9 l11 l12 l13 l14 l15 : Int32) : Option (Int32 × (k_S × k_S)) := k_bn (l15 + (nI 1)) fun v1 => kh508 s l6 l7 l9 l11 l12 l13 l14 v1
set_option maxRecDepth 100000 in
set_option maxHeartbeats 4000000 in
theorem kL_law_c709 {X : k_C} {q : Nat → Nat} {b Ls kc ks : Nat} {xs : Nat → Int32} (hX : k_At X b Ls xs) (hk : kc ≤ 600000 ∧ ks ≤ 7302249) (hr : kc + 1 ≤ 600000 ∧ ks + 25 ≤ 7302249) (kh83 : k_S × k_S → Int32 → Option (Int32 × (k_S × k_S))) (hk83 : ∀ (q : Nat → Nat) (s : k_S × k_S) (l6 : Int32), KO X YL (cV 3 (k_I X) q) (kc + 1) (ks + 25) (k_QL X) 83 [some (.ref (b)), some (.ref (q 0)), some (.ref (q 30)), some (.ref (q 31)), some (.ref (q 32)), none, some (.int l6), none, none, none, none, none, none, none, none, none, none, none, none, none] [] s (kh83 s l6)) (kh319 : k_S × k_S → Int32 → Int32 → Int32 → Option (Int32 × (k_S × k_S))) (hk319 : ∀ (s : k_S × k_S) (l6 l7 l9 : Int32), KO X YL (cV 4 (k_I X) q) kc ks (k_QL X) 319 [some (.ref (b)), some (.ref (q 0)), some (.ref (q 30)), some (.ref (q 31)), some (.ref (q 32)), none, some (.int l6), some (.int l7), some (.ref (q 33)), some (.int l9), none, none, none, none, none, none, none, none, none, none] [] s (kh319 s l6 l7 l9)) (kh508 : k_S × k_S → Int32 → Int32 → Int32 → Int32 → Int32 → Int32 → Int32 → Int32 → Option (Int32 × (k_S × k_S))) (hk508 : ∀ (s : k_S × k_S) (l6 l7 l9 l11 l12 l13 l14 l15 : Int32), KO X YL (cV 4 (k_I X) q) kc ks (k_QL X) 508 [some (.ref (b)), some (.ref (q 0)), some (.ref (q 30)), some (.ref (q 31)), some (.ref (q 32)), none, some (.int l6), some (.int l7), some (.ref (q 33)), some (.int l9), none, some (.int l11), some (.int l12), some (.int l13), some (.int l14), some (.int l15), none, none, none, none] [] s (kh508 s l6 l7 l9 l11 l12 l13 l14 l15)) (s : k_S × k_S) (l6 l7 l9 l11 l12 l13 l14 l15 : Int32) : KO X YL (cV 4 (k_I X) q) kc ks (k_QL X) 709 [some (.ref (b)), some (.ref (q 0)), some (.ref (q 30)), some (.ref (q 31)), some (.ref (q 32)), none, some (.int l6), some (.int l7), some (.ref (q 33)), some (.int l9), none, some (.int l11), some (.int l12), some (.int l13), some (.int l14), some (.int l15), none, none, none, none] [] s (fL_law_c709 Ls xs kh83 kh319 kh508 s l6 l7 l9 l11 l12 l13 l14 l15) := by
  unfold fL_law_c709
  refine k_iinc15 (pc := 709) (w := (nI 1)) dL_law_709 rfl (by decide) (Nat.le_of_ble_eq_true rfl) (fun v1 => ?_)
  refine k_goto (pc := 712) 508 dL_law_712 (by decide) ?_
  exact hk508 s l6 l7 l9 l11 l12 l13 l14 v1
noncomputable def fL_law_c610 (Ls : Nat) (xs : Nat → Int32) (kh83 : k_S × k_S → Int32 → Option (Int32 × (k_S × k_S))) (kh319 : k_S × k_S → Int32 → Int32 → Int32 → Option (Int32 × (k_S × k_S))) (kh508 : k_S × k_S → Int32 → Int32 → Int32 → Int32 → Int32 → Int32 → Int32 → Int32 → Option (Int32 × (k_S × k_S))) (s : k_S × k_S) (l6 l7 l9 l13 l14 l15 l16 : Int32) : Option (Int32 × (k_S × k_S)) := k_bn (l15) fun v1 => k_bn (l16) fun v2 => fL_law_c709 Ls xs kh83 kh319 kh508 s l6 l7 l9 v1 v2 l13 l14 l15
set_option maxRecDepth 100000 in
set_option maxHeartbeats 4000000 in
theorem kL_law_c610 {X : k_C} {q : Nat → Nat} {b Ls kc ks : Nat} {xs : Nat → Int32} (hX : k_At X b Ls xs) (hk : kc ≤ 600000 ∧ ks ≤ 7302249) (hr : kc + 1 ≤ 600000 ∧ ks + 25 ≤ 7302249) (kh83 : k_S × k_S → Int32 → Option (Int32 × (k_S × k_S))) (hk83 : ∀ (q : Nat → Nat) (s : k_S × k_S) (l6 : Int32), KO X YL (cV 3 (k_I X) q) (kc + 1) (ks + 25) (k_QL X) 83 [some (.ref (b)), some (.ref (q 0)), some (.ref (q 30)), some (.ref (q 31)), some (.ref (q 32)), none, some (.int l6), none, none, none, none, none, none, none, none, none, none, none, none, none] [] s (kh83 s l6)) (kh319 : k_S × k_S → Int32 → Int32 → Int32 → Option (Int32 × (k_S × k_S))) (hk319 : ∀ (s : k_S × k_S) (l6 l7 l9 : Int32), KO X YL (cV 4 (k_I X) q) kc ks (k_QL X) 319 [some (.ref (b)), some (.ref (q 0)), some (.ref (q 30)), some (.ref (q 31)), some (.ref (q 32)), none, some (.int l6), some (.int l7), some (.ref (q 33)), some (.int l9), none, none, none, none, none, none, none, none, none, none] [] s (kh319 s l6 l7 l9)) (kh508 : k_S × k_S → Int32 → Int32 → Int32 → Int32 → Int32 → Int32 → Int32 → Int32 → Option (Int32 × (k_S × k_S))) (hk508 : ∀ (s : k_S × k_S) (l6 l7 l9 l11 l12 l13 l14 l15 : Int32), KO X YL (cV 4 (k_I X) q) kc ks (k_QL X) 508 [some (.ref (b)), some (.ref (q 0)), some (.ref (q 30)), some (.ref (q 31)), some (.ref (q 32)), none, some (.int l6), some (.int l7), some (.ref (q 33)), some (.int l9), none, some (.int l11), some (.int l12), some (.int l13), some (.int l14), some (.int l15), none, none, none, none] [] s (kh508 s l6 l7 l9 l11 l12 l13 l14 l15)) (s : k_S × k_S) (l6 l7 l9 l13 l14 l15 l16 : Int32) : KO X YL (cV 4 (k_I X) q) kc ks (k_QL X) 610 [some (.ref (b)), some (.ref (q 0)), some (.ref (q 30)), some (.ref (q 31)), some (.ref (q 32)), none, some (.int l6), some (.int l7), some (.ref (q 33)), some (.int l9), none, none, none, some (.int l13), some (.int l14), some (.int l15), some (.int l16), none, none, none] [] s (fL_law_c610 Ls xs kh83 kh319 kh508 s l6 l7 l9 l13 l14 l15 l16) := by
  unfold fL_law_c610
  refine k_iload (pc := 610) dL_law_610 rfl ?_
  refine k_ist11 (pc := 612) dL_law_612 (Nat.le_of_ble_eq_true rfl) (fun v1 => ?_)
  refine k_iload (pc := 614) dL_law_614 rfl ?_
  refine k_ist12 (pc := 616) dL_law_616 (Nat.le_of_ble_eq_true rfl) (fun v2 => ?_)
  refine k_goto (pc := 618) 709 dL_law_618 (by decide) ?_
  refine k_fg16 ?_
  exact kL_law_c709 hX hk hr kh83 hk83 kh319 hk319 kh508 hk508 s l6 l7 l9 v1 v2 l13 l14 l15
noncomputable def fL_law_c655 (Ls : Nat) (xs : Nat → Int32) (kh83 : k_S × k_S → Int32 → Option (Int32 × (k_S × k_S))) (kh319 : k_S × k_S → Int32 → Int32 → Int32 → Option (Int32 × (k_S × k_S))) (kh508 : k_S × k_S → Int32 → Int32 → Int32 → Int32 → Int32 → Int32 → Int32 → Int32 → Option (Int32 × (k_S × k_S))) (kh627 : k_S × k_S → Int32 → Int32 → Int32 → Int32 → Int32 → Int32 → Int32 → Int32 → Int32 → Int32 → Int32 → Int32 → Option (Int32 × (k_S × k_S))) (s : k_S × k_S) (l6 l7 l9 l11 l12 l13 l14 l15 l16 l17 l19 t0 : Int32) : Option (Int32 × (k_S × k_S)) := k_bn (t0) fun v1 => k_bn (l19 + (nI 1)) fun v2 => kh627 s l6 l7 l9 l11 l12 l13 l14 l15 l16 l17 v1 v2
set_option maxRecDepth 100000 in
set_option maxHeartbeats 4000000 in
theorem kL_law_c655 {X : k_C} {q : Nat → Nat} {b Ls kc ks : Nat} {xs : Nat → Int32} (hX : k_At X b Ls xs) (hk : kc ≤ 600000 ∧ ks ≤ 7302249) (hr : kc + 1 ≤ 600000 ∧ ks + 25 ≤ 7302249) (kh83 : k_S × k_S → Int32 → Option (Int32 × (k_S × k_S))) (hk83 : ∀ (q : Nat → Nat) (s : k_S × k_S) (l6 : Int32), KO X YL (cV 3 (k_I X) q) (kc + 1) (ks + 25) (k_QL X) 83 [some (.ref (b)), some (.ref (q 0)), some (.ref (q 30)), some (.ref (q 31)), some (.ref (q 32)), none, some (.int l6), none, none, none, none, none, none, none, none, none, none, none, none, none] [] s (kh83 s l6)) (kh319 : k_S × k_S → Int32 → Int32 → Int32 → Option (Int32 × (k_S × k_S))) (hk319 : ∀ (s : k_S × k_S) (l6 l7 l9 : Int32), KO X YL (cV 4 (k_I X) q) kc ks (k_QL X) 319 [some (.ref (b)), some (.ref (q 0)), some (.ref (q 30)), some (.ref (q 31)), some (.ref (q 32)), none, some (.int l6), some (.int l7), some (.ref (q 33)), some (.int l9), none, none, none, none, none, none, none, none, none, none] [] s (kh319 s l6 l7 l9)) (kh508 : k_S × k_S → Int32 → Int32 → Int32 → Int32 → Int32 → Int32 → Int32 → Int32 → Option (Int32 × (k_S × k_S))) (hk508 : ∀ (s : k_S × k_S) (l6 l7 l9 l11 l12 l13 l14 l15 : Int32), KO X YL (cV 4 (k_I X) q) kc ks (k_QL X) 508 [some (.ref (b)), some (.ref (q 0)), some (.ref (q 30)), some (.ref (q 31)), some (.ref (q 32)), none, some (.int l6), some (.int l7), some (.ref (q 33)), some (.int l9), none, some (.int l11), some (.int l12), some (.int l13), some (.int l14), some (.int l15), none, none, none, none] [] s (kh508 s l6 l7 l9 l11 l12 l13 l14 l15)) (kh627 : k_S × k_S → Int32 → Int32 → Int32 → Int32 → Int32 → Int32 → Int32 → Int32 → Int32 → Int32 → Int32 → Int32 → Option (Int32 × (k_S × k_S))) (hk627 : ∀ (s : k_S × k_S) (l6 l7 l9 l11 l12 l13 l14 l15 l16 l17 l18 l19 : Int32), KO X YL (cV 4 (k_I X) q) kc ks (k_QL X) 627 [some (.ref (b)), some (.ref (q 0)), some (.ref (q 30)), some (.ref (q 31)), some (.ref (q 32)), none, some (.int l6), some (.int l7), some (.ref (q 33)), some (.int l9), none, some (.int l11), some (.int l12), some (.int l13), some (.int l14), some (.int l15), some (.int l16), some (.int l17), some (.int l18), some (.int l19)] [] s (kh627 s l6 l7 l9 l11 l12 l13 l14 l15 l16 l17 l18 l19)) (s : k_S × k_S) (l6 l7 l9 l11 l12 l13 l14 l15 l16 l17 l19 t0 : Int32) : KO X YL (cV 4 (k_I X) q) kc ks (k_QL X) 655 [some (.ref (b)), some (.ref (q 0)), some (.ref (q 30)), some (.ref (q 31)), some (.ref (q 32)), none, some (.int l6), some (.int l7), some (.ref (q 33)), some (.int l9), none, some (.int l11), some (.int l12), some (.int l13), some (.int l14), some (.int l15), some (.int l16), some (.int l17), none, some (.int l19)] [.int t0] s (fL_law_c655 Ls xs kh83 kh319 kh508 kh627 s l6 l7 l9 l11 l12 l13 l14 l15 l16 l17 l19 t0) := by
  unfold fL_law_c655
  refine k_ist18 (pc := 655) dL_law_655 (Nat.le_of_ble_eq_true rfl) (fun v1 => ?_)
  refine k_iinc19 (pc := 657) (w := (nI 1)) dL_law_657 rfl (by decide) (Nat.le_of_ble_eq_true rfl) (fun v2 => ?_)
  refine k_goto (pc := 660) 627 dL_law_660 (by decide) ?_
  exact hk627 s l6 l7 l9 l11 l12 l13 l14 l15 l16 l17 v1 v2
noncomputable def fL_law_c650 (Ls : Nat) (xs : Nat → Int32) (kh83 : k_S × k_S → Int32 → Option (Int32 × (k_S × k_S))) (kh319 : k_S × k_S → Int32 → Int32 → Int32 → Option (Int32 × (k_S × k_S))) (kh508 : k_S × k_S → Int32 → Int32 → Int32 → Int32 → Int32 → Int32 → Int32 → Int32 → Option (Int32 × (k_S × k_S))) (kh627 : k_S × k_S → Int32 → Int32 → Int32 → Int32 → Int32 → Int32 → Int32 → Int32 → Int32 → Int32 → Int32 → Int32 → Option (Int32 × (k_S × k_S))) (s : k_S × k_S) (l6 l7 l9 l11 l12 l13 l14 l15 l16 l17 l19 : Int32) : Option (Int32 × (k_S × k_S)) := fL_law_c655 Ls xs kh83 kh319 kh508 kh627 s l6 l7 l9 l11 l12 l13 l14 l15 l16 l17 l19 ((nI 1))
set_option maxRecDepth 100000 in
set_option maxHeartbeats 4000000 in
theorem kL_law_c650 {X : k_C} {q : Nat → Nat} {b Ls kc ks : Nat} {xs : Nat → Int32} (hX : k_At X b Ls xs) (hk : kc ≤ 600000 ∧ ks ≤ 7302249) (hr : kc + 1 ≤ 600000 ∧ ks + 25 ≤ 7302249) (kh83 : k_S × k_S → Int32 → Option (Int32 × (k_S × k_S))) (hk83 : ∀ (q : Nat → Nat) (s : k_S × k_S) (l6 : Int32), KO X YL (cV 3 (k_I X) q) (kc + 1) (ks + 25) (k_QL X) 83 [some (.ref (b)), some (.ref (q 0)), some (.ref (q 30)), some (.ref (q 31)), some (.ref (q 32)), none, some (.int l6), none, none, none, none, none, none, none, none, none, none, none, none, none] [] s (kh83 s l6)) (kh319 : k_S × k_S → Int32 → Int32 → Int32 → Option (Int32 × (k_S × k_S))) (hk319 : ∀ (s : k_S × k_S) (l6 l7 l9 : Int32), KO X YL (cV 4 (k_I X) q) kc ks (k_QL X) 319 [some (.ref (b)), some (.ref (q 0)), some (.ref (q 30)), some (.ref (q 31)), some (.ref (q 32)), none, some (.int l6), some (.int l7), some (.ref (q 33)), some (.int l9), none, none, none, none, none, none, none, none, none, none] [] s (kh319 s l6 l7 l9)) (kh508 : k_S × k_S → Int32 → Int32 → Int32 → Int32 → Int32 → Int32 → Int32 → Int32 → Option (Int32 × (k_S × k_S))) (hk508 : ∀ (s : k_S × k_S) (l6 l7 l9 l11 l12 l13 l14 l15 : Int32), KO X YL (cV 4 (k_I X) q) kc ks (k_QL X) 508 [some (.ref (b)), some (.ref (q 0)), some (.ref (q 30)), some (.ref (q 31)), some (.ref (q 32)), none, some (.int l6), some (.int l7), some (.ref (q 33)), some (.int l9), none, some (.int l11), some (.int l12), some (.int l13), some (.int l14), some (.int l15), none, none, none, none] [] s (kh508 s l6 l7 l9 l11 l12 l13 l14 l15)) (kh627 : k_S × k_S → Int32 → Int32 → Int32 → Int32 → Int32 → Int32 → Int32 → Int32 → Int32 → Int32 → Int32 → Int32 → Option (Int32 × (k_S × k_S))) (hk627 : ∀ (s : k_S × k_S) (l6 l7 l9 l11 l12 l13 l14 l15 l16 l17 l18 l19 : Int32), KO X YL (cV 4 (k_I X) q) kc ks (k_QL X) 627 [some (.ref (b)), some (.ref (q 0)), some (.ref (q 30)), some (.ref (q 31)), some (.ref (q 32)), none, some (.int l6), some (.int l7), some (.ref (q 33)), some (.int l9), none, some (.int l11), some (.int l12), some (.int l13), some (.int l14), some (.int l15), some (.int l16), some (.int l17), some (.int l18), some (.int l19)] [] s (kh627 s l6 l7 l9 l11 l12 l13 l14 l15 l16 l17 l18 l19)) (s : k_S × k_S) (l6 l7 l9 l11 l12 l13 l14 l15 l16 l17 l19 : Int32) : KO X YL (cV 4 (k_I X) q) kc ks (k_QL X) 650 [some (.ref (b)), some (.ref (q 0)), some (.ref (q 30)), some (.ref (q 31)), some (.ref (q 32)), none, some (.int l6), some (.int l7), some (.ref (q 33)), some (.int l9), none, some (.int l11), some (.int l12), some (.int l13), some (.int l14), some (.int l15), some (.int l16), some (.int l17), none, some (.int l19)] [] s (fL_law_c650 Ls xs kh83 kh319 kh508 kh627 s l6 l7 l9 l11 l12 l13 l14 l15 l16 l17 l19) := by
  unfold fL_law_c650
  refine k_iconst (pc := 650) (v := (nI 1)) dL_law_650 (by decide) ?_
  refine k_goto (pc := 651) 655 dL_law_651 (by decide) ?_
  exact kL_law_c655 hX hk hr kh83 hk83 kh319 hk319 kh508 hk508 kh627 hk627 s l6 l7 l9 l11 l12 l13 l14 l15 l16 l17 l19 ((nI 1))
noncomputable def fL_law_c701 (Ls : Nat) (xs : Nat → Int32) (kh83 : k_S × k_S → Int32 → Option (Int32 × (k_S × k_S))) (kh319 : k_S × k_S → Int32 → Int32 → Int32 → Option (Int32 × (k_S × k_S))) (kh508 : k_S × k_S → Int32 → Int32 → Int32 → Int32 → Int32 → Int32 → Int32 → Int32 → Option (Int32 × (k_S × k_S))) (s : k_S × k_S) (l6 l7 l9 l11 l12 l15 l16 : Int32) : Option (Int32 × (k_S × k_S)) := k_bn (l15) fun v1 => k_bn (l16) fun v2 => fL_law_c709 Ls xs kh83 kh319 kh508 s l6 l7 l9 l11 l12 v1 v2 l15
set_option maxRecDepth 100000 in
set_option maxHeartbeats 4000000 in
theorem kL_law_c701 {X : k_C} {q : Nat → Nat} {b Ls kc ks : Nat} {xs : Nat → Int32} (hX : k_At X b Ls xs) (hk : kc ≤ 600000 ∧ ks ≤ 7302249) (hr : kc + 1 ≤ 600000 ∧ ks + 25 ≤ 7302249) (kh83 : k_S × k_S → Int32 → Option (Int32 × (k_S × k_S))) (hk83 : ∀ (q : Nat → Nat) (s : k_S × k_S) (l6 : Int32), KO X YL (cV 3 (k_I X) q) (kc + 1) (ks + 25) (k_QL X) 83 [some (.ref (b)), some (.ref (q 0)), some (.ref (q 30)), some (.ref (q 31)), some (.ref (q 32)), none, some (.int l6), none, none, none, none, none, none, none, none, none, none, none, none, none] [] s (kh83 s l6)) (kh319 : k_S × k_S → Int32 → Int32 → Int32 → Option (Int32 × (k_S × k_S))) (hk319 : ∀ (s : k_S × k_S) (l6 l7 l9 : Int32), KO X YL (cV 4 (k_I X) q) kc ks (k_QL X) 319 [some (.ref (b)), some (.ref (q 0)), some (.ref (q 30)), some (.ref (q 31)), some (.ref (q 32)), none, some (.int l6), some (.int l7), some (.ref (q 33)), some (.int l9), none, none, none, none, none, none, none, none, none, none] [] s (kh319 s l6 l7 l9)) (kh508 : k_S × k_S → Int32 → Int32 → Int32 → Int32 → Int32 → Int32 → Int32 → Int32 → Option (Int32 × (k_S × k_S))) (hk508 : ∀ (s : k_S × k_S) (l6 l7 l9 l11 l12 l13 l14 l15 : Int32), KO X YL (cV 4 (k_I X) q) kc ks (k_QL X) 508 [some (.ref (b)), some (.ref (q 0)), some (.ref (q 30)), some (.ref (q 31)), some (.ref (q 32)), none, some (.int l6), some (.int l7), some (.ref (q 33)), some (.int l9), none, some (.int l11), some (.int l12), some (.int l13), some (.int l14), some (.int l15), none, none, none, none] [] s (kh508 s l6 l7 l9 l11 l12 l13 l14 l15)) (s : k_S × k_S) (l6 l7 l9 l11 l12 l15 l16 : Int32) : KO X YL (cV 4 (k_I X) q) kc ks (k_QL X) 701 [some (.ref (b)), some (.ref (q 0)), some (.ref (q 30)), some (.ref (q 31)), some (.ref (q 32)), none, some (.int l6), some (.int l7), some (.ref (q 33)), some (.int l9), none, some (.int l11), some (.int l12), none, none, some (.int l15), some (.int l16), none, none, none] [] s (fL_law_c701 Ls xs kh83 kh319 kh508 s l6 l7 l9 l11 l12 l15 l16) := by
  unfold fL_law_c701
  refine k_iload (pc := 701) dL_law_701 rfl ?_
  refine k_ist13 (pc := 703) dL_law_703 (Nat.le_of_ble_eq_true rfl) (fun v1 => ?_)
  refine k_iload (pc := 705) dL_law_705 rfl ?_
  refine k_ist14 (pc := 707) dL_law_707 (Nat.le_of_ble_eq_true rfl) (fun v2 => ?_)
  refine k_fg16 ?_
  exact kL_law_c709 hX hk hr kh83 hk83 kh319 hk319 kh508 hk508 s l6 l7 l9 l11 l12 v1 v2 l15
noncomputable def fL_law_c663 (Ls : Nat) (xs : Nat → Int32) (kh83 : k_S × k_S → Int32 → Option (Int32 × (k_S × k_S))) (kh319 : k_S × k_S → Int32 → Int32 → Int32 → Option (Int32 × (k_S × k_S))) (kh508 : k_S × k_S → Int32 → Int32 → Int32 → Int32 → Int32 → Int32 → Int32 → Int32 → Option (Int32 × (k_S × k_S))) (s : k_S × k_S) (l6 l7 l9 l11 l12 l13 l14 l15 l16 l17 l18 : Int32) : Option (Int32 × (k_S × k_S)) := (if l18 = 0 then (if l14 < l16 then fL_law_c709 Ls xs kh83 kh319 kh508 s l6 l7 l9 l11 l12 l13 l14 l15 else (if l16 = l14 then k_gd ((nI 33)) 34 (k_oq (fL_tall (s.2.2 0) (s.2.2 1) (s.2.2 0 (Int32.toNatClampNeg ((nI 33)))) (l13)) fun r1 => (if l17 < r1 then fL_law_c701 Ls xs kh83 kh319 kh508 s l6 l7 l9 l11 l12 l15 l16 else fL_law_c709 Ls xs kh83 kh319 kh508 s l6 l7 l9 l11 l12 l13 l14 l15)) else fL_law_c701 Ls xs kh83 kh319 kh508 s l6 l7 l9 l11 l12 l15 l16)) else fL_law_c709 Ls xs kh83 kh319 kh508 s l6 l7 l9 l11 l12 l13 l14 l15)
set_option maxRecDepth 100000 in
set_option maxHeartbeats 4000000 in
theorem kL_law_c663 {X : k_C} {q : Nat → Nat} {b Ls kc ks : Nat} {xs : Nat → Int32} (hX : k_At X b Ls xs) (hk : kc ≤ 600000 ∧ ks ≤ 7302249) (hr : kc + 1 ≤ 600000 ∧ ks + 25 ≤ 7302249) (kh83 : k_S × k_S → Int32 → Option (Int32 × (k_S × k_S))) (hk83 : ∀ (q : Nat → Nat) (s : k_S × k_S) (l6 : Int32), KO X YL (cV 3 (k_I X) q) (kc + 1) (ks + 25) (k_QL X) 83 [some (.ref (b)), some (.ref (q 0)), some (.ref (q 30)), some (.ref (q 31)), some (.ref (q 32)), none, some (.int l6), none, none, none, none, none, none, none, none, none, none, none, none, none] [] s (kh83 s l6)) (kh319 : k_S × k_S → Int32 → Int32 → Int32 → Option (Int32 × (k_S × k_S))) (hk319 : ∀ (s : k_S × k_S) (l6 l7 l9 : Int32), KO X YL (cV 4 (k_I X) q) kc ks (k_QL X) 319 [some (.ref (b)), some (.ref (q 0)), some (.ref (q 30)), some (.ref (q 31)), some (.ref (q 32)), none, some (.int l6), some (.int l7), some (.ref (q 33)), some (.int l9), none, none, none, none, none, none, none, none, none, none] [] s (kh319 s l6 l7 l9)) (kh508 : k_S × k_S → Int32 → Int32 → Int32 → Int32 → Int32 → Int32 → Int32 → Int32 → Option (Int32 × (k_S × k_S))) (hk508 : ∀ (s : k_S × k_S) (l6 l7 l9 l11 l12 l13 l14 l15 : Int32), KO X YL (cV 4 (k_I X) q) kc ks (k_QL X) 508 [some (.ref (b)), some (.ref (q 0)), some (.ref (q 30)), some (.ref (q 31)), some (.ref (q 32)), none, some (.int l6), some (.int l7), some (.ref (q 33)), some (.int l9), none, some (.int l11), some (.int l12), some (.int l13), some (.int l14), some (.int l15), none, none, none, none] [] s (kh508 s l6 l7 l9 l11 l12 l13 l14 l15)) (s : k_S × k_S) (l6 l7 l9 l11 l12 l13 l14 l15 l16 l17 l18 : Int32) : KO X YL (cV 4 (k_I X) q) kc ks (k_QL X) 663 [some (.ref (b)), some (.ref (q 0)), some (.ref (q 30)), some (.ref (q 31)), some (.ref (q 32)), none, some (.int l6), some (.int l7), some (.ref (q 33)), some (.int l9), none, some (.int l11), some (.int l12), some (.int l13), some (.int l14), some (.int l15), some (.int l16), some (.int l17), some (.int l18), none] [] s (fL_law_c663 Ls xs kh83 kh319 kh508 s l6 l7 l9 l11 l12 l13 l14 l15 l16 l17 l18) := by
  unfold fL_law_c663
  refine k_iload (pc := 663) dL_law_663 rfl ?_
  refine k_if_ne (pc := 665) 709 dL_law_665 (by decide) ?_ ?_
  · refine k_fg16 ?_
    refine k_fg17 ?_
    refine k_fg18 ?_
    exact kL_law_c709 hX hk hr kh83 hk83 kh319 hk319 kh508 hk508 s l6 l7 l9 l11 l12 l13 l14 l15
  · refine k_iload (pc := 668) dL_law_668 rfl ?_
    refine k_iload (pc := 670) dL_law_670 rfl ?_
    refine k_icmp_gt (pc := 672) 709 dL_law_672 (by decide) ?_ ?_
    · refine k_fg16 ?_
      refine k_fg17 ?_
      refine k_fg18 ?_
      exact kL_law_c709 hX hk hr kh83 hk83 kh319 hk319 kh508 hk508 s l6 l7 l9 l11 l12 l13 l14 l15
    · refine k_iload (pc := 675) dL_law_675 rfl ?_
      refine k_iload (pc := 677) dL_law_677 rfl ?_
      refine k_icmp_ne (pc := 679) 701 dL_law_679 (by decide) ?_ ?_
      · refine k_fg13 ?_
        refine k_fg14 ?_
        refine k_fg17 ?_
        refine k_fg18 ?_
        exact kL_law_c701 hX hk hr kh83 hk83 kh319 hk319 kh508 hk508 s l6 l7 l9 l11 l12 l15 l16
      · refine k_iload (pc := 682) dL_law_682 rfl ?_
        refine k_aload_n (pc := 684) dL_law_684 rfl ?_
        refine k_aload_n (pc := 685) dL_law_685 rfl ?_
        refine k_aload_n (pc := 686) dL_law_686 rfl ?_
        refine k_bipush (pc := 687) (v := (nI 33)) dL_law_687 (by decide) ?_
        refine k_lV4_0 (pc := 689) dL_law_689 ?_
        refine k_iload (pc := 690) dL_law_690 rfl ?_
        refine k_cq (pc := 692) (n := 4) (W0 := cR (k_I X) (fun k => q (30 + k)) (s.2.2 0) (s.2.2 1) (s.2.2 2)) (As := [.ref (q 30), .ref (q 31), .int (s.2.2 0 (Int32.toNatClampNeg ((nI 33)))), .int (l13)]) [30, 31, 32] (by decide) rfl ckL_tall kwm_L_35 rfl ⟨rfl, rfl⟩ ⟨Nat.le_of_ble_eq_true rfl, Nat.le_of_ble_eq_true rfl⟩ hk (Nat.le_of_ble_eq_true rfl) dL_law_692 rfl (fun _ _ hf => kL_tall (q := (fun k => q (30 + k))) (g := (s.2.2 0)) (b := (s.2.2 1)) (r := (s.2.2 2)) hf) (fun r1 => ?_)
        refine k_icmp_lt (pc := 695) 701 dL_law_695 (by decide) ?_ ?_
        · refine k_fg13 ?_
          refine k_fg14 ?_
          refine k_fg17 ?_
          refine k_fg18 ?_
          exact kL_law_c701 hX hk hr kh83 hk83 kh319 hk319 kh508 hk508 s l6 l7 l9 l11 l12 l15 l16
        · refine k_goto (pc := 698) 709 dL_law_698 (by decide) ?_
          refine k_fg16 ?_
          refine k_fg17 ?_
          refine k_fg18 ?_
          exact kL_law_c709 hX hk hr kh83 hk83 kh319 hk319 kh508 hk508 s l6 l7 l9 l11 l12 l13 l14 l15
noncomputable def fL_law_c627 (Ls : Nat) (xs : Nat → Int32) (kh83 : k_S × k_S → Int32 → Option (Int32 × (k_S × k_S))) (kh319 : k_S × k_S → Int32 → Int32 → Int32 → Option (Int32 × (k_S × k_S))) (kh508 : k_S × k_S → Int32 → Int32 → Int32 → Int32 → Int32 → Int32 → Int32 → Int32 → Option (Int32 × (k_S × k_S))) : Nat → k_S × k_S → Int32 → Int32 → Int32 → Int32 → Int32 → Int32 → Int32 → Int32 → Int32 → Int32 → Int32 → Int32 → Option (Int32 × (k_S × k_S))
  | 0, _, _, _, _, _, _, _, _, _, _, _, _, _ => none
  | n + 1, s, l6, l7, l9, l11, l12, l13, l14, l15, l16, l17, l18, l19 => k_gd ((nI 0)) 34 ((if l19 < s.2.2 0 (Int32.toNatClampNeg ((nI 0))) then (if l18 = 0 then k_gd (l19) 5 ((if s.2.2 2 (Int32.toNatClampNeg (l19)) = l15 then fL_law_c650 Ls xs kh83 kh319 kh508 (fL_law_c627 Ls xs kh83 kh319 kh508 n) s l6 l7 l9 l11 l12 l13 l14 l15 l16 l17 l19 else fL_law_c655 Ls xs kh83 kh319 kh508 (fL_law_c627 Ls xs kh83 kh319 kh508 n) s l6 l7 l9 l11 l12 l13 l14 l15 l16 l17 l19 ((nI 0)))) else fL_law_c650 Ls xs kh83 kh319 kh508 (fL_law_c627 Ls xs kh83 kh319 kh508 n) s l6 l7 l9 l11 l12 l13 l14 l15 l16 l17 l19) else fL_law_c663 Ls xs kh83 kh319 kh508 s l6 l7 l9 l11 l12 l13 l14 l15 l16 l17 l18))
theorem fL_law_c627_s (Ls : Nat) (xs : Nat → Int32) (kh83 : k_S × k_S → Int32 → Option (Int32 × (k_S × k_S))) (kh319 : k_S × k_S → Int32 → Int32 → Int32 → Option (Int32 × (k_S × k_S))) (kh508 : k_S × k_S → Int32 → Int32 → Int32 → Int32 → Int32 → Int32 → Int32 → Int32 → Option (Int32 × (k_S × k_S))) (n : Nat) (s : k_S × k_S) (l6 l7 l9 l11 l12 l13 l14 l15 l16 l17 l18 l19 : Int32) : fL_law_c627 Ls xs kh83 kh319 kh508 (n + 1) s l6 l7 l9 l11 l12 l13 l14 l15 l16 l17 l18 l19 = k_gd ((nI 0)) 34 ((if l19 < s.2.2 0 (Int32.toNatClampNeg ((nI 0))) then (if l18 = 0 then k_gd (l19) 5 ((if s.2.2 2 (Int32.toNatClampNeg (l19)) = l15 then fL_law_c650 Ls xs kh83 kh319 kh508 (fL_law_c627 Ls xs kh83 kh319 kh508 n) s l6 l7 l9 l11 l12 l13 l14 l15 l16 l17 l19 else fL_law_c655 Ls xs kh83 kh319 kh508 (fL_law_c627 Ls xs kh83 kh319 kh508 n) s l6 l7 l9 l11 l12 l13 l14 l15 l16 l17 l19 ((nI 0)))) else fL_law_c650 Ls xs kh83 kh319 kh508 (fL_law_c627 Ls xs kh83 kh319 kh508 n) s l6 l7 l9 l11 l12 l13 l14 l15 l16 l17 l19) else fL_law_c663 Ls xs kh83 kh319 kh508 s l6 l7 l9 l11 l12 l13 l14 l15 l16 l17 l18)) := rfl
set_option maxRecDepth 100000 in
set_option maxHeartbeats 4000000 in
theorem kL_law_c627 {X : k_C} {q : Nat → Nat} {b Ls kc ks : Nat} {xs : Nat → Int32} (hX : k_At X b Ls xs) (hk : kc ≤ 600000 ∧ ks ≤ 7302249) (hr : kc + 1 ≤ 600000 ∧ ks + 25 ≤ 7302249) (kh83 : k_S × k_S → Int32 → Option (Int32 × (k_S × k_S))) (hk83 : ∀ (q : Nat → Nat) (s : k_S × k_S) (l6 : Int32), KO X YL (cV 3 (k_I X) q) (kc + 1) (ks + 25) (k_QL X) 83 [some (.ref (b)), some (.ref (q 0)), some (.ref (q 30)), some (.ref (q 31)), some (.ref (q 32)), none, some (.int l6), none, none, none, none, none, none, none, none, none, none, none, none, none] [] s (kh83 s l6)) (kh319 : k_S × k_S → Int32 → Int32 → Int32 → Option (Int32 × (k_S × k_S))) (hk319 : ∀ (s : k_S × k_S) (l6 l7 l9 : Int32), KO X YL (cV 4 (k_I X) q) kc ks (k_QL X) 319 [some (.ref (b)), some (.ref (q 0)), some (.ref (q 30)), some (.ref (q 31)), some (.ref (q 32)), none, some (.int l6), some (.int l7), some (.ref (q 33)), some (.int l9), none, none, none, none, none, none, none, none, none, none] [] s (kh319 s l6 l7 l9)) (kh508 : k_S × k_S → Int32 → Int32 → Int32 → Int32 → Int32 → Int32 → Int32 → Int32 → Option (Int32 × (k_S × k_S))) (hk508 : ∀ (s : k_S × k_S) (l6 l7 l9 l11 l12 l13 l14 l15 : Int32), KO X YL (cV 4 (k_I X) q) kc ks (k_QL X) 508 [some (.ref (b)), some (.ref (q 0)), some (.ref (q 30)), some (.ref (q 31)), some (.ref (q 32)), none, some (.int l6), some (.int l7), some (.ref (q 33)), some (.int l9), none, some (.int l11), some (.int l12), some (.int l13), some (.int l14), some (.int l15), none, none, none, none] [] s (kh508 s l6 l7 l9 l11 l12 l13 l14 l15)) : ∀ (n : Nat) (s : k_S × k_S) (l6 l7 l9 l11 l12 l13 l14 l15 l16 l17 l18 l19 : Int32), KO X YL (cV 4 (k_I X) q) kc ks (k_QL X) 627 [some (.ref (b)), some (.ref (q 0)), some (.ref (q 30)), some (.ref (q 31)), some (.ref (q 32)), none, some (.int l6), some (.int l7), some (.ref (q 33)), some (.int l9), none, some (.int l11), some (.int l12), some (.int l13), some (.int l14), some (.int l15), some (.int l16), some (.int l17), some (.int l18), some (.int l19)] [] s (fL_law_c627 Ls xs kh83 kh319 kh508 n s l6 l7 l9 l11 l12 l13 l14 l15 l16 l17 l18 l19) := by
  intro n
  induction n with
  | zero => intros; exact KO.nil
  | succ n ih =>
    intro s l6 l7 l9 l11 l12 l13 l14 l15 l16 l17 l18 l19
    rw [fL_law_c627_s]
    refine k_iload (pc := 627) dL_law_627 rfl ?_
    refine k_aload_n (pc := 629) dL_law_629 rfl ?_
    refine k_iconst (pc := 630) (v := (nI 0)) dL_law_630 (by decide) ?_
    refine k_lV4_0 (pc := 631) dL_law_631 ?_
    refine k_icmp_ge (pc := 632) 663 dL_law_632 (by decide) ?_ ?_
    · refine k_fg19 ?_
      exact kL_law_c663 hX hk hr kh83 hk83 kh319 hk319 kh508 hk508 s l6 l7 l9 l11 l12 l13 l14 l15 l16 l17 l18
    · refine k_iload (pc := 635) dL_law_635 rfl ?_
      refine k_if_ne (pc := 637) 650 dL_law_637 (by decide) ?_ ?_
      · refine k_fg18 ?_
        exact kL_law_c650 hX hk hr kh83 hk83 kh319 hk319 kh508 hk508 (fL_law_c627 Ls xs kh83 kh319 kh508 n) ih s l6 l7 l9 l11 l12 l13 l14 l15 l16 l17 l19
      · refine k_aload (pc := 640) dL_law_640 rfl ?_
        refine k_iload (pc := 642) dL_law_642 rfl ?_
        refine k_lV4_2 (pc := 644) dL_law_644 ?_
        refine k_iload (pc := 645) dL_law_645 rfl ?_
        refine k_icmp_ne (pc := 647) 654 dL_law_647 (by decide) ?_ ?_
        · refine k_iconst (pc := 654) (v := (nI 0)) dL_law_654 (by decide) ?_
          refine k_fg18 ?_
          exact kL_law_c655 hX hk hr kh83 hk83 kh319 hk319 kh508 hk508 (fL_law_c627 Ls xs kh83 kh319 kh508 n) ih s l6 l7 l9 l11 l12 l13 l14 l15 l16 l17 l19 ((nI 0))
        · refine k_fg18 ?_
          exact kL_law_c650 hX hk hr kh83 hk83 kh319 hk319 kh508 hk508 (fL_law_c627 Ls xs kh83 kh319 kh508 n) ih s l6 l7 l9 l11 l12 l13 l14 l15 l16 l17 l19
noncomputable def fL_law_c780 (Ls : Nat) (xs : Nat → Int32) (kh83 : k_S × k_S → Int32 → Option (Int32 × (k_S × k_S))) (kh319 : k_S × k_S → Int32 → Int32 → Int32 → Option (Int32 × (k_S × k_S))) (s : k_S × k_S) (l6 l7 l9 t0 t1 : Int32) : Option (Int32 × (k_S × k_S)) := (if t0 = t1 then k_bn (l9 + (nI 1)) fun v1 => kh319 s l6 l7 v1 else none)
set_option maxRecDepth 100000 in
set_option maxHeartbeats 4000000 in
theorem kL_law_c780 {X : k_C} {q : Nat → Nat} {b Ls kc ks : Nat} {xs : Nat → Int32} (hX : k_At X b Ls xs) (hk : kc ≤ 600000 ∧ ks ≤ 7302249) (hr : kc + 1 ≤ 600000 ∧ ks + 25 ≤ 7302249) (kh83 : k_S × k_S → Int32 → Option (Int32 × (k_S × k_S))) (hk83 : ∀ (q : Nat → Nat) (s : k_S × k_S) (l6 : Int32), KO X YL (cV 3 (k_I X) q) (kc + 1) (ks + 25) (k_QL X) 83 [some (.ref (b)), some (.ref (q 0)), some (.ref (q 30)), some (.ref (q 31)), some (.ref (q 32)), none, some (.int l6), none, none, none, none, none, none, none, none, none, none, none, none, none] [] s (kh83 s l6)) (kh319 : k_S × k_S → Int32 → Int32 → Int32 → Option (Int32 × (k_S × k_S))) (hk319 : ∀ (s : k_S × k_S) (l6 l7 l9 : Int32), KO X YL (cV 4 (k_I X) q) kc ks (k_QL X) 319 [some (.ref (b)), some (.ref (q 0)), some (.ref (q 30)), some (.ref (q 31)), some (.ref (q 32)), none, some (.int l6), some (.int l7), some (.ref (q 33)), some (.int l9), none, none, none, none, none, none, none, none, none, none] [] s (kh319 s l6 l7 l9)) (s : k_S × k_S) (l6 l7 l9 t0 t1 : Int32) : KO X YL (cV 4 (k_I X) q) kc ks (k_QL X) 780 [some (.ref (b)), some (.ref (q 0)), some (.ref (q 30)), some (.ref (q 31)), some (.ref (q 32)), none, some (.int l6), some (.int l7), some (.ref (q 33)), some (.int l9), none, none, none, none, none, none, none, none, none, none] [.int t1, .int t0] s (fL_law_c780 Ls xs kh83 kh319 s l6 l7 l9 t0 t1) := by
  unfold fL_law_c780
  refine k_icmp_eq (pc := 780) 785 dL_law_780 (by decide) ?_ ?_
  · refine k_iinc9 (pc := 785) (w := (nI 1)) dL_law_785 rfl (by decide) (Nat.le_of_ble_eq_true rfl) (fun v1 => ?_)
    refine k_goto (pc := 788) 319 dL_law_788 (by decide) ?_
    exact hk319 s l6 l7 v1
  · exact KO.nil
noncomputable def fL_law_c746 (Ls : Nat) (xs : Nat → Int32) (kh83 : k_S × k_S → Int32 → Option (Int32 × (k_S × k_S))) (kh319 : k_S × k_S → Int32 → Int32 → Int32 → Option (Int32 × (k_S × k_S))) (s : k_S × k_S) (l6 l7 l9 l13 l14 t0 t1 : Int32) : Option (Int32 × (k_S × k_S)) := (if t0 = t1 then k_ob (fX6_borrowed s.1 (l9) ((nI 0))) fun r1 τ2 => k_bn (τ2, s.2) fun s3 => (if r1 = l13 then k_ob (fX6_borrowed s3.1 (l9) ((nI 1))) fun r4 τ5 => k_bn (τ5, s3.2) fun s6 => (if l13 < 0 then fL_law_c780 Ls xs kh83 kh319 s6 l6 l7 l9 r4 ((k_ng 9)) else fL_law_c780 Ls xs kh83 kh319 s6 l6 l7 l9 r4 l14) else none) else none)
set_option maxRecDepth 100000 in
set_option maxHeartbeats 4000000 in
theorem kL_law_c746 {X : k_C} {q : Nat → Nat} {b Ls kc ks : Nat} {xs : Nat → Int32} (hX : k_At X b Ls xs) (hk : kc ≤ 600000 ∧ ks ≤ 7302249) (hr : kc + 1 ≤ 600000 ∧ ks + 25 ≤ 7302249) (kh83 : k_S × k_S → Int32 → Option (Int32 × (k_S × k_S))) (hk83 : ∀ (q : Nat → Nat) (s : k_S × k_S) (l6 : Int32), KO X YL (cV 3 (k_I X) q) (kc + 1) (ks + 25) (k_QL X) 83 [some (.ref (b)), some (.ref (q 0)), some (.ref (q 30)), some (.ref (q 31)), some (.ref (q 32)), none, some (.int l6), none, none, none, none, none, none, none, none, none, none, none, none, none] [] s (kh83 s l6)) (kh319 : k_S × k_S → Int32 → Int32 → Int32 → Option (Int32 × (k_S × k_S))) (hk319 : ∀ (s : k_S × k_S) (l6 l7 l9 : Int32), KO X YL (cV 4 (k_I X) q) kc ks (k_QL X) 319 [some (.ref (b)), some (.ref (q 0)), some (.ref (q 30)), some (.ref (q 31)), some (.ref (q 32)), none, some (.int l6), some (.int l7), some (.ref (q 33)), some (.int l9), none, none, none, none, none, none, none, none, none, none] [] s (kh319 s l6 l7 l9)) (s : k_S × k_S) (l6 l7 l9 l13 l14 t0 t1 : Int32) : KO X YL (cV 4 (k_I X) q) kc ks (k_QL X) 746 [some (.ref (b)), some (.ref (q 0)), some (.ref (q 30)), some (.ref (q 31)), some (.ref (q 32)), none, some (.int l6), some (.int l7), some (.ref (q 33)), some (.int l9), none, none, none, some (.int l13), some (.int l14), none, none, none, none, none] [.int t1, .int t0] s (fL_law_c746 Ls xs kh83 kh319 s l6 l7 l9 l13 l14 t0 t1) := by
  unfold fL_law_c746
  refine k_icmp_ne (pc := 746) 783 dL_law_746 (by decide) ?_ ?_
  · exact KO.nil
  · refine k_aload_n (pc := 749) dL_law_749 rfl ?_
    refine k_iload (pc := 750) dL_law_750 rfl ?_
    refine k_iconst (pc := 752) (v := (nI 0)) dL_law_752 (by decide) ?_
    refine k_LTi2 (pc := 753) ckX6_borrowed rfl kwm_L_74 ⟨rfl, rfl⟩ ⟨Nat.le_of_ble_eq_true rfl, Nat.le_of_ble_eq_true rfl⟩ hk (Nat.le_of_ble_eq_true rfl) dL_law_753 (fun _ _ hf => kX6_borrowed hf) (fun r1 s3 => ?_)
    refine k_iload (pc := 756) dL_law_756 rfl ?_
    refine k_icmp_ne (pc := 758) 783 dL_law_758 (by decide) ?_ ?_
    · exact KO.nil
    · refine k_aload_n (pc := 761) dL_law_761 rfl ?_
      refine k_iload (pc := 762) dL_law_762 rfl ?_
      refine k_iconst (pc := 764) (v := (nI 1)) dL_law_764 (by decide) ?_
      refine k_LTi2 (pc := 765) ckX6_borrowed rfl kwm_L_74 ⟨rfl, rfl⟩ ⟨Nat.le_of_ble_eq_true rfl, Nat.le_of_ble_eq_true rfl⟩ hk (Nat.le_of_ble_eq_true rfl) dL_law_765 (fun _ _ hf => kX6_borrowed hf) (fun r4 s6 => ?_)
      refine k_iload (pc := 768) dL_law_768 rfl ?_
      refine k_if_ge (pc := 770) 778 dL_law_770 (by decide) ?_ ?_
      · refine k_iload (pc := 778) dL_law_778 rfl ?_
        refine k_fg13 ?_
        refine k_fg14 ?_
        exact kL_law_c780 hX hk hr kh83 hk83 kh319 hk319 s6 l6 l7 l9 r4 l14
      · refine k_bipush (pc := 773) (v := (k_ng 9)) dL_law_773 (by decide) ?_
        refine k_goto (pc := 775) 780 dL_law_775 (by decide) ?_
        refine k_fg13 ?_
        refine k_fg14 ?_
        exact kL_law_c780 hX hk hr kh83 hk83 kh319 hk319 s6 l6 l7 l9 r4 ((k_ng 9))
noncomputable def fL_law_c715 (Ls : Nat) (xs : Nat → Int32) (kh83 : k_S × k_S → Int32 → Option (Int32 × (k_S × k_S))) (kh319 : k_S × k_S → Int32 → Int32 → Int32 → Option (Int32 × (k_S × k_S))) (s : k_S × k_S) (l6 l7 l9 l11 l12 l13 l14 : Int32) : Option (Int32 × (k_S × k_S)) := k_ob (fX6_answer s.1 (l9) ((nI 0))) fun r1 τ2 => k_bn (τ2, s.2) fun s3 => (if r1 = l11 then k_ob (fX6_answer s3.1 (l9) ((nI 1))) fun r4 τ5 => k_bn (τ5, s3.2) fun s6 => (if l11 < 0 then fL_law_c746 Ls xs kh83 kh319 s6 l6 l7 l9 l13 l14 r4 ((k_ng 9)) else fL_law_c746 Ls xs kh83 kh319 s6 l6 l7 l9 l13 l14 r4 l12) else none)
set_option maxRecDepth 100000 in
set_option maxHeartbeats 4000000 in
theorem kL_law_c715 {X : k_C} {q : Nat → Nat} {b Ls kc ks : Nat} {xs : Nat → Int32} (hX : k_At X b Ls xs) (hk : kc ≤ 600000 ∧ ks ≤ 7302249) (hr : kc + 1 ≤ 600000 ∧ ks + 25 ≤ 7302249) (kh83 : k_S × k_S → Int32 → Option (Int32 × (k_S × k_S))) (hk83 : ∀ (q : Nat → Nat) (s : k_S × k_S) (l6 : Int32), KO X YL (cV 3 (k_I X) q) (kc + 1) (ks + 25) (k_QL X) 83 [some (.ref (b)), some (.ref (q 0)), some (.ref (q 30)), some (.ref (q 31)), some (.ref (q 32)), none, some (.int l6), none, none, none, none, none, none, none, none, none, none, none, none, none] [] s (kh83 s l6)) (kh319 : k_S × k_S → Int32 → Int32 → Int32 → Option (Int32 × (k_S × k_S))) (hk319 : ∀ (s : k_S × k_S) (l6 l7 l9 : Int32), KO X YL (cV 4 (k_I X) q) kc ks (k_QL X) 319 [some (.ref (b)), some (.ref (q 0)), some (.ref (q 30)), some (.ref (q 31)), some (.ref (q 32)), none, some (.int l6), some (.int l7), some (.ref (q 33)), some (.int l9), none, none, none, none, none, none, none, none, none, none] [] s (kh319 s l6 l7 l9)) (s : k_S × k_S) (l6 l7 l9 l11 l12 l13 l14 : Int32) : KO X YL (cV 4 (k_I X) q) kc ks (k_QL X) 715 [some (.ref (b)), some (.ref (q 0)), some (.ref (q 30)), some (.ref (q 31)), some (.ref (q 32)), none, some (.int l6), some (.int l7), some (.ref (q 33)), some (.int l9), none, some (.int l11), some (.int l12), some (.int l13), some (.int l14), none, none, none, none, none] [] s (fL_law_c715 Ls xs kh83 kh319 s l6 l7 l9 l11 l12 l13 l14) := by
  unfold fL_law_c715
  refine k_aload_n (pc := 715) dL_law_715 rfl ?_
  refine k_iload (pc := 716) dL_law_716 rfl ?_
  refine k_iconst (pc := 718) (v := (nI 0)) dL_law_718 (by decide) ?_
  refine k_LTi2 (pc := 719) ckX6_answer rfl kwm_L_71 ⟨rfl, rfl⟩ ⟨Nat.le_of_ble_eq_true rfl, Nat.le_of_ble_eq_true rfl⟩ hk (Nat.le_of_ble_eq_true rfl) dL_law_719 (fun _ _ hf => kX6_answer hf) (fun r1 s3 => ?_)
  refine k_iload (pc := 722) dL_law_722 rfl ?_
  refine k_icmp_ne (pc := 724) 783 dL_law_724 (by decide) ?_ ?_
  · exact KO.nil
  · refine k_aload_n (pc := 727) dL_law_727 rfl ?_
    refine k_iload (pc := 728) dL_law_728 rfl ?_
    refine k_iconst (pc := 730) (v := (nI 1)) dL_law_730 (by decide) ?_
    refine k_LTi2 (pc := 731) ckX6_answer rfl kwm_L_71 ⟨rfl, rfl⟩ ⟨Nat.le_of_ble_eq_true rfl, Nat.le_of_ble_eq_true rfl⟩ hk (Nat.le_of_ble_eq_true rfl) dL_law_731 (fun _ _ hf => kX6_answer hf) (fun r4 s6 => ?_)
    refine k_iload (pc := 734) dL_law_734 rfl ?_
    refine k_if_ge (pc := 736) 744 dL_law_736 (by decide) ?_ ?_
    · refine k_iload (pc := 744) dL_law_744 rfl ?_
      refine k_fg11 ?_
      refine k_fg12 ?_
      exact kL_law_c746 hX hk hr kh83 hk83 kh319 hk319 s6 l6 l7 l9 l13 l14 r4 l12
    · refine k_bipush (pc := 739) (v := (k_ng 9)) dL_law_739 (by decide) ?_
      refine k_goto (pc := 741) 746 dL_law_741 (by decide) ?_
      refine k_fg11 ?_
      refine k_fg12 ?_
      exact kL_law_c746 hX hk hr kh83 hk83 kh319 hk319 s6 l6 l7 l9 l13 l14 r4 ((k_ng 9))
noncomputable def fL_law_c508 (Ls : Nat) (xs : Nat → Int32) (kh83 : k_S × k_S → Int32 → Option (Int32 × (k_S × k_S))) (kh319 : k_S × k_S → Int32 → Int32 → Int32 → Option (Int32 × (k_S × k_S))) : Nat → k_S × k_S → Int32 → Int32 → Int32 → Int32 → Int32 → Int32 → Int32 → Int32 → Option (Int32 × (k_S × k_S))
  | 0, _, _, _, _, _, _, _, _, _ => none
  | n + 1, s, l6, l7, l9, l11, l12, l13, l14, l15 => k_gd ((nI 1)) 34 ((if l15 < s.2.2 0 (Int32.toNatClampNeg ((nI 1))) then k_oq (fL_may (s.2.2 0) (s.2.2 1) (l15)) fun r1 => (if r1 = 0 then fL_law_c709 Ls xs kh83 kh319 (fL_law_c508 Ls xs kh83 kh319 n) s l6 l7 l9 l11 l12 l13 l14 l15 else k_gd (l9) 5 (k_bn (k_sV s 3 (l9) (l15)) fun s2 => k_gd ((nI 33)) 34 (k_oq (fL_place (s2.2.2 0) (s2.2.2 1) (s2.2.2 3) (s2.2.2 0 (Int32.toNatClampNeg ((nI 33)))) ((nI 0)) (l9)) fun r3 => k_bn (r3) fun v4 => k_gd ((nI 33)) 34 (k_oq (fL_tall (s2.2.2 0) (s2.2.2 1) (s2.2.2 0 (Int32.toNatClampNeg ((nI 33)))) (l15)) fun r5 => k_bn (r5) fun v6 => k_gd (((nI 12) + l15)) 34 ((if s2.2.2 0 (Int32.toNatClampNeg (((nI 12) + l15))) = l9 then (if l12 < v4 then fL_law_c709 Ls xs kh83 kh319 (fL_law_c508 Ls xs kh83 kh319 n) s2 l6 l7 l9 l11 l12 l13 l14 l15 else (if v4 = l12 then k_gd ((nI 33)) 34 (k_oq (fL_tall (s2.2.2 0) (s2.2.2 1) (s2.2.2 0 (Int32.toNatClampNeg ((nI 33)))) (l11)) fun r9 => (if v6 < r9 then fL_law_c610 Ls xs kh83 kh319 (fL_law_c508 Ls xs kh83 kh319 n) s2 l6 l7 l9 l13 l14 l15 v4 else fL_law_c709 Ls xs kh83 kh319 (fL_law_c508 Ls xs kh83 kh319 n) s2 l6 l7 l9 l11 l12 l13 l14 l15)) else fL_law_c610 Ls xs kh83 kh319 (fL_law_c508 Ls xs kh83 kh319 n) s2 l6 l7 l9 l13 l14 l15 v4)) else k_bn ((nI 0)) fun v7 => k_bn ((nI 0)) fun v8 => fL_law_c627 Ls xs kh83 kh319 (fL_law_c508 Ls xs kh83 kh319 n) k_F s2 l6 l7 l9 l11 l12 l13 l14 l15 v4 v6 v7 v8)))))) else fL_law_c715 Ls xs kh83 kh319 s l6 l7 l9 l11 l12 l13 l14))
theorem fL_law_c508_s (Ls : Nat) (xs : Nat → Int32) (kh83 : k_S × k_S → Int32 → Option (Int32 × (k_S × k_S))) (kh319 : k_S × k_S → Int32 → Int32 → Int32 → Option (Int32 × (k_S × k_S))) (n : Nat) (s : k_S × k_S) (l6 l7 l9 l11 l12 l13 l14 l15 : Int32) : fL_law_c508 Ls xs kh83 kh319 (n + 1) s l6 l7 l9 l11 l12 l13 l14 l15 = k_gd ((nI 1)) 34 ((if l15 < s.2.2 0 (Int32.toNatClampNeg ((nI 1))) then k_oq (fL_may (s.2.2 0) (s.2.2 1) (l15)) fun r1 => (if r1 = 0 then fL_law_c709 Ls xs kh83 kh319 (fL_law_c508 Ls xs kh83 kh319 n) s l6 l7 l9 l11 l12 l13 l14 l15 else k_gd (l9) 5 (k_bn (k_sV s 3 (l9) (l15)) fun s2 => k_gd ((nI 33)) 34 (k_oq (fL_place (s2.2.2 0) (s2.2.2 1) (s2.2.2 3) (s2.2.2 0 (Int32.toNatClampNeg ((nI 33)))) ((nI 0)) (l9)) fun r3 => k_bn (r3) fun v4 => k_gd ((nI 33)) 34 (k_oq (fL_tall (s2.2.2 0) (s2.2.2 1) (s2.2.2 0 (Int32.toNatClampNeg ((nI 33)))) (l15)) fun r5 => k_bn (r5) fun v6 => k_gd (((nI 12) + l15)) 34 ((if s2.2.2 0 (Int32.toNatClampNeg (((nI 12) + l15))) = l9 then (if l12 < v4 then fL_law_c709 Ls xs kh83 kh319 (fL_law_c508 Ls xs kh83 kh319 n) s2 l6 l7 l9 l11 l12 l13 l14 l15 else (if v4 = l12 then k_gd ((nI 33)) 34 (k_oq (fL_tall (s2.2.2 0) (s2.2.2 1) (s2.2.2 0 (Int32.toNatClampNeg ((nI 33)))) (l11)) fun r9 => (if v6 < r9 then fL_law_c610 Ls xs kh83 kh319 (fL_law_c508 Ls xs kh83 kh319 n) s2 l6 l7 l9 l13 l14 l15 v4 else fL_law_c709 Ls xs kh83 kh319 (fL_law_c508 Ls xs kh83 kh319 n) s2 l6 l7 l9 l11 l12 l13 l14 l15)) else fL_law_c610 Ls xs kh83 kh319 (fL_law_c508 Ls xs kh83 kh319 n) s2 l6 l7 l9 l13 l14 l15 v4)) else k_bn ((nI 0)) fun v7 => k_bn ((nI 0)) fun v8 => fL_law_c627 Ls xs kh83 kh319 (fL_law_c508 Ls xs kh83 kh319 n) k_F s2 l6 l7 l9 l11 l12 l13 l14 l15 v4 v6 v7 v8)))))) else fL_law_c715 Ls xs kh83 kh319 s l6 l7 l9 l11 l12 l13 l14)) := rfl
set_option maxRecDepth 100000 in
set_option maxHeartbeats 4000000 in
theorem kL_law_c508 {X : k_C} {q : Nat → Nat} {b Ls kc ks : Nat} {xs : Nat → Int32} (hX : k_At X b Ls xs) (hk : kc ≤ 600000 ∧ ks ≤ 7302249) (hr : kc + 1 ≤ 600000 ∧ ks + 25 ≤ 7302249) (kh83 : k_S × k_S → Int32 → Option (Int32 × (k_S × k_S))) (hk83 : ∀ (q : Nat → Nat) (s : k_S × k_S) (l6 : Int32), KO X YL (cV 3 (k_I X) q) (kc + 1) (ks + 25) (k_QL X) 83 [some (.ref (b)), some (.ref (q 0)), some (.ref (q 30)), some (.ref (q 31)), some (.ref (q 32)), none, some (.int l6), none, none, none, none, none, none, none, none, none, none, none, none, none] [] s (kh83 s l6)) (kh319 : k_S × k_S → Int32 → Int32 → Int32 → Option (Int32 × (k_S × k_S))) (hk319 : ∀ (s : k_S × k_S) (l6 l7 l9 : Int32), KO X YL (cV 4 (k_I X) q) kc ks (k_QL X) 319 [some (.ref (b)), some (.ref (q 0)), some (.ref (q 30)), some (.ref (q 31)), some (.ref (q 32)), none, some (.int l6), some (.int l7), some (.ref (q 33)), some (.int l9), none, none, none, none, none, none, none, none, none, none] [] s (kh319 s l6 l7 l9)) : ∀ (n : Nat) (s : k_S × k_S) (l6 l7 l9 l11 l12 l13 l14 l15 : Int32), KO X YL (cV 4 (k_I X) q) kc ks (k_QL X) 508 [some (.ref (b)), some (.ref (q 0)), some (.ref (q 30)), some (.ref (q 31)), some (.ref (q 32)), none, some (.int l6), some (.int l7), some (.ref (q 33)), some (.int l9), none, some (.int l11), some (.int l12), some (.int l13), some (.int l14), some (.int l15), none, none, none, none] [] s (fL_law_c508 Ls xs kh83 kh319 n s l6 l7 l9 l11 l12 l13 l14 l15) := by
  intro n
  induction n with
  | zero => intros; exact KO.nil
  | succ n ih =>
    intro s l6 l7 l9 l11 l12 l13 l14 l15
    rw [fL_law_c508_s]
    refine k_iload (pc := 508) dL_law_508 rfl ?_
    refine k_aload_n (pc := 510) dL_law_510 rfl ?_
    refine k_iconst (pc := 511) (v := (nI 1)) dL_law_511 (by decide) ?_
    refine k_lV4_0 (pc := 512) dL_law_512 ?_
    refine k_icmp_ge (pc := 513) 715 dL_law_513 (by decide) ?_ ?_
    · refine k_fg15 ?_
      exact kL_law_c715 hX hk hr kh83 hk83 kh319 hk319 s l6 l7 l9 l11 l12 l13 l14
    · refine k_aload_n (pc := 516) dL_law_516 rfl ?_
      refine k_aload_n (pc := 517) dL_law_517 rfl ?_
      refine k_iload (pc := 518) dL_law_518 rfl ?_
      refine k_cq (pc := 520) (n := 3) (W0 := cR (k_I X) (fun k => q (30 + k)) (s.2.2 0) (s.2.2 1) (s.2.2 2)) (As := [.ref (q 30), .ref (q 31), .int (l15)]) [30, 31, 32] (by decide) rfl ckL_may kwm_L_39 rfl ⟨rfl, rfl⟩ ⟨Nat.le_of_ble_eq_true rfl, Nat.le_of_ble_eq_true rfl⟩ hk (Nat.le_of_ble_eq_true rfl) dL_law_520 rfl (fun _ _ hf => kL_may (q := (fun k => q (30 + k))) (g := (s.2.2 0)) (b := (s.2.2 1)) (r := (s.2.2 2)) hf) (fun r1 => ?_)
      refine k_if_ne (pc := 523) 529 dL_law_523 (by decide) ?_ ?_
      · refine k_aload (pc := 529) dL_law_529 rfl ?_
        refine k_iload (pc := 531) dL_law_531 rfl ?_
        refine k_iload (pc := 533) dL_law_533 rfl ?_
        refine k_sV4_3 (pc := 535) dL_law_535 (fun s2 => ?_)
        refine k_aload_n (pc := 536) dL_law_536 rfl ?_
        refine k_aload_n (pc := 537) dL_law_537 rfl ?_
        refine k_aload_n (pc := 538) dL_law_538 rfl ?_
        refine k_bipush (pc := 539) (v := (nI 33)) dL_law_539 (by decide) ?_
        refine k_lV4_0 (pc := 541) dL_law_541 ?_
        refine k_aload (pc := 542) dL_law_542 rfl ?_
        refine k_iconst (pc := 544) (v := (nI 0)) dL_law_544 (by decide) ?_
        refine k_iload (pc := 545) dL_law_545 rfl ?_
        refine k_cq (pc := 547) (n := 6) (W0 := cR (k_I X) (fun k => if k = 2 then q 33 else q (30 + k)) (s2.2.2 0) (s2.2.2 1) (s2.2.2 3)) (As := [.ref (q 30), .ref (q 31), .int (s2.2.2 0 (Int32.toNatClampNeg ((nI 33)))), .ref (q 33), .int ((nI 0)), .int (l9)]) [30, 31, 33] (by decide) rfl ckL_place kwm_L_67 rfl ⟨rfl, rfl⟩ ⟨Nat.le_of_ble_eq_true rfl, Nat.le_of_ble_eq_true rfl⟩ hk (Nat.le_of_ble_eq_true rfl) dL_law_547 rfl (fun _ _ hf => kL_place (q := (fun k => if k = 2 then q 33 else q (30 + k))) (g := (s2.2.2 0)) (b := (s2.2.2 1)) (r := (s2.2.2 3)) hf) (fun r3 => ?_)
        refine k_ist16 (pc := 550) dL_law_550 (Nat.le_of_ble_eq_true rfl) (fun v4 => ?_)
        refine k_aload_n (pc := 552) dL_law_552 rfl ?_
        refine k_aload_n (pc := 553) dL_law_553 rfl ?_
        refine k_aload_n (pc := 554) dL_law_554 rfl ?_
        refine k_bipush (pc := 555) (v := (nI 33)) dL_law_555 (by decide) ?_
        refine k_lV4_0 (pc := 557) dL_law_557 ?_
        refine k_iload (pc := 558) dL_law_558 rfl ?_
        refine k_cq (pc := 560) (n := 4) (W0 := cR (k_I X) (fun k => q (30 + k)) (s2.2.2 0) (s2.2.2 1) (s2.2.2 2)) (As := [.ref (q 30), .ref (q 31), .int (s2.2.2 0 (Int32.toNatClampNeg ((nI 33)))), .int (l15)]) [30, 31, 32] (by decide) rfl ckL_tall kwm_L_35 rfl ⟨rfl, rfl⟩ ⟨Nat.le_of_ble_eq_true rfl, Nat.le_of_ble_eq_true rfl⟩ hk (Nat.le_of_ble_eq_true rfl) dL_law_560 rfl (fun _ _ hf => kL_tall (q := (fun k => q (30 + k))) (g := (s2.2.2 0)) (b := (s2.2.2 1)) (r := (s2.2.2 2)) hf) (fun r5 => ?_)
        refine k_ist17 (pc := 563) dL_law_563 (Nat.le_of_ble_eq_true rfl) (fun v6 => ?_)
        refine k_aload_n (pc := 565) dL_law_565 rfl ?_
        refine k_bipush (pc := 566) (v := (nI 12)) dL_law_566 (by decide) ?_
        refine k_iload (pc := 568) dL_law_568 rfl ?_
        refine k_iadd (pc := 570) dL_law_570 ?_
        refine k_lV4_0 (pc := 571) dL_law_571 ?_
        refine k_iload (pc := 572) dL_law_572 rfl ?_
        refine k_icmp_ne (pc := 574) 621 dL_law_574 (by decide) ?_ ?_
        · refine k_iconst (pc := 621) (v := (nI 0)) dL_law_621 (by decide) ?_
          refine k_ist18 (pc := 622) dL_law_622 (Nat.le_of_ble_eq_true rfl) (fun v7 => ?_)
          refine k_iconst (pc := 624) (v := (nI 0)) dL_law_624 (by decide) ?_
          refine k_ist19 (pc := 625) dL_law_625 (Nat.le_of_ble_eq_true rfl) (fun v8 => ?_)
          exact kL_law_c627 hX hk hr kh83 hk83 kh319 hk319 (fL_law_c508 Ls xs kh83 kh319 n) ih k_F s2 l6 l7 l9 l11 l12 l13 l14 l15 v4 v6 v7 v8
        · refine k_iload (pc := 577) dL_law_577 rfl ?_
          refine k_iload (pc := 579) dL_law_579 rfl ?_
          refine k_icmp_gt (pc := 581) 709 dL_law_581 (by decide) ?_ ?_
          · refine k_fg16 ?_
            refine k_fg17 ?_
            exact kL_law_c709 hX hk hr kh83 hk83 kh319 hk319 (fL_law_c508 Ls xs kh83 kh319 n) ih s2 l6 l7 l9 l11 l12 l13 l14 l15
          · refine k_iload (pc := 584) dL_law_584 rfl ?_
            refine k_iload (pc := 586) dL_law_586 rfl ?_
            refine k_icmp_ne (pc := 588) 610 dL_law_588 (by decide) ?_ ?_
            · refine k_fg11 ?_
              refine k_fg12 ?_
              refine k_fg17 ?_
              exact kL_law_c610 hX hk hr kh83 hk83 kh319 hk319 (fL_law_c508 Ls xs kh83 kh319 n) ih s2 l6 l7 l9 l13 l14 l15 v4
            · refine k_iload (pc := 591) dL_law_591 rfl ?_
              refine k_aload_n (pc := 593) dL_law_593 rfl ?_
              refine k_aload_n (pc := 594) dL_law_594 rfl ?_
              refine k_aload_n (pc := 595) dL_law_595 rfl ?_
              refine k_bipush (pc := 596) (v := (nI 33)) dL_law_596 (by decide) ?_
              refine k_lV4_0 (pc := 598) dL_law_598 ?_
              refine k_iload (pc := 599) dL_law_599 rfl ?_
              refine k_cq (pc := 601) (n := 4) (W0 := cR (k_I X) (fun k => q (30 + k)) (s2.2.2 0) (s2.2.2 1) (s2.2.2 2)) (As := [.ref (q 30), .ref (q 31), .int (s2.2.2 0 (Int32.toNatClampNeg ((nI 33)))), .int (l11)]) [30, 31, 32] (by decide) rfl ckL_tall kwm_L_35 rfl ⟨rfl, rfl⟩ ⟨Nat.le_of_ble_eq_true rfl, Nat.le_of_ble_eq_true rfl⟩ hk (Nat.le_of_ble_eq_true rfl) dL_law_601 rfl (fun _ _ hf => kL_tall (q := (fun k => q (30 + k))) (g := (s2.2.2 0)) (b := (s2.2.2 1)) (r := (s2.2.2 2)) hf) (fun r9 => ?_)
              refine k_icmp_lt (pc := 604) 610 dL_law_604 (by decide) ?_ ?_
              · refine k_fg11 ?_
                refine k_fg12 ?_
                refine k_fg17 ?_
                exact kL_law_c610 hX hk hr kh83 hk83 kh319 hk319 (fL_law_c508 Ls xs kh83 kh319 n) ih s2 l6 l7 l9 l13 l14 l15 v4
              · refine k_goto (pc := 607) 709 dL_law_607 (by decide) ?_
                refine k_fg16 ?_
                refine k_fg17 ?_
                exact kL_law_c709 hX hk hr kh83 hk83 kh319 hk319 (fL_law_c508 Ls xs kh83 kh319 n) ih s2 l6 l7 l9 l11 l12 l13 l14 l15
      · refine k_goto (pc := 526) 709 dL_law_526 (by decide) ?_
        exact kL_law_c709 hX hk hr kh83 hk83 kh319 hk319 (fL_law_c508 Ls xs kh83 kh319 n) ih s l6 l7 l9 l11 l12 l13 l14 l15
noncomputable def fL_law_c489 (Ls : Nat) (xs : Nat → Int32) (kh83 : k_S × k_S → Int32 → Option (Int32 × (k_S × k_S))) (kh319 : k_S × k_S → Int32 → Int32 → Int32 → Option (Int32 × (k_S × k_S))) (s : k_S × k_S) (l6 l7 l9 : Int32) : Option (Int32 × (k_S × k_S)) := k_bn ((k_ng 9)) fun v1 => k_bn ((nI 9)) fun v2 => k_bn ((k_ng 9)) fun v3 => k_bn ((nI 9)) fun v4 => k_bn ((nI 0)) fun v5 => fL_law_c508 Ls xs kh83 kh319 k_F s l6 l7 l9 v1 v2 v3 v4 v5
set_option maxRecDepth 100000 in
set_option maxHeartbeats 4000000 in
theorem kL_law_c489 {X : k_C} {q : Nat → Nat} {b Ls kc ks : Nat} {xs : Nat → Int32} (hX : k_At X b Ls xs) (hk : kc ≤ 600000 ∧ ks ≤ 7302249) (hr : kc + 1 ≤ 600000 ∧ ks + 25 ≤ 7302249) (kh83 : k_S × k_S → Int32 → Option (Int32 × (k_S × k_S))) (hk83 : ∀ (q : Nat → Nat) (s : k_S × k_S) (l6 : Int32), KO X YL (cV 3 (k_I X) q) (kc + 1) (ks + 25) (k_QL X) 83 [some (.ref (b)), some (.ref (q 0)), some (.ref (q 30)), some (.ref (q 31)), some (.ref (q 32)), none, some (.int l6), none, none, none, none, none, none, none, none, none, none, none, none, none] [] s (kh83 s l6)) (kh319 : k_S × k_S → Int32 → Int32 → Int32 → Option (Int32 × (k_S × k_S))) (hk319 : ∀ (s : k_S × k_S) (l6 l7 l9 : Int32), KO X YL (cV 4 (k_I X) q) kc ks (k_QL X) 319 [some (.ref (b)), some (.ref (q 0)), some (.ref (q 30)), some (.ref (q 31)), some (.ref (q 32)), none, some (.int l6), some (.int l7), some (.ref (q 33)), some (.int l9), none, none, none, none, none, none, none, none, none, none] [] s (kh319 s l6 l7 l9)) (s : k_S × k_S) (l6 l7 l9 : Int32) : KO X YL (cV 4 (k_I X) q) kc ks (k_QL X) 489 [some (.ref (b)), some (.ref (q 0)), some (.ref (q 30)), some (.ref (q 31)), some (.ref (q 32)), none, some (.int l6), some (.int l7), some (.ref (q 33)), some (.int l9), none, none, none, none, none, none, none, none, none, none] [] s (fL_law_c489 Ls xs kh83 kh319 s l6 l7 l9) := by
  unfold fL_law_c489
  refine k_bipush (pc := 489) (v := (k_ng 9)) dL_law_489 (by decide) ?_
  refine k_ist11 (pc := 491) dL_law_491 (Nat.le_of_ble_eq_true rfl) (fun v1 => ?_)
  refine k_bipush (pc := 493) (v := (nI 9)) dL_law_493 (by decide) ?_
  refine k_ist12 (pc := 495) dL_law_495 (Nat.le_of_ble_eq_true rfl) (fun v2 => ?_)
  refine k_bipush (pc := 497) (v := (k_ng 9)) dL_law_497 (by decide) ?_
  refine k_ist13 (pc := 499) dL_law_499 (Nat.le_of_ble_eq_true rfl) (fun v3 => ?_)
  refine k_bipush (pc := 501) (v := (nI 9)) dL_law_501 (by decide) ?_
  refine k_ist14 (pc := 503) dL_law_503 (Nat.le_of_ble_eq_true rfl) (fun v4 => ?_)
  refine k_iconst (pc := 505) (v := (nI 0)) dL_law_505 (by decide) ?_
  refine k_ist15 (pc := 506) dL_law_506 (Nat.le_of_ble_eq_true rfl) (fun v5 => ?_)
  exact kL_law_c508 hX hk hr kh83 hk83 kh319 hk319 k_F s l6 l7 l9 v1 v2 v3 v4 v5
noncomputable def fL_law_c436 (Ls : Nat) (xs : Nat → Int32) (kh83 : k_S × k_S → Int32 → Option (Int32 × (k_S × k_S))) (kh319 : k_S × k_S → Int32 → Int32 → Int32 → Option (Int32 × (k_S × k_S))) (s : k_S × k_S) (l6 l7 l9 l10 : Int32) : Option (Int32 × (k_S × k_S)) := k_ob (fX6_tonight s.1 (l9) ((nI 0))) fun r1 τ2 => k_bn (τ2, s.2) fun s3 => k_gd (l9) 5 ((if r1 = s3.2.2 2 (Int32.toNatClampNeg (l9)) then k_ob (fX6_tonight s3.1 (l9) ((nI 1))) fun r4 τ5 => k_bn (τ5, s3.2) fun s6 => k_gd ((nI 33)) 34 (k_oq (fL_place (s6.2.2 0) (s6.2.2 1) (s6.2.2 2) (s6.2.2 0 (Int32.toNatClampNeg ((nI 33)))) ((nI 0)) (l9)) fun r7 => (if r4 = r7 then k_ob (fX6_tonight s6.1 (l9) ((nI 2))) fun r8 τ9 => k_bn (τ9, s6.2) fun s10 => (if r8 = l10 then fL_law_c489 Ls xs kh83 kh319 s10 l6 l7 l9 else none) else none)) else none))
set_option maxRecDepth 100000 in
set_option maxHeartbeats 4000000 in
theorem kL_law_c436 {X : k_C} {q : Nat → Nat} {b Ls kc ks : Nat} {xs : Nat → Int32} (hX : k_At X b Ls xs) (hk : kc ≤ 600000 ∧ ks ≤ 7302249) (hr : kc + 1 ≤ 600000 ∧ ks + 25 ≤ 7302249) (kh83 : k_S × k_S → Int32 → Option (Int32 × (k_S × k_S))) (hk83 : ∀ (q : Nat → Nat) (s : k_S × k_S) (l6 : Int32), KO X YL (cV 3 (k_I X) q) (kc + 1) (ks + 25) (k_QL X) 83 [some (.ref (b)), some (.ref (q 0)), some (.ref (q 30)), some (.ref (q 31)), some (.ref (q 32)), none, some (.int l6), none, none, none, none, none, none, none, none, none, none, none, none, none] [] s (kh83 s l6)) (kh319 : k_S × k_S → Int32 → Int32 → Int32 → Option (Int32 × (k_S × k_S))) (hk319 : ∀ (s : k_S × k_S) (l6 l7 l9 : Int32), KO X YL (cV 4 (k_I X) q) kc ks (k_QL X) 319 [some (.ref (b)), some (.ref (q 0)), some (.ref (q 30)), some (.ref (q 31)), some (.ref (q 32)), none, some (.int l6), some (.int l7), some (.ref (q 33)), some (.int l9), none, none, none, none, none, none, none, none, none, none] [] s (kh319 s l6 l7 l9)) (s : k_S × k_S) (l6 l7 l9 l10 : Int32) : KO X YL (cV 4 (k_I X) q) kc ks (k_QL X) 436 [some (.ref (b)), some (.ref (q 0)), some (.ref (q 30)), some (.ref (q 31)), some (.ref (q 32)), none, some (.int l6), some (.int l7), some (.ref (q 33)), some (.int l9), some (.int l10), none, none, none, none, none, none, none, none, none] [] s (fL_law_c436 Ls xs kh83 kh319 s l6 l7 l9 l10) := by
  unfold fL_law_c436
  refine k_aload_n (pc := 436) dL_law_436 rfl ?_
  refine k_iload (pc := 437) dL_law_437 rfl ?_
  refine k_iconst (pc := 439) (v := (nI 0)) dL_law_439 (by decide) ?_
  refine k_LTi2 (pc := 440) ckX6_tonight rfl kwm_L_64 ⟨rfl, rfl⟩ ⟨Nat.le_of_ble_eq_true rfl, Nat.le_of_ble_eq_true rfl⟩ hk (Nat.le_of_ble_eq_true rfl) dL_law_440 (fun _ _ hf => kX6_tonight hf) (fun r1 s3 => ?_)
  refine k_aload (pc := 443) dL_law_443 rfl ?_
  refine k_iload (pc := 445) dL_law_445 rfl ?_
  refine k_lV4_2 (pc := 447) dL_law_447 ?_
  refine k_icmp_ne (pc := 448) 487 dL_law_448 (by decide) ?_ ?_
  · exact KO.nil
  · refine k_aload_n (pc := 451) dL_law_451 rfl ?_
    refine k_iload (pc := 452) dL_law_452 rfl ?_
    refine k_iconst (pc := 454) (v := (nI 1)) dL_law_454 (by decide) ?_
    refine k_LTi2 (pc := 455) ckX6_tonight rfl kwm_L_64 ⟨rfl, rfl⟩ ⟨Nat.le_of_ble_eq_true rfl, Nat.le_of_ble_eq_true rfl⟩ hk (Nat.le_of_ble_eq_true rfl) dL_law_455 (fun _ _ hf => kX6_tonight hf) (fun r4 s6 => ?_)
    refine k_aload_n (pc := 458) dL_law_458 rfl ?_
    refine k_aload_n (pc := 459) dL_law_459 rfl ?_
    refine k_aload_n (pc := 460) dL_law_460 rfl ?_
    refine k_bipush (pc := 461) (v := (nI 33)) dL_law_461 (by decide) ?_
    refine k_lV4_0 (pc := 463) dL_law_463 ?_
    refine k_aload (pc := 464) dL_law_464 rfl ?_
    refine k_iconst (pc := 466) (v := (nI 0)) dL_law_466 (by decide) ?_
    refine k_iload (pc := 467) dL_law_467 rfl ?_
    refine k_cq (pc := 469) (n := 6) (W0 := cR (k_I X) (fun k => q (30 + k)) (s6.2.2 0) (s6.2.2 1) (s6.2.2 2)) (As := [.ref (q 30), .ref (q 31), .int (s6.2.2 0 (Int32.toNatClampNeg ((nI 33)))), .ref (q 32), .int ((nI 0)), .int (l9)]) [30, 31, 32] (by decide) rfl ckL_place kwm_L_67 rfl ⟨rfl, rfl⟩ ⟨Nat.le_of_ble_eq_true rfl, Nat.le_of_ble_eq_true rfl⟩ hk (Nat.le_of_ble_eq_true rfl) dL_law_469 rfl (fun _ _ hf => kL_place (q := (fun k => q (30 + k))) (g := (s6.2.2 0)) (b := (s6.2.2 1)) (r := (s6.2.2 2)) hf) (fun r7 => ?_)
    refine k_icmp_ne (pc := 472) 487 dL_law_472 (by decide) ?_ ?_
    · exact KO.nil
    · refine k_aload_n (pc := 475) dL_law_475 rfl ?_
      refine k_iload (pc := 476) dL_law_476 rfl ?_
      refine k_iconst (pc := 478) (v := (nI 2)) dL_law_478 (by decide) ?_
      refine k_LTi2 (pc := 479) ckX6_tonight rfl kwm_L_64 ⟨rfl, rfl⟩ ⟨Nat.le_of_ble_eq_true rfl, Nat.le_of_ble_eq_true rfl⟩ hk (Nat.le_of_ble_eq_true rfl) dL_law_479 (fun _ _ hf => kX6_tonight hf) (fun r8 s10 => ?_)
      refine k_iload (pc := 482) dL_law_482 rfl ?_
      refine k_icmp_eq (pc := 484) 489 dL_law_484 (by decide) ?_ ?_
      · refine k_fg10 ?_
        exact kL_law_c489 hX hk hr kh83 hk83 kh319 hk319 s10 l6 l7 l9
      · exact KO.nil
noncomputable def fL_law_c358 (Ls : Nat) (xs : Nat → Int32) (kh83 : k_S × k_S → Int32 → Option (Int32 × (k_S × k_S))) (kh319 : k_S × k_S → Int32 → Int32 → Int32 → Option (Int32 × (k_S × k_S))) : Nat → k_S × k_S → Int32 → Int32 → Int32 → Int32 → Int32 → Option (Int32 × (k_S × k_S))
  | 0, _, _, _, _, _, _ => none
  | n + 1, s, l6, l7, l9, l10, l11 => k_gd ((nI 0)) 34 ((if l11 < s.2.2 0 (Int32.toNatClampNeg ((nI 0))) then (if l11 = l9 then fL_law_c381 Ls xs kh83 kh319 (fL_law_c358 Ls xs kh83 kh319 n) s l6 l7 l9 l10 l11 else k_gd (l11) 5 ((if s.2.2 2 (Int32.toNatClampNeg (l11)) < 0 then fL_law_c381 Ls xs kh83 kh319 (fL_law_c358 Ls xs kh83 kh319 n) s l6 l7 l9 l10 l11 else k_gd ((nI 33)) 34 (k_gd (l11) 5 (k_oq (fL_tall (s.2.2 0) (s.2.2 1) (s.2.2 0 (Int32.toNatClampNeg ((nI 33)))) (s.2.2 2 (Int32.toNatClampNeg (l11)))) fun r1 => (if l11 < l9 then fL_law_c411 Ls xs kh83 kh319 (fL_law_c358 Ls xs kh83 kh319 n) s l6 l7 l9 l10 l11 r1 ((nI 1)) else fL_law_c411 Ls xs kh83 kh319 (fL_law_c358 Ls xs kh83 kh319 n) s l6 l7 l9 l10 l11 r1 ((nI 0)))))))) else fL_law_c436 Ls xs kh83 kh319 s l6 l7 l9 l10))
theorem fL_law_c358_s (Ls : Nat) (xs : Nat → Int32) (kh83 : k_S × k_S → Int32 → Option (Int32 × (k_S × k_S))) (kh319 : k_S × k_S → Int32 → Int32 → Int32 → Option (Int32 × (k_S × k_S))) (n : Nat) (s : k_S × k_S) (l6 l7 l9 l10 l11 : Int32) : fL_law_c358 Ls xs kh83 kh319 (n + 1) s l6 l7 l9 l10 l11 = k_gd ((nI 0)) 34 ((if l11 < s.2.2 0 (Int32.toNatClampNeg ((nI 0))) then (if l11 = l9 then fL_law_c381 Ls xs kh83 kh319 (fL_law_c358 Ls xs kh83 kh319 n) s l6 l7 l9 l10 l11 else k_gd (l11) 5 ((if s.2.2 2 (Int32.toNatClampNeg (l11)) < 0 then fL_law_c381 Ls xs kh83 kh319 (fL_law_c358 Ls xs kh83 kh319 n) s l6 l7 l9 l10 l11 else k_gd ((nI 33)) 34 (k_gd (l11) 5 (k_oq (fL_tall (s.2.2 0) (s.2.2 1) (s.2.2 0 (Int32.toNatClampNeg ((nI 33)))) (s.2.2 2 (Int32.toNatClampNeg (l11)))) fun r1 => (if l11 < l9 then fL_law_c411 Ls xs kh83 kh319 (fL_law_c358 Ls xs kh83 kh319 n) s l6 l7 l9 l10 l11 r1 ((nI 1)) else fL_law_c411 Ls xs kh83 kh319 (fL_law_c358 Ls xs kh83 kh319 n) s l6 l7 l9 l10 l11 r1 ((nI 0)))))))) else fL_law_c436 Ls xs kh83 kh319 s l6 l7 l9 l10)) := rfl
set_option maxRecDepth 100000 in
set_option maxHeartbeats 4000000 in
theorem kL_law_c358 {X : k_C} {q : Nat → Nat} {b Ls kc ks : Nat} {xs : Nat → Int32} (hX : k_At X b Ls xs) (hk : kc ≤ 600000 ∧ ks ≤ 7302249) (hr : kc + 1 ≤ 600000 ∧ ks + 25 ≤ 7302249) (kh83 : k_S × k_S → Int32 → Option (Int32 × (k_S × k_S))) (hk83 : ∀ (q : Nat → Nat) (s : k_S × k_S) (l6 : Int32), KO X YL (cV 3 (k_I X) q) (kc + 1) (ks + 25) (k_QL X) 83 [some (.ref (b)), some (.ref (q 0)), some (.ref (q 30)), some (.ref (q 31)), some (.ref (q 32)), none, some (.int l6), none, none, none, none, none, none, none, none, none, none, none, none, none] [] s (kh83 s l6)) (kh319 : k_S × k_S → Int32 → Int32 → Int32 → Option (Int32 × (k_S × k_S))) (hk319 : ∀ (s : k_S × k_S) (l6 l7 l9 : Int32), KO X YL (cV 4 (k_I X) q) kc ks (k_QL X) 319 [some (.ref (b)), some (.ref (q 0)), some (.ref (q 30)), some (.ref (q 31)), some (.ref (q 32)), none, some (.int l6), some (.int l7), some (.ref (q 33)), some (.int l9), none, none, none, none, none, none, none, none, none, none] [] s (kh319 s l6 l7 l9)) : ∀ (n : Nat) (s : k_S × k_S) (l6 l7 l9 l10 l11 : Int32), KO X YL (cV 4 (k_I X) q) kc ks (k_QL X) 358 [some (.ref (b)), some (.ref (q 0)), some (.ref (q 30)), some (.ref (q 31)), some (.ref (q 32)), none, some (.int l6), some (.int l7), some (.ref (q 33)), some (.int l9), some (.int l10), some (.int l11), none, none, none, none, none, none, none, none] [] s (fL_law_c358 Ls xs kh83 kh319 n s l6 l7 l9 l10 l11) := by
  intro n
  induction n with
  | zero => intros; exact KO.nil
  | succ n ih =>
    intro s l6 l7 l9 l10 l11
    rw [fL_law_c358_s]
    refine k_iload (pc := 358) dL_law_358 rfl ?_
    refine k_aload_n (pc := 360) dL_law_360 rfl ?_
    refine k_iconst (pc := 361) (v := (nI 0)) dL_law_361 (by decide) ?_
    refine k_lV4_0 (pc := 362) dL_law_362 ?_
    refine k_icmp_ge (pc := 363) 436 dL_law_363 (by decide) ?_ ?_
    · refine k_fg11 ?_
      exact kL_law_c436 hX hk hr kh83 hk83 kh319 hk319 s l6 l7 l9 l10
    · refine k_iload (pc := 366) dL_law_366 rfl ?_
      refine k_iload (pc := 368) dL_law_368 rfl ?_
      refine k_icmp_eq (pc := 370) 381 dL_law_370 (by decide) ?_ ?_
      · exact kL_law_c381 hX hk hr kh83 hk83 kh319 hk319 (fL_law_c358 Ls xs kh83 kh319 n) ih s l6 l7 l9 l10 l11
      · refine k_aload (pc := 373) dL_law_373 rfl ?_
        refine k_iload (pc := 375) dL_law_375 rfl ?_
        refine k_lV4_2 (pc := 377) dL_law_377 ?_
        refine k_if_ge (pc := 378) 385 dL_law_378 (by decide) ?_ ?_
        · refine k_aload_n (pc := 385) dL_law_385 rfl ?_
          refine k_aload_n (pc := 386) dL_law_386 rfl ?_
          refine k_aload_n (pc := 387) dL_law_387 rfl ?_
          refine k_bipush (pc := 388) (v := (nI 33)) dL_law_388 (by decide) ?_
          refine k_lV4_0 (pc := 390) dL_law_390 ?_
          refine k_aload (pc := 391) dL_law_391 rfl ?_
          refine k_iload (pc := 393) dL_law_393 rfl ?_
          refine k_lV4_2 (pc := 395) dL_law_395 ?_
          refine k_cq (pc := 396) (n := 4) (W0 := cR (k_I X) (fun k => q (30 + k)) (s.2.2 0) (s.2.2 1) (s.2.2 2)) (As := [.ref (q 30), .ref (q 31), .int (s.2.2 0 (Int32.toNatClampNeg ((nI 33)))), .int (s.2.2 2 (Int32.toNatClampNeg (l11)))]) [30, 31, 32] (by decide) rfl ckL_tall kwm_L_35 rfl ⟨rfl, rfl⟩ ⟨Nat.le_of_ble_eq_true rfl, Nat.le_of_ble_eq_true rfl⟩ hk (Nat.le_of_ble_eq_true rfl) dL_law_396 rfl (fun _ _ hf => kL_tall (q := (fun k => q (30 + k))) (g := (s.2.2 0)) (b := (s.2.2 1)) (r := (s.2.2 2)) hf) (fun r1 => ?_)
          refine k_iload (pc := 399) dL_law_399 rfl ?_
          refine k_iload (pc := 401) dL_law_401 rfl ?_
          refine k_icmp_ge (pc := 403) 410 dL_law_403 (by decide) ?_ ?_
          · refine k_iconst (pc := 410) (v := (nI 0)) dL_law_410 (by decide) ?_
            exact kL_law_c411 hX hk hr kh83 hk83 kh319 hk319 (fL_law_c358 Ls xs kh83 kh319 n) ih s l6 l7 l9 l10 l11 r1 ((nI 0))
          · refine k_iconst (pc := 406) (v := (nI 1)) dL_law_406 (by decide) ?_
            refine k_goto (pc := 407) 411 dL_law_407 (by decide) ?_
            exact kL_law_c411 hX hk hr kh83 hk83 kh319 hk319 (fL_law_c358 Ls xs kh83 kh319 n) ih s l6 l7 l9 l10 l11 r1 ((nI 1))
        · exact kL_law_c381 hX hk hr kh83 hk83 kh319 hk319 (fL_law_c358 Ls xs kh83 kh319 n) ih s l6 l7 l9 l10 l11
noncomputable def fL_law_c352 (Ls : Nat) (xs : Nat → Int32) (kh83 : k_S × k_S → Int32 → Option (Int32 × (k_S × k_S))) (kh319 : k_S × k_S → Int32 → Int32 → Int32 → Option (Int32 × (k_S × k_S))) (s : k_S × k_S) (l6 l7 l9 : Int32) : Option (Int32 × (k_S × k_S)) := k_bn ((nI 1)) fun v1 => k_bn ((nI 0)) fun v2 => fL_law_c358 Ls xs kh83 kh319 k_F s l6 l7 l9 v1 v2
set_option maxRecDepth 100000 in
set_option maxHeartbeats 4000000 in
theorem kL_law_c352 {X : k_C} {q : Nat → Nat} {b Ls kc ks : Nat} {xs : Nat → Int32} (hX : k_At X b Ls xs) (hk : kc ≤ 600000 ∧ ks ≤ 7302249) (hr : kc + 1 ≤ 600000 ∧ ks + 25 ≤ 7302249) (kh83 : k_S × k_S → Int32 → Option (Int32 × (k_S × k_S))) (hk83 : ∀ (q : Nat → Nat) (s : k_S × k_S) (l6 : Int32), KO X YL (cV 3 (k_I X) q) (kc + 1) (ks + 25) (k_QL X) 83 [some (.ref (b)), some (.ref (q 0)), some (.ref (q 30)), some (.ref (q 31)), some (.ref (q 32)), none, some (.int l6), none, none, none, none, none, none, none, none, none, none, none, none, none] [] s (kh83 s l6)) (kh319 : k_S × k_S → Int32 → Int32 → Int32 → Option (Int32 × (k_S × k_S))) (hk319 : ∀ (s : k_S × k_S) (l6 l7 l9 : Int32), KO X YL (cV 4 (k_I X) q) kc ks (k_QL X) 319 [some (.ref (b)), some (.ref (q 0)), some (.ref (q 30)), some (.ref (q 31)), some (.ref (q 32)), none, some (.int l6), some (.int l7), some (.ref (q 33)), some (.int l9), none, none, none, none, none, none, none, none, none, none] [] s (kh319 s l6 l7 l9)) (s : k_S × k_S) (l6 l7 l9 : Int32) : KO X YL (cV 4 (k_I X) q) kc ks (k_QL X) 352 [some (.ref (b)), some (.ref (q 0)), some (.ref (q 30)), some (.ref (q 31)), some (.ref (q 32)), none, some (.int l6), some (.int l7), some (.ref (q 33)), some (.int l9), none, none, none, none, none, none, none, none, none, none] [] s (fL_law_c352 Ls xs kh83 kh319 s l6 l7 l9) := by
  unfold fL_law_c352
  refine k_iconst (pc := 352) (v := (nI 1)) dL_law_352 (by decide) ?_
  refine k_ist10 (pc := 353) dL_law_353 (Nat.le_of_ble_eq_true rfl) (fun v1 => ?_)
  refine k_iconst (pc := 355) (v := (nI 0)) dL_law_355 (by decide) ?_
  refine k_ist11 (pc := 356) dL_law_356 (Nat.le_of_ble_eq_true rfl) (fun v2 => ?_)
  exact kL_law_c358 hX hk hr kh83 hk83 kh319 hk319 k_F s l6 l7 l9 v1 v2
noncomputable def fL_law_c330 (Ls : Nat) (xs : Nat → Int32) (kh83 : k_S × k_S → Int32 → Option (Int32 × (k_S × k_S))) (kh319 : k_S × k_S → Int32 → Int32 → Int32 → Option (Int32 × (k_S × k_S))) : Nat → k_S × k_S → Int32 → Int32 → Int32 → Int32 → Option (Int32 × (k_S × k_S))
  | 0, _, _, _, _, _ => none
  | n + 1, s, l6, l7, l9, l10 => (if l10 < (nI 5) then k_gd (l10) 5 (k_gd (l10) 5 (k_bn (k_sV s 3 (l10) (s.2.2 2 (Int32.toNatClampNeg (l10)))) fun s1 => k_bn (l10 + (nI 1)) fun v2 => fL_law_c330 Ls xs kh83 kh319 n s1 l6 l7 l9 v2)) else fL_law_c352 Ls xs kh83 kh319 s l6 l7 l9)
theorem fL_law_c330_s (Ls : Nat) (xs : Nat → Int32) (kh83 : k_S × k_S → Int32 → Option (Int32 × (k_S × k_S))) (kh319 : k_S × k_S → Int32 → Int32 → Int32 → Option (Int32 × (k_S × k_S))) (n : Nat) (s : k_S × k_S) (l6 l7 l9 l10 : Int32) : fL_law_c330 Ls xs kh83 kh319 (n + 1) s l6 l7 l9 l10 = (if l10 < (nI 5) then k_gd (l10) 5 (k_gd (l10) 5 (k_bn (k_sV s 3 (l10) (s.2.2 2 (Int32.toNatClampNeg (l10)))) fun s1 => k_bn (l10 + (nI 1)) fun v2 => fL_law_c330 Ls xs kh83 kh319 n s1 l6 l7 l9 v2)) else fL_law_c352 Ls xs kh83 kh319 s l6 l7 l9) := rfl
set_option maxRecDepth 100000 in
set_option maxHeartbeats 4000000 in
theorem kL_law_c330 {X : k_C} {q : Nat → Nat} {b Ls kc ks : Nat} {xs : Nat → Int32} (hX : k_At X b Ls xs) (hk : kc ≤ 600000 ∧ ks ≤ 7302249) (hr : kc + 1 ≤ 600000 ∧ ks + 25 ≤ 7302249) (kh83 : k_S × k_S → Int32 → Option (Int32 × (k_S × k_S))) (hk83 : ∀ (q : Nat → Nat) (s : k_S × k_S) (l6 : Int32), KO X YL (cV 3 (k_I X) q) (kc + 1) (ks + 25) (k_QL X) 83 [some (.ref (b)), some (.ref (q 0)), some (.ref (q 30)), some (.ref (q 31)), some (.ref (q 32)), none, some (.int l6), none, none, none, none, none, none, none, none, none, none, none, none, none] [] s (kh83 s l6)) (kh319 : k_S × k_S → Int32 → Int32 → Int32 → Option (Int32 × (k_S × k_S))) (hk319 : ∀ (s : k_S × k_S) (l6 l7 l9 : Int32), KO X YL (cV 4 (k_I X) q) kc ks (k_QL X) 319 [some (.ref (b)), some (.ref (q 0)), some (.ref (q 30)), some (.ref (q 31)), some (.ref (q 32)), none, some (.int l6), some (.int l7), some (.ref (q 33)), some (.int l9), none, none, none, none, none, none, none, none, none, none] [] s (kh319 s l6 l7 l9)) : ∀ (n : Nat) (s : k_S × k_S) (l6 l7 l9 l10 : Int32), KO X YL (cV 4 (k_I X) q) kc ks (k_QL X) 330 [some (.ref (b)), some (.ref (q 0)), some (.ref (q 30)), some (.ref (q 31)), some (.ref (q 32)), none, some (.int l6), some (.int l7), some (.ref (q 33)), some (.int l9), some (.int l10), none, none, none, none, none, none, none, none, none] [] s (fL_law_c330 Ls xs kh83 kh319 n s l6 l7 l9 l10) := by
  intro n
  induction n with
  | zero => intros; exact KO.nil
  | succ n ih =>
    intro s l6 l7 l9 l10
    rw [fL_law_c330_s]
    refine k_iload (pc := 330) dL_law_330 rfl ?_
    refine k_iconst (pc := 332) (v := (nI 5)) dL_law_332 (by decide) ?_
    refine k_icmp_ge (pc := 333) 352 dL_law_333 (by decide) ?_ ?_
    · refine k_fg10 ?_
      exact kL_law_c352 hX hk hr kh83 hk83 kh319 hk319 s l6 l7 l9
    · refine k_aload (pc := 336) dL_law_336 rfl ?_
      refine k_iload (pc := 338) dL_law_338 rfl ?_
      refine k_aload (pc := 340) dL_law_340 rfl ?_
      refine k_iload (pc := 342) dL_law_342 rfl ?_
      refine k_lV4_2 (pc := 344) dL_law_344 ?_
      refine k_sV4_3 (pc := 345) dL_law_345 (fun s1 => ?_)
      refine k_iinc10 (pc := 346) (w := (nI 1)) dL_law_346 rfl (by decide) (Nat.le_of_ble_eq_true rfl) (fun v2 => ?_)
      refine k_goto (pc := 349) 330 dL_law_349 (by decide) ?_
      exact ih s1 l6 l7 l9 v2
noncomputable def fL_law_c869 (Ls : Nat) (xs : Nat → Int32) (kh83 : k_S × k_S → Int32 → Option (Int32 × (k_S × k_S))) (kh827 : k_S × k_S → Int32 → Int32 → Int32 → Int32 → Int32 → Option (Int32 × (k_S × k_S))) (s : k_S × k_S) (l6 l7 l9 l11 t0 t1 : Int32) : Option (Int32 × (k_S × k_S)) := k_bn ((t0 + t1)) fun v1 => k_bn (l11 + (nI 1)) fun v2 => kh827 s l6 l7 l9 v1 v2
set_option maxRecDepth 100000 in
set_option maxHeartbeats 4000000 in
theorem kL_law_c869 {X : k_C} {q : Nat → Nat} {b Ls kc ks : Nat} {xs : Nat → Int32} (hX : k_At X b Ls xs) (hk : kc ≤ 600000 ∧ ks ≤ 7302249) (hr : kc + 1 ≤ 600000 ∧ ks + 25 ≤ 7302249) (kh83 : k_S × k_S → Int32 → Option (Int32 × (k_S × k_S))) (hk83 : ∀ (q : Nat → Nat) (s : k_S × k_S) (l6 : Int32), KO X YL (cV 3 (k_I X) q) (kc + 1) (ks + 25) (k_QL X) 83 [some (.ref (b)), some (.ref (q 0)), some (.ref (q 30)), some (.ref (q 31)), some (.ref (q 32)), none, some (.int l6), none, none, none, none, none, none, none, none, none, none, none, none, none] [] s (kh83 s l6)) (kh827 : k_S × k_S → Int32 → Int32 → Int32 → Int32 → Int32 → Option (Int32 × (k_S × k_S))) (hk827 : ∀ (s : k_S × k_S) (l6 l7 l9 l10 l11 : Int32), KO X YL (cV 4 (k_I X) q) kc ks (k_QL X) 827 [some (.ref (b)), some (.ref (q 0)), some (.ref (q 30)), some (.ref (q 31)), some (.ref (q 32)), none, some (.int l6), some (.int l7), some (.ref (q 33)), some (.int l9), some (.int l10), some (.int l11), none, none, none, none, none, none, none, none] [] s (kh827 s l6 l7 l9 l10 l11)) (s : k_S × k_S) (l6 l7 l9 l11 t0 t1 : Int32) : KO X YL (cV 4 (k_I X) q) kc ks (k_QL X) 869 [some (.ref (b)), some (.ref (q 0)), some (.ref (q 30)), some (.ref (q 31)), some (.ref (q 32)), none, some (.int l6), some (.int l7), some (.ref (q 33)), some (.int l9), none, some (.int l11), none, none, none, none, none, none, none, none] [.int t1, .int t0] s (fL_law_c869 Ls xs kh83 kh827 s l6 l7 l9 l11 t0 t1) := by
  unfold fL_law_c869
  refine k_iadd (pc := 869) dL_law_869 ?_
  refine k_ist10 (pc := 870) dL_law_870 (Nat.le_of_ble_eq_true rfl) (fun v1 => ?_)
  refine k_iinc11 (pc := 872) (w := (nI 1)) dL_law_872 rfl (by decide) (Nat.le_of_ble_eq_true rfl) (fun v2 => ?_)
  refine k_goto (pc := 875) 827 dL_law_875 (by decide) ?_
  exact hk827 s l6 l7 l9 v1 v2
noncomputable def fL_law_c868 (Ls : Nat) (xs : Nat → Int32) (kh83 : k_S × k_S → Int32 → Option (Int32 × (k_S × k_S))) (kh827 : k_S × k_S → Int32 → Int32 → Int32 → Int32 → Int32 → Option (Int32 × (k_S × k_S))) (s : k_S × k_S) (l6 l7 l9 l11 t0 : Int32) : Option (Int32 × (k_S × k_S)) := fL_law_c869 Ls xs kh83 kh827 s l6 l7 l9 l11 t0 ((nI 0))
set_option maxRecDepth 100000 in
set_option maxHeartbeats 4000000 in
theorem kL_law_c868 {X : k_C} {q : Nat → Nat} {b Ls kc ks : Nat} {xs : Nat → Int32} (hX : k_At X b Ls xs) (hk : kc ≤ 600000 ∧ ks ≤ 7302249) (hr : kc + 1 ≤ 600000 ∧ ks + 25 ≤ 7302249) (kh83 : k_S × k_S → Int32 → Option (Int32 × (k_S × k_S))) (hk83 : ∀ (q : Nat → Nat) (s : k_S × k_S) (l6 : Int32), KO X YL (cV 3 (k_I X) q) (kc + 1) (ks + 25) (k_QL X) 83 [some (.ref (b)), some (.ref (q 0)), some (.ref (q 30)), some (.ref (q 31)), some (.ref (q 32)), none, some (.int l6), none, none, none, none, none, none, none, none, none, none, none, none, none] [] s (kh83 s l6)) (kh827 : k_S × k_S → Int32 → Int32 → Int32 → Int32 → Int32 → Option (Int32 × (k_S × k_S))) (hk827 : ∀ (s : k_S × k_S) (l6 l7 l9 l10 l11 : Int32), KO X YL (cV 4 (k_I X) q) kc ks (k_QL X) 827 [some (.ref (b)), some (.ref (q 0)), some (.ref (q 30)), some (.ref (q 31)), some (.ref (q 32)), none, some (.int l6), some (.int l7), some (.ref (q 33)), some (.int l9), some (.int l10), some (.int l11), none, none, none, none, none, none, none, none] [] s (kh827 s l6 l7 l9 l10 l11)) (s : k_S × k_S) (l6 l7 l9 l11 t0 : Int32) : KO X YL (cV 4 (k_I X) q) kc ks (k_QL X) 868 [some (.ref (b)), some (.ref (q 0)), some (.ref (q 30)), some (.ref (q 31)), some (.ref (q 32)), none, some (.int l6), some (.int l7), some (.ref (q 33)), some (.int l9), none, some (.int l11), none, none, none, none, none, none, none, none] [.int t0] s (fL_law_c868 Ls xs kh83 kh827 s l6 l7 l9 l11 t0) := by
  unfold fL_law_c868
  refine k_iconst (pc := 868) (v := (nI 0)) dL_law_868 (by decide) ?_
  exact kL_law_c869 hX hk hr kh83 hk83 kh827 hk827 s l6 l7 l9 l11 t0 ((nI 0))
noncomputable def fL_law_c926 (Ls : Nat) (xs : Nat → Int32) (kh83 : k_S × k_S → Int32 → Option (Int32 × (k_S × k_S))) (kh897 : k_S × k_S → Int32 → Int32 → Int32 → Int32 → Option (Int32 × (k_S × k_S))) (s : k_S × k_S) (l6 l7 l11 l12 : Int32) : Option (Int32 × (k_S × k_S)) := k_bn (l12 + (nI 1)) fun v1 => kh897 s l6 l7 l11 v1
set_option maxRecDepth 100000 in
set_option maxHeartbeats 4000000 in
theorem kL_law_c926 {X : k_C} {q : Nat → Nat} {b Ls kc ks : Nat} {xs : Nat → Int32} (hX : k_At X b Ls xs) (hk : kc ≤ 600000 ∧ ks ≤ 7302249) (hr : kc + 1 ≤ 600000 ∧ ks + 25 ≤ 7302249) (kh83 : k_S × k_S → Int32 → Option (Int32 × (k_S × k_S))) (hk83 : ∀ (q : Nat → Nat) (s : k_S × k_S) (l6 : Int32), KO X YL (cV 3 (k_I X) q) (kc + 1) (ks + 25) (k_QL X) 83 [some (.ref (b)), some (.ref (q 0)), some (.ref (q 30)), some (.ref (q 31)), some (.ref (q 32)), none, some (.int l6), none, none, none, none, none, none, none, none, none, none, none, none, none] [] s (kh83 s l6)) (kh897 : k_S × k_S → Int32 → Int32 → Int32 → Int32 → Option (Int32 × (k_S × k_S))) (hk897 : ∀ (s : k_S × k_S) (l6 l7 l11 l12 : Int32), KO X YL (cV 4 (k_I X) q) kc ks (k_QL X) 897 [some (.ref (b)), some (.ref (q 0)), some (.ref (q 30)), some (.ref (q 31)), some (.ref (q 32)), none, some (.int l6), some (.int l7), some (.ref (q 33)), none, none, some (.int l11), some (.int l12), none, none, none, none, none, none, none] [] s (kh897 s l6 l7 l11 l12)) (s : k_S × k_S) (l6 l7 l11 l12 : Int32) : KO X YL (cV 4 (k_I X) q) kc ks (k_QL X) 926 [some (.ref (b)), some (.ref (q 0)), some (.ref (q 30)), some (.ref (q 31)), some (.ref (q 32)), none, some (.int l6), some (.int l7), some (.ref (q 33)), none, none, some (.int l11), some (.int l12), none, none, none, none, none, none, none] [] s (fL_law_c926 Ls xs kh83 kh897 s l6 l7 l11 l12) := by
  unfold fL_law_c926
  refine k_iinc12 (pc := 926) (w := (nI 1)) dL_law_926 rfl (by decide) (Nat.le_of_ble_eq_true rfl) (fun v1 => ?_)
  refine k_goto (pc := 929) 897 dL_law_929 (by decide) ?_
  exact hk897 s l6 l7 l11 v1
noncomputable def fL_law_c1179 (Ls : Nat) (xs : Nat → Int32) (kh83 : k_S × k_S → Int32 → Option (Int32 × (k_S × k_S))) (kh1063 : k_S × k_S → Int32 → Int32 → Option (Int32 × (k_S × k_S))) (kh1075 : k_S × k_S → Int32 → Int32 → Int32 → Option (Int32 × (k_S × k_S))) (s : k_S × k_S) (l6 l14 l15 t0 t1 : Int32) : Option (Int32 × (k_S × k_S)) := (if t0 = t1 then k_bn (l15 + (nI 1)) fun v1 => kh1075 s l6 l14 v1 else none)
set_option maxRecDepth 100000 in
set_option maxHeartbeats 4000000 in
theorem kL_law_c1179 {X : k_C} {q : Nat → Nat} {b Ls kc ks : Nat} {xs : Nat → Int32} (hX : k_At X b Ls xs) (hk : kc ≤ 600000 ∧ ks ≤ 7302249) (kh83 : k_S × k_S → Int32 → Option (Int32 × (k_S × k_S))) (hk83 : ∀ (q : Nat → Nat) (s : k_S × k_S) (l6 : Int32), KO X YL (cV 3 (k_I X) q) (kc) (ks) (k_QL X) 83 [some (.ref (b)), some (.ref (q 0)), some (.ref (q 30)), some (.ref (q 31)), some (.ref (q 32)), none, some (.int l6), none, none, none, none, none, none, none, none, none, none, none, none, none] [] s (kh83 s l6)) (kh1063 : k_S × k_S → Int32 → Int32 → Option (Int32 × (k_S × k_S))) (hk1063 : ∀ (s : k_S × k_S) (l6 l14 : Int32), KO X YL (cV 5 (k_I X) q) kc ks (k_QL X) 1063 [some (.ref (b)), some (.ref (q 0)), some (.ref (q 30)), some (.ref (q 31)), some (.ref (q 32)), none, some (.int l6), none, some (.ref (q 33)), none, none, none, none, some (.ref (q 34)), some (.int l14), none, none, none, none, none] [] s (kh1063 s l6 l14)) (kh1075 : k_S × k_S → Int32 → Int32 → Int32 → Option (Int32 × (k_S × k_S))) (hk1075 : ∀ (s : k_S × k_S) (l6 l14 l15 : Int32), KO X YL (cV 5 (k_I X) q) kc ks (k_QL X) 1075 [some (.ref (b)), some (.ref (q 0)), some (.ref (q 30)), some (.ref (q 31)), some (.ref (q 32)), none, some (.int l6), none, some (.ref (q 33)), none, none, none, none, some (.ref (q 34)), some (.int l14), some (.int l15), none, none, none, none] [] s (kh1075 s l6 l14 l15)) (s : k_S × k_S) (l6 l14 l15 t0 t1 : Int32) : KO X YL (cV 5 (k_I X) q) kc ks (k_QL X) 1179 [some (.ref (b)), some (.ref (q 0)), some (.ref (q 30)), some (.ref (q 31)), some (.ref (q 32)), none, some (.int l6), none, some (.ref (q 33)), none, none, none, none, some (.ref (q 34)), some (.int l14), some (.int l15), none, none, none, none] [.int t1, .int t0] s (fL_law_c1179 Ls xs kh83 kh1063 kh1075 s l6 l14 l15 t0 t1) := by
  unfold fL_law_c1179
  refine k_icmp_eq (pc := 1179) 1184 dL_law_1179 (by decide) ?_ ?_
  · refine k_iinc15 (pc := 1184) (w := (nI 1)) dL_law_1184 rfl (by decide) (Nat.le_of_ble_eq_true rfl) (fun v1 => ?_)
    refine k_goto (pc := 1187) 1075 dL_law_1187 (by decide) ?_
    exact hk1075 s l6 l14 v1
  · exact KO.nil
noncomputable def fL_law_c1190 (Ls : Nat) (xs : Nat → Int32) (kh83 : k_S × k_S → Int32 → Option (Int32 × (k_S × k_S))) (kh1063 : k_S × k_S → Int32 → Int32 → Option (Int32 × (k_S × k_S))) (s : k_S × k_S) (l6 l14 : Int32) : Option (Int32 × (k_S × k_S)) := k_bn (l14 + (nI 1)) fun v1 => kh1063 s l6 v1
set_option maxRecDepth 100000 in
set_option maxHeartbeats 4000000 in
theorem kL_law_c1190 {X : k_C} {q : Nat → Nat} {b Ls kc ks : Nat} {xs : Nat → Int32} (hX : k_At X b Ls xs) (hk : kc ≤ 600000 ∧ ks ≤ 7302249) (kh83 : k_S × k_S → Int32 → Option (Int32 × (k_S × k_S))) (hk83 : ∀ (q : Nat → Nat) (s : k_S × k_S) (l6 : Int32), KO X YL (cV 3 (k_I X) q) (kc) (ks) (k_QL X) 83 [some (.ref (b)), some (.ref (q 0)), some (.ref (q 30)), some (.ref (q 31)), some (.ref (q 32)), none, some (.int l6), none, none, none, none, none, none, none, none, none, none, none, none, none] [] s (kh83 s l6)) (kh1063 : k_S × k_S → Int32 → Int32 → Option (Int32 × (k_S × k_S))) (hk1063 : ∀ (s : k_S × k_S) (l6 l14 : Int32), KO X YL (cV 5 (k_I X) q) kc ks (k_QL X) 1063 [some (.ref (b)), some (.ref (q 0)), some (.ref (q 30)), some (.ref (q 31)), some (.ref (q 32)), none, some (.int l6), none, some (.ref (q 33)), none, none, none, none, some (.ref (q 34)), some (.int l14), none, none, none, none, none] [] s (kh1063 s l6 l14)) (s : k_S × k_S) (l6 l14 : Int32) : KO X YL (cV 5 (k_I X) q) kc ks (k_QL X) 1190 [some (.ref (b)), some (.ref (q 0)), some (.ref (q 30)), some (.ref (q 31)), some (.ref (q 32)), none, some (.int l6), none, some (.ref (q 33)), none, none, none, none, some (.ref (q 34)), some (.int l14), none, none, none, none, none] [] s (fL_law_c1190 Ls xs kh83 kh1063 s l6 l14) := by
  unfold fL_law_c1190
  refine k_iinc14 (pc := 1190) (w := (nI 1)) dL_law_1190 rfl (by decide) (Nat.le_of_ble_eq_true rfl) (fun v1 => ?_)
  refine k_goto (pc := 1193) 1063 dL_law_1193 (by decide) ?_
  exact hk1063 s l6 v1
noncomputable def fL_law_c1075 (Ls : Nat) (xs : Nat → Int32) (kh83 : k_S × k_S → Int32 → Option (Int32 × (k_S × k_S))) (kh1063 : k_S × k_S → Int32 → Int32 → Option (Int32 × (k_S × k_S))) : Nat → k_S × k_S → Int32 → Int32 → Int32 → Option (Int32 × (k_S × k_S))
  | 0, _, _, _, _ => none
  | n + 1, s, l6, l14, l15 => k_gd ((nI 0)) 34 ((if l15 < s.2.2 0 (Int32.toNatClampNeg ((nI 0))) then k_oq (fL_place_ab (s.2.2 0) (s.2.2 1) (l14) (((nI 5) * l14)) (l15)) fun r1 => k_bn (r1) fun v2 => k_gd ((((nI 5) * l15) + v2)) 25 (k_gd ((((nI 5) * l15) + v2)) 25 (k_bn (k_sV s 4 ((((nI 5) * l15) + v2)) ((s.2.2 4 (Int32.toNatClampNeg ((((nI 5) * l15) + v2))) + (nI 1)))) fun s3 => k_gd ((((nI 5) * l14) + l15)) 60 (k_bn (s3.2.2 1 (Int32.toNatClampNeg ((((nI 5) * l14) + l15)))) fun v4 => k_ob (fX6_ofNight s3.1 (l14) (l15) ((nI 0))) fun r5 τ6 => k_bn (τ6, s3.2) fun s7 => (if r5 = v4 then k_ob (fX6_ofNight s7.1 (l14) (l15) ((nI 1))) fun r8 τ9 => k_bn (τ9, s7.2) fun s10 => (if r8 = v2 then k_ob (fX6_ofNight s10.1 (l14) (l15) ((nI 2))) fun r11 τ12 => k_bn (τ12, s10.2) fun s13 => (if v4 < 0 then fL_law_c1179 Ls xs kh83 kh1063 (fL_law_c1075 Ls xs kh83 kh1063 n) s13 l6 l14 l15 r11 ((nI 0)) else k_oq (fL_tall (s13.2.2 0) (s13.2.2 1) (l14) (v4)) fun r14 => fL_law_c1179 Ls xs kh83 kh1063 (fL_law_c1075 Ls xs kh83 kh1063 n) s13 l6 l14 l15 r11 r14) else none) else none)))) else fL_law_c1190 Ls xs kh83 kh1063 s l6 l14))
theorem fL_law_c1075_s (Ls : Nat) (xs : Nat → Int32) (kh83 : k_S × k_S → Int32 → Option (Int32 × (k_S × k_S))) (kh1063 : k_S × k_S → Int32 → Int32 → Option (Int32 × (k_S × k_S))) (n : Nat) (s : k_S × k_S) (l6 l14 l15 : Int32) : fL_law_c1075 Ls xs kh83 kh1063 (n + 1) s l6 l14 l15 = k_gd ((nI 0)) 34 ((if l15 < s.2.2 0 (Int32.toNatClampNeg ((nI 0))) then k_oq (fL_place_ab (s.2.2 0) (s.2.2 1) (l14) (((nI 5) * l14)) (l15)) fun r1 => k_bn (r1) fun v2 => k_gd ((((nI 5) * l15) + v2)) 25 (k_gd ((((nI 5) * l15) + v2)) 25 (k_bn (k_sV s 4 ((((nI 5) * l15) + v2)) ((s.2.2 4 (Int32.toNatClampNeg ((((nI 5) * l15) + v2))) + (nI 1)))) fun s3 => k_gd ((((nI 5) * l14) + l15)) 60 (k_bn (s3.2.2 1 (Int32.toNatClampNeg ((((nI 5) * l14) + l15)))) fun v4 => k_ob (fX6_ofNight s3.1 (l14) (l15) ((nI 0))) fun r5 τ6 => k_bn (τ6, s3.2) fun s7 => (if r5 = v4 then k_ob (fX6_ofNight s7.1 (l14) (l15) ((nI 1))) fun r8 τ9 => k_bn (τ9, s7.2) fun s10 => (if r8 = v2 then k_ob (fX6_ofNight s10.1 (l14) (l15) ((nI 2))) fun r11 τ12 => k_bn (τ12, s10.2) fun s13 => (if v4 < 0 then fL_law_c1179 Ls xs kh83 kh1063 (fL_law_c1075 Ls xs kh83 kh1063 n) s13 l6 l14 l15 r11 ((nI 0)) else k_oq (fL_tall (s13.2.2 0) (s13.2.2 1) (l14) (v4)) fun r14 => fL_law_c1179 Ls xs kh83 kh1063 (fL_law_c1075 Ls xs kh83 kh1063 n) s13 l6 l14 l15 r11 r14) else none) else none)))) else fL_law_c1190 Ls xs kh83 kh1063 s l6 l14)) := rfl
set_option maxRecDepth 100000 in
set_option maxHeartbeats 4000000 in
theorem kL_law_c1075 {X : k_C} {q : Nat → Nat} {b Ls kc ks : Nat} {xs : Nat → Int32} (hX : k_At X b Ls xs) (hk : kc ≤ 600000 ∧ ks ≤ 7302249) (kh83 : k_S × k_S → Int32 → Option (Int32 × (k_S × k_S))) (hk83 : ∀ (q : Nat → Nat) (s : k_S × k_S) (l6 : Int32), KO X YL (cV 3 (k_I X) q) (kc) (ks) (k_QL X) 83 [some (.ref (b)), some (.ref (q 0)), some (.ref (q 30)), some (.ref (q 31)), some (.ref (q 32)), none, some (.int l6), none, none, none, none, none, none, none, none, none, none, none, none, none] [] s (kh83 s l6)) (kh1063 : k_S × k_S → Int32 → Int32 → Option (Int32 × (k_S × k_S))) (hk1063 : ∀ (s : k_S × k_S) (l6 l14 : Int32), KO X YL (cV 5 (k_I X) q) kc ks (k_QL X) 1063 [some (.ref (b)), some (.ref (q 0)), some (.ref (q 30)), some (.ref (q 31)), some (.ref (q 32)), none, some (.int l6), none, some (.ref (q 33)), none, none, none, none, some (.ref (q 34)), some (.int l14), none, none, none, none, none] [] s (kh1063 s l6 l14)) : ∀ (n : Nat) (s : k_S × k_S) (l6 l14 l15 : Int32), KO X YL (cV 5 (k_I X) q) kc ks (k_QL X) 1075 [some (.ref (b)), some (.ref (q 0)), some (.ref (q 30)), some (.ref (q 31)), some (.ref (q 32)), none, some (.int l6), none, some (.ref (q 33)), none, none, none, none, some (.ref (q 34)), some (.int l14), some (.int l15), none, none, none, none] [] s (fL_law_c1075 Ls xs kh83 kh1063 n s l6 l14 l15) := by
  intro n
  induction n with
  | zero => intros; exact KO.nil
  | succ n ih =>
    intro s l6 l14 l15
    rw [fL_law_c1075_s]
    refine k_iload (pc := 1075) dL_law_1075 rfl ?_
    refine k_aload_n (pc := 1077) dL_law_1077 rfl ?_
    refine k_iconst (pc := 1078) (v := (nI 0)) dL_law_1078 (by decide) ?_
    refine k_lV5_0 (pc := 1079) dL_law_1079 ?_
    refine k_icmp_ge (pc := 1080) 1190 dL_law_1080 (by decide) ?_ ?_
    · refine k_fg15 ?_
      exact kL_law_c1190 hX hk kh83 hk83 kh1063 hk1063 s l6 l14
    · refine k_aload_n (pc := 1083) dL_law_1083 rfl ?_
      refine k_aload_n (pc := 1084) dL_law_1084 rfl ?_
      refine k_iload (pc := 1085) dL_law_1085 rfl ?_
      refine k_aload_n (pc := 1087) dL_law_1087 rfl ?_
      refine k_iconst (pc := 1088) (v := (nI 5)) dL_law_1088 (by decide) ?_
      refine k_iload (pc := 1089) dL_law_1089 rfl ?_
      refine k_imul (pc := 1091) dL_law_1091 ?_
      refine k_iload (pc := 1092) dL_law_1092 rfl ?_
      refine k_cq (pc := 1094) (n := 6) (W0 := cR (k_I X) (fun k => q (30 + k)) (s.2.2 0) (s.2.2 1) (s.2.2 2)) (As := [.ref (q 30), .ref (q 31), .int (l14), .ref (q 31), .int (((nI 5) * l14)), .int (l15)]) [30, 31, 32] (by decide) rfl ckL_place kwm_L_67 rfl ⟨rfl, rfl⟩ ⟨Nat.le_of_ble_eq_true rfl, Nat.le_of_ble_eq_true rfl⟩ hk (Nat.le_of_ble_eq_true rfl) dL_law_1094 rfl (fun _ _ hf => kL_place_ab (q := (fun k => q (30 + k))) (g := (s.2.2 0)) (b := (s.2.2 1)) (r := (s.2.2 2)) hf) (fun r1 => ?_)
      refine k_ist16 (pc := 1097) dL_law_1097 (Nat.le_of_ble_eq_true rfl) (fun v2 => ?_)
      refine k_aload (pc := 1099) dL_law_1099 rfl ?_
      refine k_iconst (pc := 1101) (v := (nI 5)) dL_law_1101 (by decide) ?_
      refine k_iload (pc := 1102) dL_law_1102 rfl ?_
      refine k_imul (pc := 1104) dL_law_1104 ?_
      refine k_iload (pc := 1105) dL_law_1105 rfl ?_
      refine k_iadd (pc := 1107) dL_law_1107 ?_
      refine k_dup2 (pc := 1108) dL_law_1108 rfl rfl ?_
      refine k_lV5_4 (pc := 1109) dL_law_1109 ?_
      refine k_iconst (pc := 1110) (v := (nI 1)) dL_law_1110 (by decide) ?_
      refine k_iadd (pc := 1111) dL_law_1111 ?_
      refine k_sV5_4 (pc := 1112) dL_law_1112 (fun s3 => ?_)
      refine k_aload_n (pc := 1113) dL_law_1113 rfl ?_
      refine k_iconst (pc := 1114) (v := (nI 5)) dL_law_1114 (by decide) ?_
      refine k_iload (pc := 1115) dL_law_1115 rfl ?_
      refine k_imul (pc := 1117) dL_law_1117 ?_
      refine k_iload (pc := 1118) dL_law_1118 rfl ?_
      refine k_iadd (pc := 1120) dL_law_1120 ?_
      refine k_lV5_1 (pc := 1121) dL_law_1121 ?_
      refine k_ist17 (pc := 1122) dL_law_1122 (Nat.le_of_ble_eq_true rfl) (fun v4 => ?_)
      refine k_aload_n (pc := 1124) dL_law_1124 rfl ?_
      refine k_iload (pc := 1125) dL_law_1125 rfl ?_
      refine k_iload (pc := 1127) dL_law_1127 rfl ?_
      refine k_iconst (pc := 1129) (v := (nI 0)) dL_law_1129 (by decide) ?_
      refine k_LTi3 (pc := 1130) ckX6_ofNight rfl kwm_L_87 ⟨rfl, rfl⟩ ⟨Nat.le_of_ble_eq_true rfl, Nat.le_of_ble_eq_true rfl⟩ hk (Nat.le_of_ble_eq_true rfl) dL_law_1130 (fun _ _ hf => kX6_ofNight hf) (fun r5 s7 => ?_)
      refine k_iload (pc := 1133) dL_law_1133 rfl ?_
      refine k_icmp_ne (pc := 1135) 1182 dL_law_1135 (by decide) ?_ ?_
      · exact KO.nil
      · refine k_aload_n (pc := 1138) dL_law_1138 rfl ?_
        refine k_iload (pc := 1139) dL_law_1139 rfl ?_
        refine k_iload (pc := 1141) dL_law_1141 rfl ?_
        refine k_iconst (pc := 1143) (v := (nI 1)) dL_law_1143 (by decide) ?_
        refine k_LTi3 (pc := 1144) ckX6_ofNight rfl kwm_L_87 ⟨rfl, rfl⟩ ⟨Nat.le_of_ble_eq_true rfl, Nat.le_of_ble_eq_true rfl⟩ hk (Nat.le_of_ble_eq_true rfl) dL_law_1144 (fun _ _ hf => kX6_ofNight hf) (fun r8 s10 => ?_)
        refine k_iload (pc := 1147) dL_law_1147 rfl ?_
        refine k_icmp_ne (pc := 1149) 1182 dL_law_1149 (by decide) ?_ ?_
        · exact KO.nil
        · refine k_aload_n (pc := 1152) dL_law_1152 rfl ?_
          refine k_iload (pc := 1153) dL_law_1153 rfl ?_
          refine k_iload (pc := 1155) dL_law_1155 rfl ?_
          refine k_iconst (pc := 1157) (v := (nI 2)) dL_law_1157 (by decide) ?_
          refine k_LTi3 (pc := 1158) ckX6_ofNight rfl kwm_L_87 ⟨rfl, rfl⟩ ⟨Nat.le_of_ble_eq_true rfl, Nat.le_of_ble_eq_true rfl⟩ hk (Nat.le_of_ble_eq_true rfl) dL_law_1158 (fun _ _ hf => kX6_ofNight hf) (fun r11 s13 => ?_)
          refine k_iload (pc := 1161) dL_law_1161 rfl ?_
          refine k_if_ge (pc := 1163) 1170 dL_law_1163 (by decide) ?_ ?_
          · refine k_aload_n (pc := 1170) dL_law_1170 rfl ?_
            refine k_aload_n (pc := 1171) dL_law_1171 rfl ?_
            refine k_iload (pc := 1172) dL_law_1172 rfl ?_
            refine k_iload (pc := 1174) dL_law_1174 rfl ?_
            refine k_cq (pc := 1176) (n := 4) (W0 := cR (k_I X) (fun k => q (30 + k)) (s13.2.2 0) (s13.2.2 1) (s13.2.2 2)) (As := [.ref (q 30), .ref (q 31), .int (l14), .int (v4)]) [30, 31, 32] (by decide) rfl ckL_tall kwm_L_35 rfl ⟨rfl, rfl⟩ ⟨Nat.le_of_ble_eq_true rfl, Nat.le_of_ble_eq_true rfl⟩ hk (Nat.le_of_ble_eq_true rfl) dL_law_1176 rfl (fun _ _ hf => kL_tall (q := (fun k => q (30 + k))) (g := (s13.2.2 0)) (b := (s13.2.2 1)) (r := (s13.2.2 2)) hf) (fun r14 => ?_)
            refine k_fg16 ?_
            refine k_fg17 ?_
            exact kL_law_c1179 hX hk kh83 hk83 kh1063 hk1063 (fL_law_c1075 Ls xs kh83 kh1063 n) ih s13 l6 l14 l15 r11 r14
          · refine k_iconst (pc := 1166) (v := (nI 0)) dL_law_1166 (by decide) ?_
            refine k_goto (pc := 1167) 1179 dL_law_1167 (by decide) ?_
            refine k_fg16 ?_
            refine k_fg17 ?_
            exact kL_law_c1179 hX hk kh83 hk83 kh1063 hk1063 (fL_law_c1075 Ls xs kh83 kh1063 n) ih s13 l6 l14 l15 r11 ((nI 0))
noncomputable def fL_law_c1248 (Ls : Nat) (xs : Nat → Int32) (kh83 : k_S × k_S → Int32 → Option (Int32 × (k_S × k_S))) (kh1199 : k_S × k_S → Int32 → Int32 → Option (Int32 × (k_S × k_S))) (s : k_S × k_S) (l6 l14 : Int32) : Option (Int32 × (k_S × k_S)) := k_bn (l14 + (nI 1)) fun v1 => kh1199 s l6 v1
set_option maxRecDepth 100000 in
set_option maxHeartbeats 4000000 in
theorem kL_law_c1248 {X : k_C} {q : Nat → Nat} {b Ls kc ks : Nat} {xs : Nat → Int32} (hX : k_At X b Ls xs) (hk : kc ≤ 600000 ∧ ks ≤ 7302249) (kh83 : k_S × k_S → Int32 → Option (Int32 × (k_S × k_S))) (hk83 : ∀ (q : Nat → Nat) (s : k_S × k_S) (l6 : Int32), KO X YL (cV 3 (k_I X) q) (kc) (ks) (k_QL X) 83 [some (.ref (b)), some (.ref (q 0)), some (.ref (q 30)), some (.ref (q 31)), some (.ref (q 32)), none, some (.int l6), none, none, none, none, none, none, none, none, none, none, none, none, none] [] s (kh83 s l6)) (kh1199 : k_S × k_S → Int32 → Int32 → Option (Int32 × (k_S × k_S))) (hk1199 : ∀ (s : k_S × k_S) (l6 l14 : Int32), KO X YL (cV 5 (k_I X) q) kc ks (k_QL X) 1199 [some (.ref (b)), some (.ref (q 0)), some (.ref (q 30)), some (.ref (q 31)), some (.ref (q 32)), none, some (.int l6), none, some (.ref (q 33)), none, none, none, none, some (.ref (q 34)), some (.int l14), none, none, none, none, none] [] s (kh1199 s l6 l14)) (s : k_S × k_S) (l6 l14 : Int32) : KO X YL (cV 5 (k_I X) q) kc ks (k_QL X) 1248 [some (.ref (b)), some (.ref (q 0)), some (.ref (q 30)), some (.ref (q 31)), some (.ref (q 32)), none, some (.int l6), none, some (.ref (q 33)), none, none, none, none, some (.ref (q 34)), some (.int l14), none, none, none, none, none] [] s (fL_law_c1248 Ls xs kh83 kh1199 s l6 l14) := by
  unfold fL_law_c1248
  refine k_iinc14 (pc := 1248) (w := (nI 1)) dL_law_1248 rfl (by decide) (Nat.le_of_ble_eq_true rfl) (fun v1 => ?_)
  refine k_goto (pc := 1251) 1199 dL_law_1251 (by decide) ?_
  exact hk1199 s l6 v1
noncomputable def fL_law_c1254 (Ls : Nat) (xs : Nat → Int32) (kh83 : k_S × k_S → Int32 → Option (Int32 × (k_S × k_S))) (s : k_S × k_S) (l6 : Int32) : Option (Int32 × (k_S × k_S)) := k_ob (fX6_many s.1 ((nI 2))) fun r1 τ2 => k_bn (τ2, s.2) fun s3 => k_gd ((nI 33)) 34 ((if r1 = s3.2.2 0 (Int32.toNatClampNeg ((nI 33))) then k_ob (fX6_many s3.1 ((nI 3))) fun r4 τ5 => k_bn (τ5, s3.2) fun s6 => k_gd ((nI 32)) 34 ((if r4 = s6.2.2 0 (Int32.toNatClampNeg ((nI 32))) then k_bn (l6 + (nI 1)) fun v7 => kh83 s6 v7 else none)) else none))
set_option maxRecDepth 100000 in
set_option maxHeartbeats 4000000 in
theorem kL_law_c1254 {X : k_C} {q : Nat → Nat} {b Ls kc ks : Nat} {xs : Nat → Int32} (hX : k_At X b Ls xs) (hk : kc ≤ 600000 ∧ ks ≤ 7302249) (kh83 : k_S × k_S → Int32 → Option (Int32 × (k_S × k_S))) (hk83 : ∀ (q : Nat → Nat) (s : k_S × k_S) (l6 : Int32), KO X YL (cV 3 (k_I X) q) (kc) (ks) (k_QL X) 83 [some (.ref (b)), some (.ref (q 0)), some (.ref (q 30)), some (.ref (q 31)), some (.ref (q 32)), none, some (.int l6), none, none, none, none, none, none, none, none, none, none, none, none, none] [] s (kh83 s l6)) (s : k_S × k_S) (l6 : Int32) : KO X YL (cV 5 (k_I X) q) kc ks (k_QL X) 1254 [some (.ref (b)), some (.ref (q 0)), some (.ref (q 30)), some (.ref (q 31)), some (.ref (q 32)), none, some (.int l6), none, some (.ref (q 33)), none, none, none, none, some (.ref (q 34)), none, none, none, none, none, none] [] s (fL_law_c1254 Ls xs kh83 s l6) := by
  unfold fL_law_c1254
  refine k_aload_n (pc := 1254) dL_law_1254 rfl ?_
  refine k_iconst (pc := 1255) (v := (nI 2)) dL_law_1255 (by decide) ?_
  refine k_LTi1 (pc := 1256) ckX6_many rfl kwm_L_93 ⟨rfl, rfl⟩ ⟨Nat.le_of_ble_eq_true rfl, Nat.le_of_ble_eq_true rfl⟩ hk (Nat.le_of_ble_eq_true rfl) dL_law_1256 (fun _ _ hf => kX6_many hf) (fun r1 s3 => ?_)
  refine k_aload_n (pc := 1259) dL_law_1259 rfl ?_
  refine k_bipush (pc := 1260) (v := (nI 33)) dL_law_1260 (by decide) ?_
  refine k_lV5_0 (pc := 1262) dL_law_1262 ?_
  refine k_icmp_ne (pc := 1263) 1278 dL_law_1263 (by decide) ?_ ?_
  · exact KO.nil
  · refine k_aload_n (pc := 1266) dL_law_1266 rfl ?_
    refine k_iconst (pc := 1267) (v := (nI 3)) dL_law_1267 (by decide) ?_
    refine k_LTi1 (pc := 1268) ckX6_many rfl kwm_L_93 ⟨rfl, rfl⟩ ⟨Nat.le_of_ble_eq_true rfl, Nat.le_of_ble_eq_true rfl⟩ hk (Nat.le_of_ble_eq_true rfl) dL_law_1268 (fun _ _ hf => kX6_many hf) (fun r4 s6 => ?_)
    refine k_aload_n (pc := 1271) dL_law_1271 rfl ?_
    refine k_bipush (pc := 1272) (v := (nI 32)) dL_law_1272 (by decide) ?_
    refine k_lV5_0 (pc := 1274) dL_law_1274 ?_
    refine k_icmp_eq (pc := 1275) 1280 dL_law_1275 (by decide) ?_ ?_
    · refine k_iinc6 (pc := 1280) (w := (nI 1)) dL_law_1280 rfl (by decide) (Nat.le_of_ble_eq_true rfl) (fun v7 => ?_)
      refine k_goto (pc := 1283) 83 dL_law_1283 (by decide) ?_
      refine k_fg8 ?_
      refine k_fg13 ?_
      refine k_drop5 ?_
      exact hk83 q s6 v7
    · exact KO.nil
noncomputable def fL_law_c1199 (Ls : Nat) (xs : Nat → Int32) (kh83 : k_S × k_S → Int32 → Option (Int32 × (k_S × k_S))) : Nat → k_S × k_S → Int32 → Int32 → Option (Int32 × (k_S × k_S))
  | 0, _, _, _ => none
  | n + 1, s, l6, l14 => (if l14 < (nI 25) then k_gd ((nI 0)) 34 ((if (l14 / (nI 5)) < s.2.2 0 (Int32.toNatClampNeg ((nI 0))) then k_gd ((nI 0)) 34 ((if (l14 - l14 / (nI 5) * (nI 5)) < s.2.2 0 (Int32.toNatClampNeg ((nI 0))) then k_ob (fX6_lay s.1 ((l14 / (nI 5))) ((l14 - l14 / (nI 5) * (nI 5)))) fun r1 τ2 => k_bn (τ2, s.2) fun s3 => k_gd (l14) 25 ((if r1 = s3.2.2 4 (Int32.toNatClampNeg (l14)) then fL_law_c1248 Ls xs kh83 (fL_law_c1199 Ls xs kh83 n) s3 l6 l14 else none)) else fL_law_c1248 Ls xs kh83 (fL_law_c1199 Ls xs kh83 n) s l6 l14)) else fL_law_c1248 Ls xs kh83 (fL_law_c1199 Ls xs kh83 n) s l6 l14)) else fL_law_c1254 Ls xs kh83 s l6)
theorem fL_law_c1199_s (Ls : Nat) (xs : Nat → Int32) (kh83 : k_S × k_S → Int32 → Option (Int32 × (k_S × k_S))) (n : Nat) (s : k_S × k_S) (l6 l14 : Int32) : fL_law_c1199 Ls xs kh83 (n + 1) s l6 l14 = (if l14 < (nI 25) then k_gd ((nI 0)) 34 ((if (l14 / (nI 5)) < s.2.2 0 (Int32.toNatClampNeg ((nI 0))) then k_gd ((nI 0)) 34 ((if (l14 - l14 / (nI 5) * (nI 5)) < s.2.2 0 (Int32.toNatClampNeg ((nI 0))) then k_ob (fX6_lay s.1 ((l14 / (nI 5))) ((l14 - l14 / (nI 5) * (nI 5)))) fun r1 τ2 => k_bn (τ2, s.2) fun s3 => k_gd (l14) 25 ((if r1 = s3.2.2 4 (Int32.toNatClampNeg (l14)) then fL_law_c1248 Ls xs kh83 (fL_law_c1199 Ls xs kh83 n) s3 l6 l14 else none)) else fL_law_c1248 Ls xs kh83 (fL_law_c1199 Ls xs kh83 n) s l6 l14)) else fL_law_c1248 Ls xs kh83 (fL_law_c1199 Ls xs kh83 n) s l6 l14)) else fL_law_c1254 Ls xs kh83 s l6) := rfl
set_option maxRecDepth 100000 in
set_option maxHeartbeats 4000000 in
theorem kL_law_c1199 {X : k_C} {q : Nat → Nat} {b Ls kc ks : Nat} {xs : Nat → Int32} (hX : k_At X b Ls xs) (hk : kc ≤ 600000 ∧ ks ≤ 7302249) (kh83 : k_S × k_S → Int32 → Option (Int32 × (k_S × k_S))) (hk83 : ∀ (q : Nat → Nat) (s : k_S × k_S) (l6 : Int32), KO X YL (cV 3 (k_I X) q) (kc) (ks) (k_QL X) 83 [some (.ref (b)), some (.ref (q 0)), some (.ref (q 30)), some (.ref (q 31)), some (.ref (q 32)), none, some (.int l6), none, none, none, none, none, none, none, none, none, none, none, none, none] [] s (kh83 s l6)) : ∀ (n : Nat) (s : k_S × k_S) (l6 l14 : Int32), KO X YL (cV 5 (k_I X) q) kc ks (k_QL X) 1199 [some (.ref (b)), some (.ref (q 0)), some (.ref (q 30)), some (.ref (q 31)), some (.ref (q 32)), none, some (.int l6), none, some (.ref (q 33)), none, none, none, none, some (.ref (q 34)), some (.int l14), none, none, none, none, none] [] s (fL_law_c1199 Ls xs kh83 n s l6 l14) := by
  intro n
  induction n with
  | zero => intros; exact KO.nil
  | succ n ih =>
    intro s l6 l14
    rw [fL_law_c1199_s]
    refine k_iload (pc := 1199) dL_law_1199 rfl ?_
    refine k_bipush (pc := 1201) (v := (nI 25)) dL_law_1201 (by decide) ?_
    refine k_icmp_ge (pc := 1203) 1254 dL_law_1203 (by decide) ?_ ?_
    · refine k_fg14 ?_
      exact kL_law_c1254 hX hk kh83 hk83 s l6
    · refine k_iload (pc := 1206) dL_law_1206 rfl ?_
      refine k_iconst (pc := 1208) (v := (nI 5)) dL_law_1208 (by decide) ?_
      refine k_idiv (pc := 1209) dL_law_1209 (by decide) ?_
      refine k_aload_n (pc := 1210) dL_law_1210 rfl ?_
      refine k_iconst (pc := 1211) (v := (nI 0)) dL_law_1211 (by decide) ?_
      refine k_lV5_0 (pc := 1212) dL_law_1212 ?_
      refine k_icmp_ge (pc := 1213) 1248 dL_law_1213 (by decide) ?_ ?_
      · exact kL_law_c1248 hX hk kh83 hk83 (fL_law_c1199 Ls xs kh83 n) ih s l6 l14
      · refine k_iload (pc := 1216) dL_law_1216 rfl ?_
        refine k_iconst (pc := 1218) (v := (nI 5)) dL_law_1218 (by decide) ?_
        refine k_irem (pc := 1219) dL_law_1219 (by decide) ?_
        refine k_aload_n (pc := 1220) dL_law_1220 rfl ?_
        refine k_iconst (pc := 1221) (v := (nI 0)) dL_law_1221 (by decide) ?_
        refine k_lV5_0 (pc := 1222) dL_law_1222 ?_
        refine k_icmp_ge (pc := 1223) 1248 dL_law_1223 (by decide) ?_ ?_
        · exact kL_law_c1248 hX hk kh83 hk83 (fL_law_c1199 Ls xs kh83 n) ih s l6 l14
        · refine k_aload_n (pc := 1226) dL_law_1226 rfl ?_
          refine k_iload (pc := 1227) dL_law_1227 rfl ?_
          refine k_iconst (pc := 1229) (v := (nI 5)) dL_law_1229 (by decide) ?_
          refine k_idiv (pc := 1230) dL_law_1230 (by decide) ?_
          refine k_iload (pc := 1231) dL_law_1231 rfl ?_
          refine k_iconst (pc := 1233) (v := (nI 5)) dL_law_1233 (by decide) ?_
          refine k_irem (pc := 1234) dL_law_1234 (by decide) ?_
          refine k_LTi2 (pc := 1235) ckX6_lay rfl kwm_L_90 ⟨rfl, rfl⟩ ⟨Nat.le_of_ble_eq_true rfl, Nat.le_of_ble_eq_true rfl⟩ hk (Nat.le_of_ble_eq_true rfl) dL_law_1235 (fun _ _ hf => kX6_lay hf) (fun r1 s3 => ?_)
          refine k_aload (pc := 1238) dL_law_1238 rfl ?_
          refine k_iload (pc := 1240) dL_law_1240 rfl ?_
          refine k_lV5_4 (pc := 1242) dL_law_1242 ?_
          refine k_icmp_eq (pc := 1243) 1248 dL_law_1243 (by decide) ?_ ?_
          · exact kL_law_c1248 hX hk kh83 hk83 (fL_law_c1199 Ls xs kh83 n) ih s3 l6 l14
          · exact KO.nil
noncomputable def fL_law_c1196 (Ls : Nat) (xs : Nat → Int32) (kh83 : k_S × k_S → Int32 → Option (Int32 × (k_S × k_S))) (s : k_S × k_S) (l6 : Int32) : Option (Int32 × (k_S × k_S)) := k_bn ((nI 0)) fun v1 => fL_law_c1199 Ls xs kh83 k_F s l6 v1
set_option maxRecDepth 100000 in
set_option maxHeartbeats 4000000 in
theorem kL_law_c1196 {X : k_C} {q : Nat → Nat} {b Ls kc ks : Nat} {xs : Nat → Int32} (hX : k_At X b Ls xs) (hk : kc ≤ 600000 ∧ ks ≤ 7302249) (kh83 : k_S × k_S → Int32 → Option (Int32 × (k_S × k_S))) (hk83 : ∀ (q : Nat → Nat) (s : k_S × k_S) (l6 : Int32), KO X YL (cV 3 (k_I X) q) (kc) (ks) (k_QL X) 83 [some (.ref (b)), some (.ref (q 0)), some (.ref (q 30)), some (.ref (q 31)), some (.ref (q 32)), none, some (.int l6), none, none, none, none, none, none, none, none, none, none, none, none, none] [] s (kh83 s l6)) (s : k_S × k_S) (l6 : Int32) : KO X YL (cV 5 (k_I X) q) kc ks (k_QL X) 1196 [some (.ref (b)), some (.ref (q 0)), some (.ref (q 30)), some (.ref (q 31)), some (.ref (q 32)), none, some (.int l6), none, some (.ref (q 33)), none, none, none, none, some (.ref (q 34)), none, none, none, none, none, none] [] s (fL_law_c1196 Ls xs kh83 s l6) := by
  unfold fL_law_c1196
  refine k_iconst (pc := 1196) (v := (nI 0)) dL_law_1196 (by decide) ?_
  refine k_ist14 (pc := 1197) dL_law_1197 (Nat.le_of_ble_eq_true rfl) (fun v1 => ?_)
  exact kL_law_c1199 hX hk kh83 hk83 k_F s l6 v1
noncomputable def fL_law_c1063 (Ls : Nat) (xs : Nat → Int32) (kh83 : k_S × k_S → Int32 → Option (Int32 × (k_S × k_S))) : Nat → k_S × k_S → Int32 → Int32 → Option (Int32 × (k_S × k_S))
  | 0, _, _, _ => none
  | n + 1, s, l6, l14 => k_gd ((nI 33)) 34 ((if l14 < s.2.2 0 (Int32.toNatClampNeg ((nI 33))) then k_bn ((nI 0)) fun v1 => fL_law_c1075 Ls xs kh83 (fL_law_c1063 Ls xs kh83 n) k_F s l6 l14 v1 else fL_law_c1196 Ls xs kh83 s l6))
theorem fL_law_c1063_s (Ls : Nat) (xs : Nat → Int32) (kh83 : k_S × k_S → Int32 → Option (Int32 × (k_S × k_S))) (n : Nat) (s : k_S × k_S) (l6 l14 : Int32) : fL_law_c1063 Ls xs kh83 (n + 1) s l6 l14 = k_gd ((nI 33)) 34 ((if l14 < s.2.2 0 (Int32.toNatClampNeg ((nI 33))) then k_bn ((nI 0)) fun v1 => fL_law_c1075 Ls xs kh83 (fL_law_c1063 Ls xs kh83 n) k_F s l6 l14 v1 else fL_law_c1196 Ls xs kh83 s l6)) := rfl
set_option maxRecDepth 100000 in
set_option maxHeartbeats 4000000 in
theorem kL_law_c1063 {X : k_C} {q : Nat → Nat} {b Ls kc ks : Nat} {xs : Nat → Int32} (hX : k_At X b Ls xs) (hk : kc ≤ 600000 ∧ ks ≤ 7302249) (kh83 : k_S × k_S → Int32 → Option (Int32 × (k_S × k_S))) (hk83 : ∀ (q : Nat → Nat) (s : k_S × k_S) (l6 : Int32), KO X YL (cV 3 (k_I X) q) (kc) (ks) (k_QL X) 83 [some (.ref (b)), some (.ref (q 0)), some (.ref (q 30)), some (.ref (q 31)), some (.ref (q 32)), none, some (.int l6), none, none, none, none, none, none, none, none, none, none, none, none, none] [] s (kh83 s l6)) : ∀ (n : Nat) (s : k_S × k_S) (l6 l14 : Int32), KO X YL (cV 5 (k_I X) q) kc ks (k_QL X) 1063 [some (.ref (b)), some (.ref (q 0)), some (.ref (q 30)), some (.ref (q 31)), some (.ref (q 32)), none, some (.int l6), none, some (.ref (q 33)), none, none, none, none, some (.ref (q 34)), some (.int l14), none, none, none, none, none] [] s (fL_law_c1063 Ls xs kh83 n s l6 l14) := by
  intro n
  induction n with
  | zero => intros; exact KO.nil
  | succ n ih =>
    intro s l6 l14
    rw [fL_law_c1063_s]
    refine k_iload (pc := 1063) dL_law_1063 rfl ?_
    refine k_aload_n (pc := 1065) dL_law_1065 rfl ?_
    refine k_bipush (pc := 1066) (v := (nI 33)) dL_law_1066 (by decide) ?_
    refine k_lV5_0 (pc := 1068) dL_law_1068 ?_
    refine k_icmp_ge (pc := 1069) 1196 dL_law_1069 (by decide) ?_ ?_
    · refine k_fg14 ?_
      exact kL_law_c1196 hX hk kh83 hk83 s l6
    · refine k_iconst (pc := 1072) (v := (nI 0)) dL_law_1072 (by decide) ?_
      refine k_ist15 (pc := 1073) dL_law_1073 (Nat.le_of_ble_eq_true rfl) (fun v1 => ?_)
      exact kL_law_c1075 hX hk kh83 hk83 (fL_law_c1063 Ls xs kh83 n) ih k_F s l6 l14 v1
noncomputable def fL_law_c1054 (Ls : Nat) (xs : Nat → Int32) (kh83 : k_S × k_S → Int32 → Option (Int32 × (k_S × k_S))) (s : k_S × k_S) (l6 : Int32) : Option (Int32 × (k_S × k_S)) := k_bn (s.1, k_sA s.2 4 (fun _ => 0)) fun s1 => k_bn ((nI 0)) fun v2 => fL_law_c1063 Ls xs kh83 k_F s1 l6 v2
set_option maxRecDepth 100000 in
set_option maxHeartbeats 4000000 in
theorem kL_law_c1054 {X : k_C} {q : Nat → Nat} {b Ls kc ks : Nat} {xs : Nat → Int32} (hX : k_At X b Ls xs) (hk : kc ≤ 600000 ∧ ks ≤ 7302249) (hr : kc + 1 ≤ 600000 ∧ ks + 25 ≤ 7302249) (kh83 : k_S × k_S → Int32 → Option (Int32 × (k_S × k_S))) (hk83 : ∀ (q : Nat → Nat) (s : k_S × k_S) (l6 : Int32), KO X YL (cV 3 (k_I X) q) (kc + 1) (ks + 25) (k_QL X) 83 [some (.ref (b)), some (.ref (q 0)), some (.ref (q 30)), some (.ref (q 31)), some (.ref (q 32)), none, some (.int l6), none, none, none, none, none, none, none, none, none, none, none, none, none] [] s (kh83 s l6)) (s : k_S × k_S) (l6 : Int32) : KO X YL (cV 4 (k_I X) q) kc ks (k_QL X) 1054 [some (.ref (b)), some (.ref (q 0)), some (.ref (q 30)), some (.ref (q 31)), some (.ref (q 32)), none, some (.int l6), none, some (.ref (q 33)), none, none, none, none, none, none, none, none, none, none, none] [] s (fL_law_c1054 Ls xs kh83 s l6) := by
  unfold fL_law_c1054
  refine k_bipush (pc := 1054) (v := (nI 25)) dL_law_1054 (by decide) ?_
  refine k_newV4 (pc := 1056) (show kc + 1 ≤ 600000 by have := hr.1; omega) (show ks + 25 ≤ 7302249 by have := hr.2; omega) dL_law_1056 (fun a s1 => ?_)
  replace hk : kc + 1 ≤ 600000 ∧ ks + 25 ≤ 7302249 := hr
  refine k_astL (pc := 1058) 13 dL_law_1058 (Nat.le_of_ble_eq_true rfl) ?_
  refine k_iconst (pc := 1060) (v := (nI 0)) dL_law_1060 (by decide) ?_
  refine k_ist14 (pc := 1061) dL_law_1061 (Nat.le_of_ble_eq_true rfl) (fun v2 => ?_)
  exact kL_law_c1063 hX hk kh83 hk83 k_F s1 l6 v2
noncomputable def fL_law_c1014 (Ls : Nat) (xs : Nat → Int32) (kh83 : k_S × k_S → Int32 → Option (Int32 × (k_S × k_S))) (s : k_S × k_S) (l6 t0 : Int32) : Option (Int32 × (k_S × k_S)) := k_bn (t0) fun v1 => (if 0 < v1 then k_gd ((nI 33)) 34 ((if s.2.2 0 (Int32.toNatClampNeg ((nI 33))) < v1 then fL_law_c1054 Ls xs kh83 s l6 else k_gd ((nI 33)) 34 (k_gd ((nI 33)) 34 (k_bn (k_sV s 0 ((nI 33)) ((s.2.2 0 (Int32.toNatClampNeg ((nI 33))) - v1))) fun s2 => k_ob (fX6_undo s2.1 (v1)) fun r3 τ4 => k_bn (τ4, s2.2) fun s5 => k_gd ((nI 33)) 34 ((if r3 = s5.2.2 0 (Int32.toNatClampNeg ((nI 33))) then fL_law_c1054 Ls xs kh83 s5 l6 else none)))))) else fL_law_c1054 Ls xs kh83 s l6)
set_option maxRecDepth 100000 in
set_option maxHeartbeats 4000000 in
theorem kL_law_c1014 {X : k_C} {q : Nat → Nat} {b Ls kc ks : Nat} {xs : Nat → Int32} (hX : k_At X b Ls xs) (hk : kc ≤ 600000 ∧ ks ≤ 7302249) (hr : kc + 1 ≤ 600000 ∧ ks + 25 ≤ 7302249) (kh83 : k_S × k_S → Int32 → Option (Int32 × (k_S × k_S))) (hk83 : ∀ (q : Nat → Nat) (s : k_S × k_S) (l6 : Int32), KO X YL (cV 3 (k_I X) q) (kc + 1) (ks + 25) (k_QL X) 83 [some (.ref (b)), some (.ref (q 0)), some (.ref (q 30)), some (.ref (q 31)), some (.ref (q 32)), none, some (.int l6), none, none, none, none, none, none, none, none, none, none, none, none, none] [] s (kh83 s l6)) (s : k_S × k_S) (l6 t0 : Int32) : KO X YL (cV 4 (k_I X) q) kc ks (k_QL X) 1014 [some (.ref (b)), some (.ref (q 0)), some (.ref (q 30)), some (.ref (q 31)), some (.ref (q 32)), none, some (.int l6), none, some (.ref (q 33)), none, none, none, none, none, none, none, none, none, none, none] [.int t0] s (fL_law_c1014 Ls xs kh83 s l6 t0) := by
  unfold fL_law_c1014
  refine k_ist12 (pc := 1014) dL_law_1014 (Nat.le_of_ble_eq_true rfl) (fun v1 => ?_)
  refine k_iload (pc := 1016) dL_law_1016 rfl ?_
  refine k_if_le (pc := 1018) 1054 dL_law_1018 (by decide) ?_ ?_
  · refine k_fg12 ?_
    exact kL_law_c1054 hX hk hr kh83 hk83 s l6
  · refine k_iload (pc := 1021) dL_law_1021 rfl ?_
    refine k_aload_n (pc := 1023) dL_law_1023 rfl ?_
    refine k_bipush (pc := 1024) (v := (nI 33)) dL_law_1024 (by decide) ?_
    refine k_lV4_0 (pc := 1026) dL_law_1026 ?_
    refine k_icmp_gt (pc := 1027) 1054 dL_law_1027 (by decide) ?_ ?_
    · refine k_fg12 ?_
      exact kL_law_c1054 hX hk hr kh83 hk83 s l6
    · refine k_aload_n (pc := 1030) dL_law_1030 rfl ?_
      refine k_bipush (pc := 1031) (v := (nI 33)) dL_law_1031 (by decide) ?_
      refine k_dup2 (pc := 1033) dL_law_1033 rfl rfl ?_
      refine k_lV4_0 (pc := 1034) dL_law_1034 ?_
      refine k_iload (pc := 1035) dL_law_1035 rfl ?_
      refine k_isub (pc := 1037) dL_law_1037 ?_
      refine k_sV4_0 (pc := 1038) dL_law_1038 (fun s2 => ?_)
      refine k_aload_n (pc := 1039) dL_law_1039 rfl ?_
      refine k_iload (pc := 1040) dL_law_1040 rfl ?_
      refine k_LTi1 (pc := 1042) ckX6_undo rfl kwm_L_84 ⟨rfl, rfl⟩ ⟨Nat.le_of_ble_eq_true rfl, Nat.le_of_ble_eq_true rfl⟩ hk (Nat.le_of_ble_eq_true rfl) dL_law_1042 (fun _ _ hf => kX6_undo hf) (fun r3 s5 => ?_)
      refine k_aload_n (pc := 1045) dL_law_1045 rfl ?_
      refine k_bipush (pc := 1046) (v := (nI 33)) dL_law_1046 (by decide) ?_
      refine k_lV4_0 (pc := 1048) dL_law_1048 ?_
      refine k_icmp_eq (pc := 1049) 1054 dL_law_1049 (by decide) ?_ ?_
      · refine k_fg12 ?_
        exact kL_law_c1054 hX hk hr kh83 hk83 s5 l6
      · exact KO.nil
noncomputable def fL_law_c981 (Ls : Nat) (xs : Nat → Int32) (kh83 : k_S × k_S → Int32 → Option (Int32 × (k_S × k_S))) (s : k_S × k_S) (l6 l7 : Int32) : Option (Int32 × (k_S × k_S)) := k_gd ((nI 33)) 34 (k_gd ((nI 33)) 34 (k_bn (k_sV s 0 ((nI 33)) ((s.2.2 0 (Int32.toNatClampNeg ((nI 33))) + (nI 1)))) fun s1 => k_oq (fL_some (((l7 : Int32) >>> (((nI 16) : Int32) &&& 31))) ((nI 5))) fun r2 => (if r2 = 0 then k_oq (fL_some (((l7 : Int32) >>> (((nI 17) : Int32) &&& 31))) ((nI 3))) fun r3 => fL_law_c1014 Ls xs kh83 s1 l6 r3 else fL_law_c1014 Ls xs kh83 s1 l6 ((nI 0)))))
set_option maxRecDepth 100000 in
set_option maxHeartbeats 4000000 in
theorem kL_law_c981 {X : k_C} {q : Nat → Nat} {b Ls kc ks : Nat} {xs : Nat → Int32} (hX : k_At X b Ls xs) (hk : kc ≤ 600000 ∧ ks ≤ 7302249) (hr : kc + 1 ≤ 600000 ∧ ks + 25 ≤ 7302249) (kh83 : k_S × k_S → Int32 → Option (Int32 × (k_S × k_S))) (hk83 : ∀ (q : Nat → Nat) (s : k_S × k_S) (l6 : Int32), KO X YL (cV 3 (k_I X) q) (kc + 1) (ks + 25) (k_QL X) 83 [some (.ref (b)), some (.ref (q 0)), some (.ref (q 30)), some (.ref (q 31)), some (.ref (q 32)), none, some (.int l6), none, none, none, none, none, none, none, none, none, none, none, none, none] [] s (kh83 s l6)) (s : k_S × k_S) (l6 l7 : Int32) : KO X YL (cV 4 (k_I X) q) kc ks (k_QL X) 981 [some (.ref (b)), some (.ref (q 0)), some (.ref (q 30)), some (.ref (q 31)), some (.ref (q 32)), none, some (.int l6), some (.int l7), some (.ref (q 33)), none, none, none, none, none, none, none, none, none, none, none] [] s (fL_law_c981 Ls xs kh83 s l6 l7) := by
  unfold fL_law_c981
  refine k_aload_n (pc := 981) dL_law_981 rfl ?_
  refine k_bipush (pc := 982) (v := (nI 33)) dL_law_982 (by decide) ?_
  refine k_dup2 (pc := 984) dL_law_984 rfl rfl ?_
  refine k_lV4_0 (pc := 985) dL_law_985 ?_
  refine k_iconst (pc := 986) (v := (nI 1)) dL_law_986 (by decide) ?_
  refine k_iadd (pc := 987) dL_law_987 ?_
  refine k_sV4_0 (pc := 988) dL_law_988 (fun s1 => ?_)
  refine k_iload (pc := 989) dL_law_989 rfl ?_
  refine k_bipush (pc := 991) (v := (nI 16)) dL_law_991 (by decide) ?_
  refine k_ishr (pc := 993) dL_law_993 ?_
  refine k_iconst (pc := 994) (v := (nI 5)) dL_law_994 (by decide) ?_
  refine k_cq (pc := 995) (n := 2) (W0 := ([] : va_W)) (As := [.int (((l7 : Int32) >>> (((nI 16) : Int32) &&& 31))), .int ((nI 5))]) [] (by decide) rfl ckL_some kwm_L_15 rfl ⟨rfl, rfl⟩ ⟨Nat.le_of_ble_eq_true rfl, Nat.le_of_ble_eq_true rfl⟩ hk (Nat.le_of_ble_eq_true rfl) dL_law_995 rfl (fun _ _ hf => kL_some hf) (fun r2 => ?_)
  refine k_if_ne (pc := 998) 1013 dL_law_998 (by decide) ?_ ?_
  · refine k_iconst (pc := 1013) (v := (nI 0)) dL_law_1013 (by decide) ?_
    refine k_fg7 ?_
    exact kL_law_c1014 hX hk hr kh83 hk83 s1 l6 ((nI 0))
  · refine k_iload (pc := 1001) dL_law_1001 rfl ?_
    refine k_bipush (pc := 1003) (v := (nI 17)) dL_law_1003 (by decide) ?_
    refine k_ishr (pc := 1005) dL_law_1005 ?_
    refine k_iconst (pc := 1006) (v := (nI 3)) dL_law_1006 (by decide) ?_
    refine k_cq (pc := 1007) (n := 2) (W0 := ([] : va_W)) (As := [.int (((l7 : Int32) >>> (((nI 17) : Int32) &&& 31))), .int ((nI 3))]) [] (by decide) rfl ckL_some kwm_L_15 rfl ⟨rfl, rfl⟩ ⟨Nat.le_of_ble_eq_true rfl, Nat.le_of_ble_eq_true rfl⟩ hk (Nat.le_of_ble_eq_true rfl) dL_law_1007 rfl (fun _ _ hf => kL_some hf) (fun r3 => ?_)
    refine k_goto (pc := 1010) 1014 dL_law_1010 (by decide) ?_
    refine k_fg7 ?_
    exact kL_law_c1014 hX hk hr kh83 hk83 s1 l6 r3
noncomputable def fL_law_c946 (Ls : Nat) (xs : Nat → Int32) (kh83 : k_S × k_S → Int32 → Option (Int32 × (k_S × k_S))) : Nat → k_S × k_S → Int32 → Int32 → Int32 → Option (Int32 × (k_S × k_S))
  | 0, _, _, _, _ => none
  | n + 1, s, l6, l7, l12 => (if l12 < (nI 5) then k_gd ((nI 33)) 34 (k_gd (l12) 5 (k_gd ((((nI 5) * s.2.2 0 (Int32.toNatClampNeg ((nI 33)))) + l12)) 60 (k_bn (k_sV s 1 ((((nI 5) * s.2.2 0 (Int32.toNatClampNeg ((nI 33)))) + l12)) (s.2.2 2 (Int32.toNatClampNeg (l12)))) fun s1 => k_gd (l12) 5 (k_bn (k_sV s1 2 (l12) ((k_ng 9))) fun s2 => k_bn (l12 + (nI 1)) fun v3 => fL_law_c946 Ls xs kh83 n s2 l6 l7 v3)))) else fL_law_c981 Ls xs kh83 s l6 l7)
theorem fL_law_c946_s (Ls : Nat) (xs : Nat → Int32) (kh83 : k_S × k_S → Int32 → Option (Int32 × (k_S × k_S))) (n : Nat) (s : k_S × k_S) (l6 l7 l12 : Int32) : fL_law_c946 Ls xs kh83 (n + 1) s l6 l7 l12 = (if l12 < (nI 5) then k_gd ((nI 33)) 34 (k_gd (l12) 5 (k_gd ((((nI 5) * s.2.2 0 (Int32.toNatClampNeg ((nI 33)))) + l12)) 60 (k_bn (k_sV s 1 ((((nI 5) * s.2.2 0 (Int32.toNatClampNeg ((nI 33)))) + l12)) (s.2.2 2 (Int32.toNatClampNeg (l12)))) fun s1 => k_gd (l12) 5 (k_bn (k_sV s1 2 (l12) ((k_ng 9))) fun s2 => k_bn (l12 + (nI 1)) fun v3 => fL_law_c946 Ls xs kh83 n s2 l6 l7 v3)))) else fL_law_c981 Ls xs kh83 s l6 l7) := rfl
set_option maxRecDepth 100000 in
set_option maxHeartbeats 4000000 in
theorem kL_law_c946 {X : k_C} {q : Nat → Nat} {b Ls kc ks : Nat} {xs : Nat → Int32} (hX : k_At X b Ls xs) (hk : kc ≤ 600000 ∧ ks ≤ 7302249) (hr : kc + 1 ≤ 600000 ∧ ks + 25 ≤ 7302249) (kh83 : k_S × k_S → Int32 → Option (Int32 × (k_S × k_S))) (hk83 : ∀ (q : Nat → Nat) (s : k_S × k_S) (l6 : Int32), KO X YL (cV 3 (k_I X) q) (kc + 1) (ks + 25) (k_QL X) 83 [some (.ref (b)), some (.ref (q 0)), some (.ref (q 30)), some (.ref (q 31)), some (.ref (q 32)), none, some (.int l6), none, none, none, none, none, none, none, none, none, none, none, none, none] [] s (kh83 s l6)) : ∀ (n : Nat) (s : k_S × k_S) (l6 l7 l12 : Int32), KO X YL (cV 4 (k_I X) q) kc ks (k_QL X) 946 [some (.ref (b)), some (.ref (q 0)), some (.ref (q 30)), some (.ref (q 31)), some (.ref (q 32)), none, some (.int l6), some (.int l7), some (.ref (q 33)), none, none, none, some (.int l12), none, none, none, none, none, none, none] [] s (fL_law_c946 Ls xs kh83 n s l6 l7 l12) := by
  intro n
  induction n with
  | zero => intros; exact KO.nil
  | succ n ih =>
    intro s l6 l7 l12
    rw [fL_law_c946_s]
    refine k_iload (pc := 946) dL_law_946 rfl ?_
    refine k_iconst (pc := 948) (v := (nI 5)) dL_law_948 (by decide) ?_
    refine k_icmp_ge (pc := 949) 981 dL_law_949 (by decide) ?_ ?_
    · refine k_fg12 ?_
      exact kL_law_c981 hX hk hr kh83 hk83 s l6 l7
    · refine k_aload_n (pc := 952) dL_law_952 rfl ?_
      refine k_iconst (pc := 953) (v := (nI 5)) dL_law_953 (by decide) ?_
      refine k_aload_n (pc := 954) dL_law_954 rfl ?_
      refine k_bipush (pc := 955) (v := (nI 33)) dL_law_955 (by decide) ?_
      refine k_lV4_0 (pc := 957) dL_law_957 ?_
      refine k_imul (pc := 958) dL_law_958 ?_
      refine k_iload (pc := 959) dL_law_959 rfl ?_
      refine k_iadd (pc := 961) dL_law_961 ?_
      refine k_aload (pc := 962) dL_law_962 rfl ?_
      refine k_iload (pc := 964) dL_law_964 rfl ?_
      refine k_lV4_2 (pc := 966) dL_law_966 ?_
      refine k_sV4_1 (pc := 967) dL_law_967 (fun s1 => ?_)
      refine k_aload (pc := 968) dL_law_968 rfl ?_
      refine k_iload (pc := 970) dL_law_970 rfl ?_
      refine k_bipush (pc := 972) (v := (k_ng 9)) dL_law_972 (by decide) ?_
      refine k_sV4_2 (pc := 974) dL_law_974 (fun s2 => ?_)
      refine k_iinc12 (pc := 975) (w := (nI 1)) dL_law_975 rfl (by decide) (Nat.le_of_ble_eq_true rfl) (fun v3 => ?_)
      refine k_goto (pc := 978) 946 dL_law_978 (by decide) ?_
      exact ih s2 l6 l7 v3
noncomputable def fL_law_c943 (Ls : Nat) (xs : Nat → Int32) (kh83 : k_S × k_S → Int32 → Option (Int32 × (k_S × k_S))) (s : k_S × k_S) (l6 l7 : Int32) : Option (Int32 × (k_S × k_S)) := k_bn ((nI 0)) fun v1 => fL_law_c946 Ls xs kh83 k_F s l6 l7 v1
set_option maxRecDepth 100000 in
set_option maxHeartbeats 4000000 in
theorem kL_law_c943 {X : k_C} {q : Nat → Nat} {b Ls kc ks : Nat} {xs : Nat → Int32} (hX : k_At X b Ls xs) (hk : kc ≤ 600000 ∧ ks ≤ 7302249) (hr : kc + 1 ≤ 600000 ∧ ks + 25 ≤ 7302249) (kh83 : k_S × k_S → Int32 → Option (Int32 × (k_S × k_S))) (hk83 : ∀ (q : Nat → Nat) (s : k_S × k_S) (l6 : Int32), KO X YL (cV 3 (k_I X) q) (kc + 1) (ks + 25) (k_QL X) 83 [some (.ref (b)), some (.ref (q 0)), some (.ref (q 30)), some (.ref (q 31)), some (.ref (q 32)), none, some (.int l6), none, none, none, none, none, none, none, none, none, none, none, none, none] [] s (kh83 s l6)) (s : k_S × k_S) (l6 l7 : Int32) : KO X YL (cV 4 (k_I X) q) kc ks (k_QL X) 943 [some (.ref (b)), some (.ref (q 0)), some (.ref (q 30)), some (.ref (q 31)), some (.ref (q 32)), none, some (.int l6), some (.int l7), some (.ref (q 33)), none, none, none, none, none, none, none, none, none, none, none] [] s (fL_law_c943 Ls xs kh83 s l6 l7) := by
  unfold fL_law_c943
  refine k_iconst (pc := 943) (v := (nI 0)) dL_law_943 (by decide) ?_
  refine k_ist12 (pc := 944) dL_law_944 (Nat.le_of_ble_eq_true rfl) (fun v1 => ?_)
  exact kL_law_c946 hX hk hr kh83 hk83 k_F s l6 l7 v1
noncomputable def fL_law_c932 (Ls : Nat) (xs : Nat → Int32) (kh83 : k_S × k_S → Int32 → Option (Int32 × (k_S × k_S))) (s : k_S × k_S) (l6 l7 l11 : Int32) : Option (Int32 × (k_S × k_S)) := k_ob (fX6_night s.1) fun r1 τ2 => k_bn (τ2, s.2) fun s3 => (if r1 = l11 then fL_law_c943 Ls xs kh83 s3 l6 l7 else none)
set_option maxRecDepth 100000 in
set_option maxHeartbeats 4000000 in
theorem kL_law_c932 {X : k_C} {q : Nat → Nat} {b Ls kc ks : Nat} {xs : Nat → Int32} (hX : k_At X b Ls xs) (hk : kc ≤ 600000 ∧ ks ≤ 7302249) (hr : kc + 1 ≤ 600000 ∧ ks + 25 ≤ 7302249) (kh83 : k_S × k_S → Int32 → Option (Int32 × (k_S × k_S))) (hk83 : ∀ (q : Nat → Nat) (s : k_S × k_S) (l6 : Int32), KO X YL (cV 3 (k_I X) q) (kc + 1) (ks + 25) (k_QL X) 83 [some (.ref (b)), some (.ref (q 0)), some (.ref (q 30)), some (.ref (q 31)), some (.ref (q 32)), none, some (.int l6), none, none, none, none, none, none, none, none, none, none, none, none, none] [] s (kh83 s l6)) (s : k_S × k_S) (l6 l7 l11 : Int32) : KO X YL (cV 4 (k_I X) q) kc ks (k_QL X) 932 [some (.ref (b)), some (.ref (q 0)), some (.ref (q 30)), some (.ref (q 31)), some (.ref (q 32)), none, some (.int l6), some (.int l7), some (.ref (q 33)), none, none, some (.int l11), none, none, none, none, none, none, none, none] [] s (fL_law_c932 Ls xs kh83 s l6 l7 l11) := by
  unfold fL_law_c932
  refine k_aload_n (pc := 932) dL_law_932 rfl ?_
  refine k_LTi0 (pc := 933) ckX6_night rfl kwm_L_80 ⟨rfl, rfl⟩ ⟨Nat.le_of_ble_eq_true rfl, Nat.le_of_ble_eq_true rfl⟩ hk (Nat.le_of_ble_eq_true rfl) dL_law_933 (fun _ _ hf => kX6_night hf) (fun r1 s3 => ?_)
  refine k_iload (pc := 936) dL_law_936 rfl ?_
  refine k_icmp_eq (pc := 938) 943 dL_law_938 (by decide) ?_ ?_
  · refine k_fg11 ?_
    exact kL_law_c943 hX hk hr kh83 hk83 s3 l6 l7
  · exact KO.nil
noncomputable def fL_law_c897 (Ls : Nat) (xs : Nat → Int32) (kh83 : k_S × k_S → Int32 → Option (Int32 × (k_S × k_S))) : Nat → k_S × k_S → Int32 → Int32 → Int32 → Int32 → Option (Int32 × (k_S × k_S))
  | 0, _, _, _, _, _ => none
  | n + 1, s, l6, l7, l11, l12 => k_gd ((nI 0)) 34 ((if l12 < s.2.2 0 (Int32.toNatClampNeg ((nI 0))) then k_gd ((nI 33)) 34 (k_oq (fL_place (s.2.2 0) (s.2.2 1) (s.2.2 2) (s.2.2 0 (Int32.toNatClampNeg ((nI 33)))) ((nI 0)) (l12)) fun r1 => (if r1 = 0 then k_bn (l12) fun v2 => fL_law_c926 Ls xs kh83 (fL_law_c897 Ls xs kh83 n) s l6 l7 v2 l12 else fL_law_c926 Ls xs kh83 (fL_law_c897 Ls xs kh83 n) s l6 l7 l11 l12)) else fL_law_c932 Ls xs kh83 s l6 l7 l11))
theorem fL_law_c897_s (Ls : Nat) (xs : Nat → Int32) (kh83 : k_S × k_S → Int32 → Option (Int32 × (k_S × k_S))) (n : Nat) (s : k_S × k_S) (l6 l7 l11 l12 : Int32) : fL_law_c897 Ls xs kh83 (n + 1) s l6 l7 l11 l12 = k_gd ((nI 0)) 34 ((if l12 < s.2.2 0 (Int32.toNatClampNeg ((nI 0))) then k_gd ((nI 33)) 34 (k_oq (fL_place (s.2.2 0) (s.2.2 1) (s.2.2 2) (s.2.2 0 (Int32.toNatClampNeg ((nI 33)))) ((nI 0)) (l12)) fun r1 => (if r1 = 0 then k_bn (l12) fun v2 => fL_law_c926 Ls xs kh83 (fL_law_c897 Ls xs kh83 n) s l6 l7 v2 l12 else fL_law_c926 Ls xs kh83 (fL_law_c897 Ls xs kh83 n) s l6 l7 l11 l12)) else fL_law_c932 Ls xs kh83 s l6 l7 l11)) := rfl
set_option maxRecDepth 100000 in
set_option maxHeartbeats 4000000 in
theorem kL_law_c897 {X : k_C} {q : Nat → Nat} {b Ls kc ks : Nat} {xs : Nat → Int32} (hX : k_At X b Ls xs) (hk : kc ≤ 600000 ∧ ks ≤ 7302249) (hr : kc + 1 ≤ 600000 ∧ ks + 25 ≤ 7302249) (kh83 : k_S × k_S → Int32 → Option (Int32 × (k_S × k_S))) (hk83 : ∀ (q : Nat → Nat) (s : k_S × k_S) (l6 : Int32), KO X YL (cV 3 (k_I X) q) (kc + 1) (ks + 25) (k_QL X) 83 [some (.ref (b)), some (.ref (q 0)), some (.ref (q 30)), some (.ref (q 31)), some (.ref (q 32)), none, some (.int l6), none, none, none, none, none, none, none, none, none, none, none, none, none] [] s (kh83 s l6)) : ∀ (n : Nat) (s : k_S × k_S) (l6 l7 l11 l12 : Int32), KO X YL (cV 4 (k_I X) q) kc ks (k_QL X) 897 [some (.ref (b)), some (.ref (q 0)), some (.ref (q 30)), some (.ref (q 31)), some (.ref (q 32)), none, some (.int l6), some (.int l7), some (.ref (q 33)), none, none, some (.int l11), some (.int l12), none, none, none, none, none, none, none] [] s (fL_law_c897 Ls xs kh83 n s l6 l7 l11 l12) := by
  intro n
  induction n with
  | zero => intros; exact KO.nil
  | succ n ih =>
    intro s l6 l7 l11 l12
    rw [fL_law_c897_s]
    refine k_iload (pc := 897) dL_law_897 rfl ?_
    refine k_aload_n (pc := 899) dL_law_899 rfl ?_
    refine k_iconst (pc := 900) (v := (nI 0)) dL_law_900 (by decide) ?_
    refine k_lV4_0 (pc := 901) dL_law_901 ?_
    refine k_icmp_ge (pc := 902) 932 dL_law_902 (by decide) ?_ ?_
    · refine k_fg12 ?_
      exact kL_law_c932 hX hk hr kh83 hk83 s l6 l7 l11
    · refine k_aload_n (pc := 905) dL_law_905 rfl ?_
      refine k_aload_n (pc := 906) dL_law_906 rfl ?_
      refine k_aload_n (pc := 907) dL_law_907 rfl ?_
      refine k_bipush (pc := 908) (v := (nI 33)) dL_law_908 (by decide) ?_
      refine k_lV4_0 (pc := 910) dL_law_910 ?_
      refine k_aload (pc := 911) dL_law_911 rfl ?_
      refine k_iconst (pc := 913) (v := (nI 0)) dL_law_913 (by decide) ?_
      refine k_iload (pc := 914) dL_law_914 rfl ?_
      refine k_cq (pc := 916) (n := 6) (W0 := cR (k_I X) (fun k => q (30 + k)) (s.2.2 0) (s.2.2 1) (s.2.2 2)) (As := [.ref (q 30), .ref (q 31), .int (s.2.2 0 (Int32.toNatClampNeg ((nI 33)))), .ref (q 32), .int ((nI 0)), .int (l12)]) [30, 31, 32] (by decide) rfl ckL_place kwm_L_67 rfl ⟨rfl, rfl⟩ ⟨Nat.le_of_ble_eq_true rfl, Nat.le_of_ble_eq_true rfl⟩ hk (Nat.le_of_ble_eq_true rfl) dL_law_916 rfl (fun _ _ hf => kL_place (q := (fun k => q (30 + k))) (g := (s.2.2 0)) (b := (s.2.2 1)) (r := (s.2.2 2)) hf) (fun r1 => ?_)
      refine k_if_ne (pc := 919) 926 dL_law_919 (by decide) ?_ ?_
      · exact kL_law_c926 hX hk hr kh83 hk83 (fL_law_c897 Ls xs kh83 n) ih s l6 l7 l11 l12
      · refine k_iload (pc := 922) dL_law_922 rfl ?_
        refine k_ist11 (pc := 924) dL_law_924 (Nat.le_of_ble_eq_true rfl) (fun v2 => ?_)
        exact kL_law_c926 hX hk hr kh83 hk83 (fL_law_c897 Ls xs kh83 n) ih s l6 l7 v2 l12
noncomputable def fL_law_c891 (Ls : Nat) (xs : Nat → Int32) (kh83 : k_S × k_S → Int32 → Option (Int32 × (k_S × k_S))) (s : k_S × k_S) (l6 l7 : Int32) : Option (Int32 × (k_S × k_S)) := k_bn ((nI 0)) fun v1 => k_bn ((nI 0)) fun v2 => fL_law_c897 Ls xs kh83 k_F s l6 l7 v1 v2
set_option maxRecDepth 100000 in
set_option maxHeartbeats 4000000 in
theorem kL_law_c891 {X : k_C} {q : Nat → Nat} {b Ls kc ks : Nat} {xs : Nat → Int32} (hX : k_At X b Ls xs) (hk : kc ≤ 600000 ∧ ks ≤ 7302249) (hr : kc + 1 ≤ 600000 ∧ ks + 25 ≤ 7302249) (kh83 : k_S × k_S → Int32 → Option (Int32 × (k_S × k_S))) (hk83 : ∀ (q : Nat → Nat) (s : k_S × k_S) (l6 : Int32), KO X YL (cV 3 (k_I X) q) (kc + 1) (ks + 25) (k_QL X) 83 [some (.ref (b)), some (.ref (q 0)), some (.ref (q 30)), some (.ref (q 31)), some (.ref (q 32)), none, some (.int l6), none, none, none, none, none, none, none, none, none, none, none, none, none] [] s (kh83 s l6)) (s : k_S × k_S) (l6 l7 : Int32) : KO X YL (cV 4 (k_I X) q) kc ks (k_QL X) 891 [some (.ref (b)), some (.ref (q 0)), some (.ref (q 30)), some (.ref (q 31)), some (.ref (q 32)), none, some (.int l6), some (.int l7), some (.ref (q 33)), none, none, none, none, none, none, none, none, none, none, none] [] s (fL_law_c891 Ls xs kh83 s l6 l7) := by
  unfold fL_law_c891
  refine k_iconst (pc := 891) (v := (nI 0)) dL_law_891 (by decide) ?_
  refine k_ist11 (pc := 892) dL_law_892 (Nat.le_of_ble_eq_true rfl) (fun v1 => ?_)
  refine k_iconst (pc := 894) (v := (nI 0)) dL_law_894 (by decide) ?_
  refine k_ist12 (pc := 895) dL_law_895 (Nat.le_of_ble_eq_true rfl) (fun v2 => ?_)
  exact kL_law_c897 hX hk hr kh83 hk83 k_F s l6 l7 v1 v2
noncomputable def fL_law_c878 (Ls : Nat) (xs : Nat → Int32) (kh83 : k_S × k_S → Int32 → Option (Int32 × (k_S × k_S))) (s : k_S × k_S) (l6 l7 l9 l10 : Int32) : Option (Int32 × (k_S × k_S)) := k_ob (fX6_bishop s.1 (l9)) fun r1 τ2 => k_bn (τ2, s.2) fun s3 => (if r1 = l10 then fL_law_c891 Ls xs kh83 s3 l6 l7 else none)
set_option maxRecDepth 100000 in
set_option maxHeartbeats 4000000 in
theorem kL_law_c878 {X : k_C} {q : Nat → Nat} {b Ls kc ks : Nat} {xs : Nat → Int32} (hX : k_At X b Ls xs) (hk : kc ≤ 600000 ∧ ks ≤ 7302249) (hr : kc + 1 ≤ 600000 ∧ ks + 25 ≤ 7302249) (kh83 : k_S × k_S → Int32 → Option (Int32 × (k_S × k_S))) (hk83 : ∀ (q : Nat → Nat) (s : k_S × k_S) (l6 : Int32), KO X YL (cV 3 (k_I X) q) (kc + 1) (ks + 25) (k_QL X) 83 [some (.ref (b)), some (.ref (q 0)), some (.ref (q 30)), some (.ref (q 31)), some (.ref (q 32)), none, some (.int l6), none, none, none, none, none, none, none, none, none, none, none, none, none] [] s (kh83 s l6)) (s : k_S × k_S) (l6 l7 l9 l10 : Int32) : KO X YL (cV 4 (k_I X) q) kc ks (k_QL X) 878 [some (.ref (b)), some (.ref (q 0)), some (.ref (q 30)), some (.ref (q 31)), some (.ref (q 32)), none, some (.int l6), some (.int l7), some (.ref (q 33)), some (.int l9), some (.int l10), none, none, none, none, none, none, none, none, none] [] s (fL_law_c878 Ls xs kh83 s l6 l7 l9 l10) := by
  unfold fL_law_c878
  refine k_aload_n (pc := 878) dL_law_878 rfl ?_
  refine k_iload (pc := 879) dL_law_879 rfl ?_
  refine k_LTi1 (pc := 881) ckX6_bishop rfl kwm_L_77 ⟨rfl, rfl⟩ ⟨Nat.le_of_ble_eq_true rfl, Nat.le_of_ble_eq_true rfl⟩ hk (Nat.le_of_ble_eq_true rfl) dL_law_881 (fun _ _ hf => kX6_bishop hf) (fun r1 s3 => ?_)
  refine k_iload (pc := 884) dL_law_884 rfl ?_
  refine k_icmp_eq (pc := 886) 891 dL_law_886 (by decide) ?_ ?_
  · refine k_fg9 ?_
    refine k_fg10 ?_
    exact kL_law_c891 hX hk hr kh83 hk83 s3 l6 l7
  · exact KO.nil
noncomputable def fL_law_c827 (Ls : Nat) (xs : Nat → Int32) (kh83 : k_S × k_S → Int32 → Option (Int32 × (k_S × k_S))) : Nat → k_S × k_S → Int32 → Int32 → Int32 → Int32 → Int32 → Option (Int32 × (k_S × k_S))
  | 0, _, _, _, _, _, _ => none
  | n + 1, s, l6, l7, l9, l10, l11 => k_gd ((nI 0)) 34 ((if l11 < s.2.2 0 (Int32.toNatClampNeg ((nI 0))) then k_gd (l11) 5 ((if s.2.2 2 (Int32.toNatClampNeg (l11)) < 0 then fL_law_c868 Ls xs kh83 (fL_law_c827 Ls xs kh83 n) s l6 l7 l9 l11 l10 else k_gd ((nI 33)) 34 (k_gd (l11) 5 (k_oq (fL_tall (s.2.2 0) (s.2.2 1) (s.2.2 0 (Int32.toNatClampNeg ((nI 33)))) (s.2.2 2 (Int32.toNatClampNeg (l11)))) fun r1 => (if r1 < l9 then fL_law_c868 Ls xs kh83 (fL_law_c827 Ls xs kh83 n) s l6 l7 l9 l11 l10 else fL_law_c869 Ls xs kh83 (fL_law_c827 Ls xs kh83 n) s l6 l7 l9 l11 l10 ((nI 1))))))) else fL_law_c878 Ls xs kh83 s l6 l7 l9 l10))
theorem fL_law_c827_s (Ls : Nat) (xs : Nat → Int32) (kh83 : k_S × k_S → Int32 → Option (Int32 × (k_S × k_S))) (n : Nat) (s : k_S × k_S) (l6 l7 l9 l10 l11 : Int32) : fL_law_c827 Ls xs kh83 (n + 1) s l6 l7 l9 l10 l11 = k_gd ((nI 0)) 34 ((if l11 < s.2.2 0 (Int32.toNatClampNeg ((nI 0))) then k_gd (l11) 5 ((if s.2.2 2 (Int32.toNatClampNeg (l11)) < 0 then fL_law_c868 Ls xs kh83 (fL_law_c827 Ls xs kh83 n) s l6 l7 l9 l11 l10 else k_gd ((nI 33)) 34 (k_gd (l11) 5 (k_oq (fL_tall (s.2.2 0) (s.2.2 1) (s.2.2 0 (Int32.toNatClampNeg ((nI 33)))) (s.2.2 2 (Int32.toNatClampNeg (l11)))) fun r1 => (if r1 < l9 then fL_law_c868 Ls xs kh83 (fL_law_c827 Ls xs kh83 n) s l6 l7 l9 l11 l10 else fL_law_c869 Ls xs kh83 (fL_law_c827 Ls xs kh83 n) s l6 l7 l9 l11 l10 ((nI 1))))))) else fL_law_c878 Ls xs kh83 s l6 l7 l9 l10)) := rfl
set_option maxRecDepth 100000 in
set_option maxHeartbeats 4000000 in
theorem kL_law_c827 {X : k_C} {q : Nat → Nat} {b Ls kc ks : Nat} {xs : Nat → Int32} (hX : k_At X b Ls xs) (hk : kc ≤ 600000 ∧ ks ≤ 7302249) (hr : kc + 1 ≤ 600000 ∧ ks + 25 ≤ 7302249) (kh83 : k_S × k_S → Int32 → Option (Int32 × (k_S × k_S))) (hk83 : ∀ (q : Nat → Nat) (s : k_S × k_S) (l6 : Int32), KO X YL (cV 3 (k_I X) q) (kc + 1) (ks + 25) (k_QL X) 83 [some (.ref (b)), some (.ref (q 0)), some (.ref (q 30)), some (.ref (q 31)), some (.ref (q 32)), none, some (.int l6), none, none, none, none, none, none, none, none, none, none, none, none, none] [] s (kh83 s l6)) : ∀ (n : Nat) (s : k_S × k_S) (l6 l7 l9 l10 l11 : Int32), KO X YL (cV 4 (k_I X) q) kc ks (k_QL X) 827 [some (.ref (b)), some (.ref (q 0)), some (.ref (q 30)), some (.ref (q 31)), some (.ref (q 32)), none, some (.int l6), some (.int l7), some (.ref (q 33)), some (.int l9), some (.int l10), some (.int l11), none, none, none, none, none, none, none, none] [] s (fL_law_c827 Ls xs kh83 n s l6 l7 l9 l10 l11) := by
  intro n
  induction n with
  | zero => intros; exact KO.nil
  | succ n ih =>
    intro s l6 l7 l9 l10 l11
    rw [fL_law_c827_s]
    refine k_iload (pc := 827) dL_law_827 rfl ?_
    refine k_aload_n (pc := 829) dL_law_829 rfl ?_
    refine k_iconst (pc := 830) (v := (nI 0)) dL_law_830 (by decide) ?_
    refine k_lV4_0 (pc := 831) dL_law_831 ?_
    refine k_icmp_ge (pc := 832) 878 dL_law_832 (by decide) ?_ ?_
    · refine k_fg11 ?_
      exact kL_law_c878 hX hk hr kh83 hk83 s l6 l7 l9 l10
    · refine k_iload (pc := 835) dL_law_835 rfl ?_
      refine k_aload (pc := 837) dL_law_837 rfl ?_
      refine k_iload (pc := 839) dL_law_839 rfl ?_
      refine k_lV4_2 (pc := 841) dL_law_841 ?_
      refine k_if_lt (pc := 842) 868 dL_law_842 (by decide) ?_ ?_
      · refine k_fg10 ?_
        exact kL_law_c868 hX hk hr kh83 hk83 (fL_law_c827 Ls xs kh83 n) ih s l6 l7 l9 l11 l10
      · refine k_aload_n (pc := 845) dL_law_845 rfl ?_
        refine k_aload_n (pc := 846) dL_law_846 rfl ?_
        refine k_aload_n (pc := 847) dL_law_847 rfl ?_
        refine k_bipush (pc := 848) (v := (nI 33)) dL_law_848 (by decide) ?_
        refine k_lV4_0 (pc := 850) dL_law_850 ?_
        refine k_aload (pc := 851) dL_law_851 rfl ?_
        refine k_iload (pc := 853) dL_law_853 rfl ?_
        refine k_lV4_2 (pc := 855) dL_law_855 ?_
        refine k_cq (pc := 856) (n := 4) (W0 := cR (k_I X) (fun k => q (30 + k)) (s.2.2 0) (s.2.2 1) (s.2.2 2)) (As := [.ref (q 30), .ref (q 31), .int (s.2.2 0 (Int32.toNatClampNeg ((nI 33)))), .int (s.2.2 2 (Int32.toNatClampNeg (l11)))]) [30, 31, 32] (by decide) rfl ckL_tall kwm_L_35 rfl ⟨rfl, rfl⟩ ⟨Nat.le_of_ble_eq_true rfl, Nat.le_of_ble_eq_true rfl⟩ hk (Nat.le_of_ble_eq_true rfl) dL_law_856 rfl (fun _ _ hf => kL_tall (q := (fun k => q (30 + k))) (g := (s.2.2 0)) (b := (s.2.2 1)) (r := (s.2.2 2)) hf) (fun r1 => ?_)
        refine k_iload (pc := 859) dL_law_859 rfl ?_
        refine k_icmp_lt (pc := 861) 868 dL_law_861 (by decide) ?_ ?_
        · refine k_fg10 ?_
          exact kL_law_c868 hX hk hr kh83 hk83 (fL_law_c827 Ls xs kh83 n) ih s l6 l7 l9 l11 l10
        · refine k_iconst (pc := 864) (v := (nI 1)) dL_law_864 (by decide) ?_
          refine k_goto (pc := 865) 869 dL_law_865 (by decide) ?_
          refine k_fg10 ?_
          exact kL_law_c869 hX hk hr kh83 hk83 (fL_law_c827 Ls xs kh83 n) ih s l6 l7 l9 l11 l10 ((nI 1))
noncomputable def fL_law_c821 (Ls : Nat) (xs : Nat → Int32) (kh83 : k_S × k_S → Int32 → Option (Int32 × (k_S × k_S))) (s : k_S × k_S) (l6 l7 l9 : Int32) : Option (Int32 × (k_S × k_S)) := k_bn ((nI 0)) fun v1 => k_bn ((nI 0)) fun v2 => fL_law_c827 Ls xs kh83 k_F s l6 l7 l9 v1 v2
set_option maxRecDepth 100000 in
set_option maxHeartbeats 4000000 in
theorem kL_law_c821 {X : k_C} {q : Nat → Nat} {b Ls kc ks : Nat} {xs : Nat → Int32} (hX : k_At X b Ls xs) (hk : kc ≤ 600000 ∧ ks ≤ 7302249) (hr : kc + 1 ≤ 600000 ∧ ks + 25 ≤ 7302249) (kh83 : k_S × k_S → Int32 → Option (Int32 × (k_S × k_S))) (hk83 : ∀ (q : Nat → Nat) (s : k_S × k_S) (l6 : Int32), KO X YL (cV 3 (k_I X) q) (kc + 1) (ks + 25) (k_QL X) 83 [some (.ref (b)), some (.ref (q 0)), some (.ref (q 30)), some (.ref (q 31)), some (.ref (q 32)), none, some (.int l6), none, none, none, none, none, none, none, none, none, none, none, none, none] [] s (kh83 s l6)) (s : k_S × k_S) (l6 l7 l9 : Int32) : KO X YL (cV 4 (k_I X) q) kc ks (k_QL X) 821 [some (.ref (b)), some (.ref (q 0)), some (.ref (q 30)), some (.ref (q 31)), some (.ref (q 32)), none, some (.int l6), some (.int l7), some (.ref (q 33)), some (.int l9), none, none, none, none, none, none, none, none, none, none] [] s (fL_law_c821 Ls xs kh83 s l6 l7 l9) := by
  unfold fL_law_c821
  refine k_iconst (pc := 821) (v := (nI 0)) dL_law_821 (by decide) ?_
  refine k_ist10 (pc := 822) dL_law_822 (Nat.le_of_ble_eq_true rfl) (fun v1 => ?_)
  refine k_iconst (pc := 824) (v := (nI 0)) dL_law_824 (by decide) ?_
  refine k_ist11 (pc := 825) dL_law_825 (Nat.le_of_ble_eq_true rfl) (fun v2 => ?_)
  exact kL_law_c827 hX hk hr kh83 hk83 k_F s l6 l7 l9 v1 v2
noncomputable def fL_law_c816 (Ls : Nat) (xs : Nat → Int32) (kh83 : k_S × k_S → Int32 → Option (Int32 × (k_S × k_S))) (s : k_S × k_S) (l6 l7 t0 t1 : Int32) : Option (Int32 × (k_S × k_S)) := k_oq (fL_some (t0) (t1)) fun r1 => k_bn (r1) fun v2 => fL_law_c821 Ls xs kh83 s l6 l7 v2
set_option maxRecDepth 100000 in
set_option maxHeartbeats 4000000 in
theorem kL_law_c816 {X : k_C} {q : Nat → Nat} {b Ls kc ks : Nat} {xs : Nat → Int32} (hX : k_At X b Ls xs) (hk : kc ≤ 600000 ∧ ks ≤ 7302249) (hr : kc + 1 ≤ 600000 ∧ ks + 25 ≤ 7302249) (kh83 : k_S × k_S → Int32 → Option (Int32 × (k_S × k_S))) (hk83 : ∀ (q : Nat → Nat) (s : k_S × k_S) (l6 : Int32), KO X YL (cV 3 (k_I X) q) (kc + 1) (ks + 25) (k_QL X) 83 [some (.ref (b)), some (.ref (q 0)), some (.ref (q 30)), some (.ref (q 31)), some (.ref (q 32)), none, some (.int l6), none, none, none, none, none, none, none, none, none, none, none, none, none] [] s (kh83 s l6)) (s : k_S × k_S) (l6 l7 t0 t1 : Int32) : KO X YL (cV 4 (k_I X) q) kc ks (k_QL X) 816 [some (.ref (b)), some (.ref (q 0)), some (.ref (q 30)), some (.ref (q 31)), some (.ref (q 32)), none, some (.int l6), some (.int l7), some (.ref (q 33)), none, none, none, none, none, none, none, none, none, none, none] [.int t1, .int t0] s (fL_law_c816 Ls xs kh83 s l6 l7 t0 t1) := by
  unfold fL_law_c816
  refine k_cq (pc := 816) (n := 2) (W0 := ([] : va_W)) (As := [.int (t0), .int (t1)]) [] (by decide) rfl ckL_some kwm_L_15 rfl ⟨rfl, rfl⟩ ⟨Nat.le_of_ble_eq_true rfl, Nat.le_of_ble_eq_true rfl⟩ hk (Nat.le_of_ble_eq_true rfl) dL_law_816 rfl (fun _ _ hf => kL_some hf) (fun r1 => ?_)
  refine k_ist9 (pc := 819) dL_law_819 (Nat.le_of_ble_eq_true rfl) (fun v2 => ?_)
  exact kL_law_c821 hX hk hr kh83 hk83 s l6 l7 v2
noncomputable def fL_law_c791 (Ls : Nat) (xs : Nat → Int32) (kh83 : k_S × k_S → Int32 → Option (Int32 × (k_S × k_S))) (s : k_S × k_S) (l6 l7 : Int32) : Option (Int32 × (k_S × k_S)) := k_oq (fL_some (((l7 : Int32) >>> (((nI 14) : Int32) &&& 31))) ((nI 2))) fun r1 => (if r1 = 0 then fL_law_c816 Ls xs kh83 s l6 l7 (((l7 : Int32) >>> (((nI 7) : Int32) &&& 31))) ((nI 1000)) else fL_law_c816 Ls xs kh83 s l6 l7 (((l7 : Int32) >>> (((nI 7) : Int32) &&& 31))) ((nI 60)))
set_option maxRecDepth 100000 in
set_option maxHeartbeats 4000000 in
theorem kL_law_c791 {X : k_C} {q : Nat → Nat} {b Ls kc ks : Nat} {xs : Nat → Int32} (hX : k_At X b Ls xs) (hk : kc ≤ 600000 ∧ ks ≤ 7302249) (hr : kc + 1 ≤ 600000 ∧ ks + 25 ≤ 7302249) (kh83 : k_S × k_S → Int32 → Option (Int32 × (k_S × k_S))) (hk83 : ∀ (q : Nat → Nat) (s : k_S × k_S) (l6 : Int32), KO X YL (cV 3 (k_I X) q) (kc + 1) (ks + 25) (k_QL X) 83 [some (.ref (b)), some (.ref (q 0)), some (.ref (q 30)), some (.ref (q 31)), some (.ref (q 32)), none, some (.int l6), none, none, none, none, none, none, none, none, none, none, none, none, none] [] s (kh83 s l6)) (s : k_S × k_S) (l6 l7 : Int32) : KO X YL (cV 4 (k_I X) q) kc ks (k_QL X) 791 [some (.ref (b)), some (.ref (q 0)), some (.ref (q 30)), some (.ref (q 31)), some (.ref (q 32)), none, some (.int l6), some (.int l7), some (.ref (q 33)), none, none, none, none, none, none, none, none, none, none, none] [] s (fL_law_c791 Ls xs kh83 s l6 l7) := by
  unfold fL_law_c791
  refine k_iload (pc := 791) dL_law_791 rfl ?_
  refine k_bipush (pc := 793) (v := (nI 7)) dL_law_793 (by decide) ?_
  refine k_ishr (pc := 795) dL_law_795 ?_
  refine k_iload (pc := 796) dL_law_796 rfl ?_
  refine k_bipush (pc := 798) (v := (nI 14)) dL_law_798 (by decide) ?_
  refine k_ishr (pc := 800) dL_law_800 ?_
  refine k_iconst (pc := 801) (v := (nI 2)) dL_law_801 (by decide) ?_
  refine k_cq (pc := 802) (n := 2) (W0 := ([] : va_W)) (As := [.int (((l7 : Int32) >>> (((nI 14) : Int32) &&& 31))), .int ((nI 2))]) [] (by decide) rfl ckL_some kwm_L_15 rfl ⟨rfl, rfl⟩ ⟨Nat.le_of_ble_eq_true rfl, Nat.le_of_ble_eq_true rfl⟩ hk (Nat.le_of_ble_eq_true rfl) dL_law_802 rfl (fun _ _ hf => kL_some hf) (fun r1 => ?_)
  refine k_if_ne (pc := 805) 814 dL_law_805 (by decide) ?_ ?_
  · refine k_bipush (pc := 814) (v := (nI 60)) dL_law_814 (by decide) ?_
    exact kL_law_c816 hX hk hr kh83 hk83 s l6 l7 (((l7 : Int32) >>> (((nI 7) : Int32) &&& 31))) ((nI 60))
  · refine k_sipush (pc := 808) (v := (nI 1000)) dL_law_808 (by decide) ?_
    refine k_goto (pc := 811) 816 dL_law_811 (by decide) ?_
    exact kL_law_c816 hX hk hr kh83 hk83 s l6 l7 (((l7 : Int32) >>> (((nI 7) : Int32) &&& 31))) ((nI 1000))
noncomputable def fL_law_c319 (Ls : Nat) (xs : Nat → Int32) (kh83 : k_S × k_S → Int32 → Option (Int32 × (k_S × k_S))) : Nat → k_S × k_S → Int32 → Int32 → Int32 → Option (Int32 × (k_S × k_S))
  | 0, _, _, _, _ => none
  | n + 1, s, l6, l7, l9 => k_gd ((nI 0)) 34 ((if l9 < s.2.2 0 (Int32.toNatClampNeg ((nI 0))) then k_bn ((nI 0)) fun v1 => fL_law_c330 Ls xs kh83 (fL_law_c319 Ls xs kh83 n) k_F s l6 l7 l9 v1 else fL_law_c791 Ls xs kh83 s l6 l7))
theorem fL_law_c319_s (Ls : Nat) (xs : Nat → Int32) (kh83 : k_S × k_S → Int32 → Option (Int32 × (k_S × k_S))) (n : Nat) (s : k_S × k_S) (l6 l7 l9 : Int32) : fL_law_c319 Ls xs kh83 (n + 1) s l6 l7 l9 = k_gd ((nI 0)) 34 ((if l9 < s.2.2 0 (Int32.toNatClampNeg ((nI 0))) then k_bn ((nI 0)) fun v1 => fL_law_c330 Ls xs kh83 (fL_law_c319 Ls xs kh83 n) k_F s l6 l7 l9 v1 else fL_law_c791 Ls xs kh83 s l6 l7)) := rfl
set_option maxRecDepth 100000 in
set_option maxHeartbeats 4000000 in
theorem kL_law_c319 {X : k_C} {q : Nat → Nat} {b Ls kc ks : Nat} {xs : Nat → Int32} (hX : k_At X b Ls xs) (hk : kc ≤ 600000 ∧ ks ≤ 7302249) (hr : kc + 1 ≤ 600000 ∧ ks + 25 ≤ 7302249) (kh83 : k_S × k_S → Int32 → Option (Int32 × (k_S × k_S))) (hk83 : ∀ (q : Nat → Nat) (s : k_S × k_S) (l6 : Int32), KO X YL (cV 3 (k_I X) q) (kc + 1) (ks + 25) (k_QL X) 83 [some (.ref (b)), some (.ref (q 0)), some (.ref (q 30)), some (.ref (q 31)), some (.ref (q 32)), none, some (.int l6), none, none, none, none, none, none, none, none, none, none, none, none, none] [] s (kh83 s l6)) : ∀ (n : Nat) (s : k_S × k_S) (l6 l7 l9 : Int32), KO X YL (cV 4 (k_I X) q) kc ks (k_QL X) 319 [some (.ref (b)), some (.ref (q 0)), some (.ref (q 30)), some (.ref (q 31)), some (.ref (q 32)), none, some (.int l6), some (.int l7), some (.ref (q 33)), some (.int l9), none, none, none, none, none, none, none, none, none, none] [] s (fL_law_c319 Ls xs kh83 n s l6 l7 l9) := by
  intro n
  induction n with
  | zero => intros; exact KO.nil
  | succ n ih =>
    intro s l6 l7 l9
    rw [fL_law_c319_s]
    refine k_iload (pc := 319) dL_law_319 rfl ?_
    refine k_aload_n (pc := 321) dL_law_321 rfl ?_
    refine k_iconst (pc := 322) (v := (nI 0)) dL_law_322 (by decide) ?_
    refine k_lV4_0 (pc := 323) dL_law_323 ?_
    refine k_icmp_ge (pc := 324) 791 dL_law_324 (by decide) ?_ ?_
    · refine k_fg9 ?_
      exact kL_law_c791 hX hk hr kh83 hk83 s l6 l7
    · refine k_iconst (pc := 327) (v := (nI 0)) dL_law_327 (by decide) ?_
      refine k_ist10 (pc := 328) dL_law_328 (Nat.le_of_ble_eq_true rfl) (fun v1 => ?_)
      exact kL_law_c330 hX hk hr kh83 hk83 (fL_law_c319 Ls xs kh83 n) ih k_F s l6 l7 l9 v1
noncomputable def fL_law_c311 (Ls : Nat) (xs : Nat → Int32) (kh83 : k_S × k_S → Int32 → Option (Int32 × (k_S × k_S))) (s : k_S × k_S) (l6 l7 : Int32) : Option (Int32 × (k_S × k_S)) := k_bn (s.1, k_sA s.2 3 (fun _ => 0)) fun s1 => k_bn ((nI 0)) fun v2 => fL_law_c319 Ls xs kh83 k_F s1 l6 l7 v2
set_option maxRecDepth 100000 in
set_option maxHeartbeats 4000000 in
theorem kL_law_c311 {X : k_C} {q : Nat → Nat} {b Ls kc ks : Nat} {xs : Nat → Int32} (hX : k_At X b Ls xs) (hk : kc ≤ 600000 ∧ ks ≤ 7302249) (hr : kc + 2 ≤ 600000 ∧ ks + 30 ≤ 7302249) (kh83 : k_S × k_S → Int32 → Option (Int32 × (k_S × k_S))) (hk83 : ∀ (q : Nat → Nat) (s : k_S × k_S) (l6 : Int32), KO X YL (cV 3 (k_I X) q) (kc + 2) (ks + 30) (k_QL X) 83 [some (.ref (b)), some (.ref (q 0)), some (.ref (q 30)), some (.ref (q 31)), some (.ref (q 32)), none, some (.int l6), none, none, none, none, none, none, none, none, none, none, none, none, none] [] s (kh83 s l6)) (s : k_S × k_S) (l6 l7 : Int32) : KO X YL (cV 3 (k_I X) q) kc ks (k_QL X) 311 [some (.ref (b)), some (.ref (q 0)), some (.ref (q 30)), some (.ref (q 31)), some (.ref (q 32)), none, some (.int l6), some (.int l7), none, none, none, none, none, none, none, none, none, none, none, none] [] s (fL_law_c311 Ls xs kh83 s l6 l7) := by
  unfold fL_law_c311
  refine k_iconst (pc := 311) (v := (nI 5)) dL_law_311 (by decide) ?_
  refine k_newV3 (pc := 312) (show kc + 1 ≤ 600000 by have := hr.1; omega) (show ks + 5 ≤ 7302249 by have := hr.2; omega) dL_law_312 (fun a s1 => ?_)
  replace hk : kc + 1 ≤ 600000 ∧ ks + 5 ≤ 7302249 := ⟨by have := hr.1; omega, by have := hr.2; omega⟩
  replace hr : kc + 1 + 1 ≤ 600000 ∧ ks + 5 + 25 ≤ 7302249 := ⟨by have := hr.1; omega, by have := hr.2; omega⟩
  refine k_astL (pc := 314) 8 dL_law_314 (Nat.le_of_ble_eq_true rfl) ?_
  refine k_iconst (pc := 316) (v := (nI 0)) dL_law_316 (by decide) ?_
  refine k_ist9 (pc := 317) dL_law_317 (Nat.le_of_ble_eq_true rfl) (fun v2 => ?_)
  exact kL_law_c319 hX hk hr kh83 hk83 k_F s1 l6 l7 v2
noncomputable def fL_law_c208 (Ls : Nat) (xs : Nat → Int32) (kh83 : k_S × k_S → Int32 → Option (Int32 × (k_S × k_S))) : Nat → k_S × k_S → Int32 → Int32 → Int32 → Option (Int32 × (k_S × k_S))
  | 0, _, _, _, _ => none
  | n + 1, s, l6, l7, l8 => k_gd ((nI 1)) 34 ((if l8 < s.2.2 0 (Int32.toNatClampNeg ((nI 1))) then k_ob (fX6_ofTale s.1 (l8) ((nI 3))) fun r1 τ2 => k_bn (τ2, s.2) fun s3 => k_gd ((nI 33)) 34 (k_oq (fL_times (s3.2.2 1) (s3.2.2 0 (Int32.toNatClampNeg ((nI 33)))) (l8)) fun r4 => (if r1 = r4 then k_ob (fX6_ofTale s3.1 (l8) ((nI 4))) fun r5 τ6 => k_bn (τ6, s3.2) fun s7 => k_gd ((nI 33)) 34 (k_oq (fL_last (s7.2.2 1) (s7.2.2 0 (Int32.toNatClampNeg ((nI 33)))) (l8)) fun r8 => (if r5 = r8 then k_ob (fX6_ofTale s7.1 (l8) ((nI 5))) fun r9 τ10 => k_bn (τ10, s7.2) fun s11 => k_oq (fL_may (s11.2.2 0) (s11.2.2 1) (l8)) fun r12 => (if r12 = 0 then fL_law_c278 Ls xs kh83 (fL_law_c208 Ls xs kh83 n) s11 l6 l7 l8 r9 ((nI 0)) else fL_law_c278 Ls xs kh83 (fL_law_c208 Ls xs kh83 n) s11 l6 l7 l8 r9 ((nI 1))) else none)) else none)) else fL_law_c311 Ls xs kh83 s l6 l7))
theorem fL_law_c208_s (Ls : Nat) (xs : Nat → Int32) (kh83 : k_S × k_S → Int32 → Option (Int32 × (k_S × k_S))) (n : Nat) (s : k_S × k_S) (l6 l7 l8 : Int32) : fL_law_c208 Ls xs kh83 (n + 1) s l6 l7 l8 = k_gd ((nI 1)) 34 ((if l8 < s.2.2 0 (Int32.toNatClampNeg ((nI 1))) then k_ob (fX6_ofTale s.1 (l8) ((nI 3))) fun r1 τ2 => k_bn (τ2, s.2) fun s3 => k_gd ((nI 33)) 34 (k_oq (fL_times (s3.2.2 1) (s3.2.2 0 (Int32.toNatClampNeg ((nI 33)))) (l8)) fun r4 => (if r1 = r4 then k_ob (fX6_ofTale s3.1 (l8) ((nI 4))) fun r5 τ6 => k_bn (τ6, s3.2) fun s7 => k_gd ((nI 33)) 34 (k_oq (fL_last (s7.2.2 1) (s7.2.2 0 (Int32.toNatClampNeg ((nI 33)))) (l8)) fun r8 => (if r5 = r8 then k_ob (fX6_ofTale s7.1 (l8) ((nI 5))) fun r9 τ10 => k_bn (τ10, s7.2) fun s11 => k_oq (fL_may (s11.2.2 0) (s11.2.2 1) (l8)) fun r12 => (if r12 = 0 then fL_law_c278 Ls xs kh83 (fL_law_c208 Ls xs kh83 n) s11 l6 l7 l8 r9 ((nI 0)) else fL_law_c278 Ls xs kh83 (fL_law_c208 Ls xs kh83 n) s11 l6 l7 l8 r9 ((nI 1))) else none)) else none)) else fL_law_c311 Ls xs kh83 s l6 l7)) := rfl
set_option maxRecDepth 100000 in
set_option maxHeartbeats 4000000 in
theorem kL_law_c208 {X : k_C} {q : Nat → Nat} {b Ls kc ks : Nat} {xs : Nat → Int32} (hX : k_At X b Ls xs) (hk : kc ≤ 600000 ∧ ks ≤ 7302249) (hr : kc + 2 ≤ 600000 ∧ ks + 30 ≤ 7302249) (kh83 : k_S × k_S → Int32 → Option (Int32 × (k_S × k_S))) (hk83 : ∀ (q : Nat → Nat) (s : k_S × k_S) (l6 : Int32), KO X YL (cV 3 (k_I X) q) (kc + 2) (ks + 30) (k_QL X) 83 [some (.ref (b)), some (.ref (q 0)), some (.ref (q 30)), some (.ref (q 31)), some (.ref (q 32)), none, some (.int l6), none, none, none, none, none, none, none, none, none, none, none, none, none] [] s (kh83 s l6)) : ∀ (n : Nat) (s : k_S × k_S) (l6 l7 l8 : Int32), KO X YL (cV 3 (k_I X) q) kc ks (k_QL X) 208 [some (.ref (b)), some (.ref (q 0)), some (.ref (q 30)), some (.ref (q 31)), some (.ref (q 32)), none, some (.int l6), some (.int l7), some (.int l8), none, none, none, none, none, none, none, none, none, none, none] [] s (fL_law_c208 Ls xs kh83 n s l6 l7 l8) := by
  intro n
  induction n with
  | zero => intros; exact KO.nil
  | succ n ih =>
    intro s l6 l7 l8
    rw [fL_law_c208_s]
    refine k_iload (pc := 208) dL_law_208 rfl ?_
    refine k_aload_n (pc := 210) dL_law_210 rfl ?_
    refine k_iconst (pc := 211) (v := (nI 1)) dL_law_211 (by decide) ?_
    refine k_lV3_0 (pc := 212) dL_law_212 ?_
    refine k_icmp_ge (pc := 213) 311 dL_law_213 (by decide) ?_ ?_
    · refine k_fg8 ?_
      exact kL_law_c311 hX hk hr kh83 hk83 s l6 l7
    · refine k_aload_n (pc := 216) dL_law_216 rfl ?_
      refine k_iload (pc := 217) dL_law_217 rfl ?_
      refine k_iconst (pc := 219) (v := (nI 3)) dL_law_219 (by decide) ?_
      refine k_LTi2 (pc := 220) ckX6_ofTale rfl kwm_L_61 ⟨rfl, rfl⟩ ⟨Nat.le_of_ble_eq_true rfl, Nat.le_of_ble_eq_true rfl⟩ hk (Nat.le_of_ble_eq_true rfl) dL_law_220 (fun _ _ hf => kX6_ofTale hf) (fun r1 s3 => ?_)
      refine k_aload_n (pc := 223) dL_law_223 rfl ?_
      refine k_aload_n (pc := 224) dL_law_224 rfl ?_
      refine k_bipush (pc := 225) (v := (nI 33)) dL_law_225 (by decide) ?_
      refine k_lV3_0 (pc := 227) dL_law_227 ?_
      refine k_iload (pc := 228) dL_law_228 rfl ?_
      refine k_cq (pc := 230) (n := 3) (W0 := cR (k_I X) (fun k => q (30 + k)) (s3.2.2 0) (s3.2.2 1) (s3.2.2 2)) (As := [.ref (q 31), .int (s3.2.2 0 (Int32.toNatClampNeg ((nI 33)))), .int (l8)]) [30, 31, 32] (by decide) rfl ckL_times kwm_L_32 rfl ⟨rfl, rfl⟩ ⟨Nat.le_of_ble_eq_true rfl, Nat.le_of_ble_eq_true rfl⟩ hk (Nat.le_of_ble_eq_true rfl) dL_law_230 rfl (fun _ _ hf => kL_times (q := (fun k => q (30 + k))) (g := (s3.2.2 0)) (b := (s3.2.2 1)) (r := (s3.2.2 2)) hf) (fun r4 => ?_)
      refine k_icmp_ne (pc := 233) 303 dL_law_233 (by decide) ?_ ?_
      · exact KO.nil
      · refine k_aload_n (pc := 236) dL_law_236 rfl ?_
        refine k_iload (pc := 237) dL_law_237 rfl ?_
        refine k_iconst (pc := 239) (v := (nI 4)) dL_law_239 (by decide) ?_
        refine k_LTi2 (pc := 240) ckX6_ofTale rfl kwm_L_61 ⟨rfl, rfl⟩ ⟨Nat.le_of_ble_eq_true rfl, Nat.le_of_ble_eq_true rfl⟩ hk (Nat.le_of_ble_eq_true rfl) dL_law_240 (fun _ _ hf => kX6_ofTale hf) (fun r5 s7 => ?_)
        refine k_aload_n (pc := 243) dL_law_243 rfl ?_
        refine k_aload_n (pc := 244) dL_law_244 rfl ?_
        refine k_bipush (pc := 245) (v := (nI 33)) dL_law_245 (by decide) ?_
        refine k_lV3_0 (pc := 247) dL_law_247 ?_
        refine k_iload (pc := 248) dL_law_248 rfl ?_
        refine k_cq (pc := 250) (n := 3) (W0 := cR (k_I X) (fun k => q (30 + k)) (s7.2.2 0) (s7.2.2 1) (s7.2.2 2)) (As := [.ref (q 31), .int (s7.2.2 0 (Int32.toNatClampNeg ((nI 33)))), .int (l8)]) [30, 31, 32] (by decide) rfl ckL_last kwm_L_28 rfl ⟨rfl, rfl⟩ ⟨Nat.le_of_ble_eq_true rfl, Nat.le_of_ble_eq_true rfl⟩ hk (Nat.le_of_ble_eq_true rfl) dL_law_250 rfl (fun _ _ hf => kL_last (q := (fun k => q (30 + k))) (g := (s7.2.2 0)) (b := (s7.2.2 1)) (r := (s7.2.2 2)) hf) (fun r8 => ?_)
        refine k_icmp_ne (pc := 253) 303 dL_law_253 (by decide) ?_ ?_
        · exact KO.nil
        · refine k_aload_n (pc := 256) dL_law_256 rfl ?_
          refine k_iload (pc := 257) dL_law_257 rfl ?_
          refine k_iconst (pc := 259) (v := (nI 5)) dL_law_259 (by decide) ?_
          refine k_LTi2 (pc := 260) ckX6_ofTale rfl kwm_L_61 ⟨rfl, rfl⟩ ⟨Nat.le_of_ble_eq_true rfl, Nat.le_of_ble_eq_true rfl⟩ hk (Nat.le_of_ble_eq_true rfl) dL_law_260 (fun _ _ hf => kX6_ofTale hf) (fun r9 s11 => ?_)
          refine k_aload_n (pc := 263) dL_law_263 rfl ?_
          refine k_aload_n (pc := 264) dL_law_264 rfl ?_
          refine k_iload (pc := 265) dL_law_265 rfl ?_
          refine k_cq (pc := 267) (n := 3) (W0 := cR (k_I X) (fun k => q (30 + k)) (s11.2.2 0) (s11.2.2 1) (s11.2.2 2)) (As := [.ref (q 30), .ref (q 31), .int (l8)]) [30, 31, 32] (by decide) rfl ckL_may kwm_L_39 rfl ⟨rfl, rfl⟩ ⟨Nat.le_of_ble_eq_true rfl, Nat.le_of_ble_eq_true rfl⟩ hk (Nat.le_of_ble_eq_true rfl) dL_law_267 rfl (fun _ _ hf => kL_may (q := (fun k => q (30 + k))) (g := (s11.2.2 0)) (b := (s11.2.2 1)) (r := (s11.2.2 2)) hf) (fun r12 => ?_)
          refine k_if_eq (pc := 270) 277 dL_law_270 (by decide) ?_ ?_
          · refine k_iconst (pc := 277) (v := (nI 0)) dL_law_277 (by decide) ?_
            exact kL_law_c278 hX hk hr kh83 hk83 (fL_law_c208 Ls xs kh83 n) ih s11 l6 l7 l8 r9 ((nI 0))
          · refine k_iconst (pc := 273) (v := (nI 1)) dL_law_273 (by decide) ?_
            refine k_goto (pc := 274) 278 dL_law_274 (by decide) ?_
            exact kL_law_c278 hX hk hr kh83 hk83 (fL_law_c208 Ls xs kh83 n) ih s11 l6 l7 l8 r9 ((nI 1))
noncomputable def fL_law_c172 (Ls : Nat) (xs : Nat → Int32) (kh83 : k_S × k_S → Int32 → Option (Int32 × (k_S × k_S))) (s : k_S × k_S) (l6 l7 : Int32) : Option (Int32 × (k_S × k_S)) := k_oq (fL_cell Ls xs (((nI 12) + (l6 - l6 / (nI 6) * (nI 6))))) fun r1 => k_ob (fL_choose s (((r1 : Int32) >>> ((((l6 / (nI 6)) * (nI 4)) : Int32) &&& 31)))) fun r2 s3 => (if r2 = 0 then none else k_bn ((nI 0)) fun v4 => fL_law_c208 Ls xs kh83 k_F s3 l6 l7 v4)
set_option maxRecDepth 100000 in
set_option maxHeartbeats 4000000 in
theorem kL_law_c172 {X : k_C} {q : Nat → Nat} {b Ls kc ks : Nat} {xs : Nat → Int32} (hX : k_At X b Ls xs) (hk : kc ≤ 600000 ∧ ks ≤ 7302249) (hr : kc + 2 ≤ 600000 ∧ ks + 30 ≤ 7302249) (kh83 : k_S × k_S → Int32 → Option (Int32 × (k_S × k_S))) (hk83 : ∀ (q : Nat → Nat) (s : k_S × k_S) (l6 : Int32), KO X YL (cV 3 (k_I X) q) (kc + 2) (ks + 30) (k_QL X) 83 [some (.ref (b)), some (.ref (q 0)), some (.ref (q 30)), some (.ref (q 31)), some (.ref (q 32)), none, some (.int l6), none, none, none, none, none, none, none, none, none, none, none, none, none] [] s (kh83 s l6)) (s : k_S × k_S) (l6 l7 : Int32) : KO X YL (cV 3 (k_I X) q) kc ks (k_QL X) 172 [some (.ref (b)), some (.ref (q 0)), some (.ref (q 30)), some (.ref (q 31)), some (.ref (q 32)), none, some (.int l6), some (.int l7), none, none, none, none, none, none, none, none, none, none, none, none] [] s (fL_law_c172 Ls xs kh83 s l6 l7) := by
  unfold fL_law_c172
  refine k_aload_n (pc := 172) dL_law_172 rfl ?_
  refine k_aload_n (pc := 173) dL_law_173 rfl ?_
  refine k_bipush (pc := 174) (v := (nI 12)) dL_law_174 (by decide) ?_
  refine k_iload (pc := 176) dL_law_176 rfl ?_
  refine k_bipush (pc := 178) (v := (nI 6)) dL_law_178 (by decide) ?_
  refine k_irem (pc := 180) dL_law_180 (by decide) ?_
  refine k_iadd (pc := 181) dL_law_181 ?_
  refine k_cqx (pc := 182) (n := 2) (As := [.ref (b), .int (((nI 12) + (l6 - l6 / (nI 6) * (nI 6))))]) hX.1 ckL_cell kwm_L_9 rfl ⟨rfl, rfl⟩ ⟨Nat.le_of_ble_eq_true rfl, Nat.le_of_ble_eq_true rfl⟩ hk (Nat.le_of_ble_eq_true rfl) dL_law_182 rfl (fun _ _ hf => kL_cell hf) (fun r1 => ?_)
  refine k_iload (pc := 185) dL_law_185 rfl ?_
  refine k_bipush (pc := 187) (v := (nI 6)) dL_law_187 (by decide) ?_
  refine k_idiv (pc := 189) dL_law_189 (by decide) ?_
  refine k_iconst (pc := 190) (v := (nI 4)) dL_law_190 (by decide) ?_
  refine k_imul (pc := 191) dL_law_191 ?_
  refine k_ishr (pc := 192) dL_law_192 ?_
  refine k_aload_n (pc := 193) dL_law_193 rfl ?_
  refine k_aload_n (pc := 194) dL_law_194 rfl ?_
  refine k_aload (pc := 195) dL_law_195 rfl ?_
  refine k_si5 (pc := 197) (cV_same 3 _ _) ckL_choose kwm_L_58 ⟨rfl, rfl⟩ ⟨Nat.le_of_ble_eq_true rfl, Nat.le_of_ble_eq_true rfl⟩ hk (Nat.le_of_ble_eq_true rfl) dL_law_197 (fun _ _ hf => kL_choose hf) (fun r2 s3 => ?_)
  refine k_if_ne (pc := 200) 205 dL_law_200 (by decide) ?_ ?_
  · refine k_iconst (pc := 205) (v := (nI 0)) dL_law_205 (by decide) ?_
    refine k_ist8 (pc := 206) dL_law_206 (Nat.le_of_ble_eq_true rfl) (fun v4 => ?_)
    exact kL_law_c208 hX hk hr kh83 hk83 k_F s3 l6 l7 v4
  · exact KO.nil
noncomputable def fL_law_c149 (Ls : Nat) (xs : Nat → Int32) (kh83 : k_S × k_S → Int32 → Option (Int32 × (k_S × k_S))) (s : k_S × k_S) (l6 l7 t0 : Int32) : Option (Int32 × (k_S × k_S)) := k_bn (t0) fun v1 => k_ob (fX6_memory s.1 (v1)) fun r2 τ3 => k_bn (τ3, s.2) fun s4 => k_gd ((nI 32)) 34 ((if r2 = s4.2.2 0 (Int32.toNatClampNeg ((nI 32))) then k_gd ((nI 32)) 34 (k_bn (k_sV s4 0 ((nI 32)) (v1)) fun s5 => fL_law_c172 Ls xs kh83 s5 l6 l7) else none))
set_option maxRecDepth 100000 in
set_option maxHeartbeats 4000000 in
theorem kL_law_c149 {X : k_C} {q : Nat → Nat} {b Ls kc ks : Nat} {xs : Nat → Int32} (hX : k_At X b Ls xs) (hk : kc ≤ 600000 ∧ ks ≤ 7302249) (hr : kc + 2 ≤ 600000 ∧ ks + 30 ≤ 7302249) (kh83 : k_S × k_S → Int32 → Option (Int32 × (k_S × k_S))) (hk83 : ∀ (q : Nat → Nat) (s : k_S × k_S) (l6 : Int32), KO X YL (cV 3 (k_I X) q) (kc + 2) (ks + 30) (k_QL X) 83 [some (.ref (b)), some (.ref (q 0)), some (.ref (q 30)), some (.ref (q 31)), some (.ref (q 32)), none, some (.int l6), none, none, none, none, none, none, none, none, none, none, none, none, none] [] s (kh83 s l6)) (s : k_S × k_S) (l6 l7 t0 : Int32) : KO X YL (cV 3 (k_I X) q) kc ks (k_QL X) 149 [some (.ref (b)), some (.ref (q 0)), some (.ref (q 30)), some (.ref (q 31)), some (.ref (q 32)), none, some (.int l6), some (.int l7), none, none, none, none, none, none, none, none, none, none, none, none] [.int t0] s (fL_law_c149 Ls xs kh83 s l6 l7 t0) := by
  unfold fL_law_c149
  refine k_ist8 (pc := 149) dL_law_149 (Nat.le_of_ble_eq_true rfl) (fun v1 => ?_)
  refine k_aload_n (pc := 151) dL_law_151 rfl ?_
  refine k_iload (pc := 152) dL_law_152 rfl ?_
  refine k_LTi1 (pc := 154) ckX6_memory rfl kwm_L_54 ⟨rfl, rfl⟩ ⟨Nat.le_of_ble_eq_true rfl, Nat.le_of_ble_eq_true rfl⟩ hk (Nat.le_of_ble_eq_true rfl) dL_law_154 (fun _ _ hf => kX6_memory hf) (fun r2 s4 => ?_)
  refine k_aload_n (pc := 157) dL_law_157 rfl ?_
  refine k_bipush (pc := 158) (v := (nI 32)) dL_law_158 (by decide) ?_
  refine k_lV3_0 (pc := 160) dL_law_160 ?_
  refine k_icmp_eq (pc := 161) 166 dL_law_161 (by decide) ?_ ?_
  · refine k_aload_n (pc := 166) dL_law_166 rfl ?_
    refine k_bipush (pc := 167) (v := (nI 32)) dL_law_167 (by decide) ?_
    refine k_iload (pc := 169) dL_law_169 rfl ?_
    refine k_sV3_0 (pc := 171) dL_law_171 (fun s5 => ?_)
    refine k_fg8 ?_
    exact kL_law_c172 hX hk hr kh83 hk83 s5 l6 l7
  · exact KO.nil
noncomputable def fL_law_c1440 (Ls : Nat) (xs : Nat → Int32) (s : k_S × k_S) (l6 : Int32) : Option (Int32 × (k_S × k_S)) := k_ob (fX6_answer s.1 (l6) ((nI 0))) fun r1 τ2 => k_bn (τ2, s.2) fun s3 => (if r1 = (k_ng 1) then k_ob (fX6_answer s3.1 ((nI 0)) ((nI 2))) fun r4 τ5 => k_bn (τ5, s3.2) fun s6 => (if r4 = (k_ng 2) then k_ob (fX6_borrowed s6.1 ((k_ng 1)) ((nI 0))) fun r7 τ8 => k_bn (τ8, s6.2) fun s9 => (if r7 = (k_ng 1) then k_ob (fX6_borrowed s9.1 ((nI 0)) ((k_ng 1))) fun r10 τ11 => k_bn (τ11, s9.2) fun s12 => (if r10 = (k_ng 2) then k_ob (fX6_bishop s12.1 ((nI 1000))) fun r13 τ14 => k_bn (τ14, s12.2) fun s15 => (if r13 = (k_ng 2) then k_ob (fX6_bishop s15.1 ((k_ng 1))) fun r16 τ17 => k_bn (τ17, s15.2) fun s18 => (if r16 = (k_ng 2) then k_gd ((nI 1)) 34 (k_ob (fX6_ofTale s18.1 (s18.2.2 0 (Int32.toNatClampNeg ((nI 1)))) ((nI 0))) fun r19 τ20 => k_bn (τ20, s18.2) fun s21 => (if r19 = (k_ng 1) then k_ob (fX6_ofTale s21.1 ((nI 0)) ((nI 7))) fun r22 τ23 => k_bn (τ23, s21.2) fun s24 => (if r22 = (k_ng 2) then some (1, s24) else none) else none)) else none) else none) else none) else none) else none) else none)
set_option maxRecDepth 100000 in
set_option maxHeartbeats 4000000 in
theorem kL_law_c1440 {X : k_C} {q : Nat → Nat} {b Ls kc ks : Nat} {xs : Nat → Int32} (hX : k_At X b Ls xs) (hk : kc ≤ 600000 ∧ ks ≤ 7302249) (s : k_S × k_S) (l6 : Int32) : KO X YL (cV 3 (k_I X) q) kc ks (k_QL X) 1440 [some (.ref (b)), some (.ref (q 0)), some (.ref (q 30)), some (.ref (q 31)), some (.ref (q 32)), none, some (.int l6), none, none, none, none, none, none, none, none, none, none, none, none, none] [] s (fL_law_c1440 Ls xs s l6) := by
  unfold fL_law_c1440
  refine k_aload_n (pc := 1440) dL_law_1440 rfl ?_
  refine k_iload (pc := 1441) dL_law_1441 rfl ?_
  refine k_iconst (pc := 1443) (v := (nI 0)) dL_law_1443 (by decide) ?_
  refine k_LTi2 (pc := 1444) ckX6_answer rfl kwm_L_71 ⟨rfl, rfl⟩ ⟨Nat.le_of_ble_eq_true rfl, Nat.le_of_ble_eq_true rfl⟩ hk (Nat.le_of_ble_eq_true rfl) dL_law_1444 (fun _ _ hf => kX6_answer hf) (fun r1 s3 => ?_)
  refine k_iconst (pc := 1447) (v := (k_ng 1)) dL_law_1447 (by decide) ?_
  refine k_icmp_ne (pc := 1448) 1533 dL_law_1448 (by decide) ?_ ?_
  · exact KO.nil
  · refine k_aload_n (pc := 1451) dL_law_1451 rfl ?_
    refine k_iconst (pc := 1452) (v := (nI 0)) dL_law_1452 (by decide) ?_
    refine k_iconst (pc := 1453) (v := (nI 2)) dL_law_1453 (by decide) ?_
    refine k_LTi2 (pc := 1454) ckX6_answer rfl kwm_L_71 ⟨rfl, rfl⟩ ⟨Nat.le_of_ble_eq_true rfl, Nat.le_of_ble_eq_true rfl⟩ hk (Nat.le_of_ble_eq_true rfl) dL_law_1454 (fun _ _ hf => kX6_answer hf) (fun r4 s6 => ?_)
    refine k_bipush (pc := 1457) (v := (k_ng 2)) dL_law_1457 (by decide) ?_
    refine k_icmp_ne (pc := 1459) 1533 dL_law_1459 (by decide) ?_ ?_
    · exact KO.nil
    · refine k_aload_n (pc := 1462) dL_law_1462 rfl ?_
      refine k_iconst (pc := 1463) (v := (k_ng 1)) dL_law_1463 (by decide) ?_
      refine k_iconst (pc := 1464) (v := (nI 0)) dL_law_1464 (by decide) ?_
      refine k_LTi2 (pc := 1465) ckX6_borrowed rfl kwm_L_74 ⟨rfl, rfl⟩ ⟨Nat.le_of_ble_eq_true rfl, Nat.le_of_ble_eq_true rfl⟩ hk (Nat.le_of_ble_eq_true rfl) dL_law_1465 (fun _ _ hf => kX6_borrowed hf) (fun r7 s9 => ?_)
      refine k_iconst (pc := 1468) (v := (k_ng 1)) dL_law_1468 (by decide) ?_
      refine k_icmp_ne (pc := 1469) 1533 dL_law_1469 (by decide) ?_ ?_
      · exact KO.nil
      · refine k_aload_n (pc := 1472) dL_law_1472 rfl ?_
        refine k_iconst (pc := 1473) (v := (nI 0)) dL_law_1473 (by decide) ?_
        refine k_iconst (pc := 1474) (v := (k_ng 1)) dL_law_1474 (by decide) ?_
        refine k_LTi2 (pc := 1475) ckX6_borrowed rfl kwm_L_74 ⟨rfl, rfl⟩ ⟨Nat.le_of_ble_eq_true rfl, Nat.le_of_ble_eq_true rfl⟩ hk (Nat.le_of_ble_eq_true rfl) dL_law_1475 (fun _ _ hf => kX6_borrowed hf) (fun r10 s12 => ?_)
        refine k_bipush (pc := 1478) (v := (k_ng 2)) dL_law_1478 (by decide) ?_
        refine k_icmp_ne (pc := 1480) 1533 dL_law_1480 (by decide) ?_ ?_
        · exact KO.nil
        · refine k_aload_n (pc := 1483) dL_law_1483 rfl ?_
          refine k_sipush (pc := 1484) (v := (nI 1000)) dL_law_1484 (by decide) ?_
          refine k_LTi1 (pc := 1487) ckX6_bishop rfl kwm_L_77 ⟨rfl, rfl⟩ ⟨Nat.le_of_ble_eq_true rfl, Nat.le_of_ble_eq_true rfl⟩ hk (Nat.le_of_ble_eq_true rfl) dL_law_1487 (fun _ _ hf => kX6_bishop hf) (fun r13 s15 => ?_)
          refine k_bipush (pc := 1490) (v := (k_ng 2)) dL_law_1490 (by decide) ?_
          refine k_icmp_ne (pc := 1492) 1533 dL_law_1492 (by decide) ?_ ?_
          · exact KO.nil
          · refine k_aload_n (pc := 1495) dL_law_1495 rfl ?_
            refine k_iconst (pc := 1496) (v := (k_ng 1)) dL_law_1496 (by decide) ?_
            refine k_LTi1 (pc := 1497) ckX6_bishop rfl kwm_L_77 ⟨rfl, rfl⟩ ⟨Nat.le_of_ble_eq_true rfl, Nat.le_of_ble_eq_true rfl⟩ hk (Nat.le_of_ble_eq_true rfl) dL_law_1497 (fun _ _ hf => kX6_bishop hf) (fun r16 s18 => ?_)
            refine k_bipush (pc := 1500) (v := (k_ng 2)) dL_law_1500 (by decide) ?_
            refine k_icmp_ne (pc := 1502) 1533 dL_law_1502 (by decide) ?_ ?_
            · exact KO.nil
            · refine k_aload_n (pc := 1505) dL_law_1505 rfl ?_
              refine k_aload_n (pc := 1506) dL_law_1506 rfl ?_
              refine k_iconst (pc := 1507) (v := (nI 1)) dL_law_1507 (by decide) ?_
              refine k_lV3_0 (pc := 1508) dL_law_1508 ?_
              refine k_iconst (pc := 1509) (v := (nI 0)) dL_law_1509 (by decide) ?_
              refine k_LTi2 (pc := 1510) ckX6_ofTale rfl kwm_L_61 ⟨rfl, rfl⟩ ⟨Nat.le_of_ble_eq_true rfl, Nat.le_of_ble_eq_true rfl⟩ hk (Nat.le_of_ble_eq_true rfl) dL_law_1510 (fun _ _ hf => kX6_ofTale hf) (fun r19 s21 => ?_)
              refine k_iconst (pc := 1513) (v := (k_ng 1)) dL_law_1513 (by decide) ?_
              refine k_icmp_ne (pc := 1514) 1533 dL_law_1514 (by decide) ?_ ?_
              · exact KO.nil
              · refine k_aload_n (pc := 1517) dL_law_1517 rfl ?_
                refine k_iconst (pc := 1518) (v := (nI 0)) dL_law_1518 (by decide) ?_
                refine k_bipush (pc := 1519) (v := (nI 7)) dL_law_1519 (by decide) ?_
                refine k_LTi2 (pc := 1521) ckX6_ofTale rfl kwm_L_61 ⟨rfl, rfl⟩ ⟨Nat.le_of_ble_eq_true rfl, Nat.le_of_ble_eq_true rfl⟩ hk (Nat.le_of_ble_eq_true rfl) dL_law_1521 (fun _ _ hf => kX6_ofTale hf) (fun r22 s24 => ?_)
                refine k_bipush (pc := 1524) (v := (k_ng 2)) dL_law_1524 (by decide) ?_
                refine k_icmp_ne (pc := 1526) 1533 dL_law_1526 (by decide) ?_ ?_
                · exact KO.nil
                · refine k_iconst (pc := 1529) (v := 1) dL_law_1529 (by decide) ?_
                  refine k_goto (pc := 1530) 1534 dL_law_1530 (by decide) ?_
                  exact k_lret (pc := 1534) hX hk dL_law_1534
noncomputable def fL_law_c1371 (Ls : Nat) (xs : Nat → Int32) (s : k_S × k_S) (l6 : Int32) : Option (Int32 × (k_S × k_S)) := k_gd ((nI 33)) 34 (k_ob (fX6_undo s.1 ((s.2.2 0 (Int32.toNatClampNeg ((nI 33))) + (nI 1)))) fun r1 τ2 => k_bn (τ2, s.2) fun s3 => (if r1 = (k_ng 2) then k_ob (fX6_undo s3.1 ((k_ng 1))) fun r4 τ5 => k_bn (τ5, s3.2) fun s6 => (if r4 = (k_ng 2) then k_ob (fX6_lay s6.1 (l6) ((nI 0))) fun r7 τ8 => k_bn (τ8, s6.2) fun s9 => (if r7 = (k_ng 1) then k_ob (fX6_lay s9.1 ((nI 0)) (l6)) fun r10 τ11 => k_bn (τ11, s9.2) fun s12 => (if r10 = (k_ng 1) then k_ob (fX6_tonight s12.1 (l6) ((nI 0))) fun r13 τ14 => k_bn (τ14, s12.2) fun s15 => (if r13 = (k_ng 1) then k_ob (fX6_tonight s15.1 ((nI 0)) ((nI 3))) fun r16 τ17 => k_bn (τ17, s15.2) fun s18 => (if r16 = (k_ng 2) then fL_law_c1440 Ls xs s18 l6 else none) else none) else none) else none) else none) else none))
set_option maxRecDepth 100000 in
set_option maxHeartbeats 4000000 in
theorem kL_law_c1371 {X : k_C} {q : Nat → Nat} {b Ls kc ks : Nat} {xs : Nat → Int32} (hX : k_At X b Ls xs) (hk : kc ≤ 600000 ∧ ks ≤ 7302249) (s : k_S × k_S) (l6 : Int32) : KO X YL (cV 3 (k_I X) q) kc ks (k_QL X) 1371 [some (.ref (b)), some (.ref (q 0)), some (.ref (q 30)), some (.ref (q 31)), some (.ref (q 32)), none, some (.int l6), none, none, none, none, none, none, none, none, none, none, none, none, none] [] s (fL_law_c1371 Ls xs s l6) := by
  unfold fL_law_c1371
  refine k_aload_n (pc := 1371) dL_law_1371 rfl ?_
  refine k_aload_n (pc := 1372) dL_law_1372 rfl ?_
  refine k_bipush (pc := 1373) (v := (nI 33)) dL_law_1373 (by decide) ?_
  refine k_lV3_0 (pc := 1375) dL_law_1375 ?_
  refine k_iconst (pc := 1376) (v := (nI 1)) dL_law_1376 (by decide) ?_
  refine k_iadd (pc := 1377) dL_law_1377 ?_
  refine k_LTi1 (pc := 1378) ckX6_undo rfl kwm_L_84 ⟨rfl, rfl⟩ ⟨Nat.le_of_ble_eq_true rfl, Nat.le_of_ble_eq_true rfl⟩ hk (Nat.le_of_ble_eq_true rfl) dL_law_1378 (fun _ _ hf => kX6_undo hf) (fun r1 s3 => ?_)
  refine k_bipush (pc := 1381) (v := (k_ng 2)) dL_law_1381 (by decide) ?_
  refine k_icmp_ne (pc := 1383) 1533 dL_law_1383 (by decide) ?_ ?_
  · exact KO.nil
  · refine k_aload_n (pc := 1386) dL_law_1386 rfl ?_
    refine k_iconst (pc := 1387) (v := (k_ng 1)) dL_law_1387 (by decide) ?_
    refine k_LTi1 (pc := 1388) ckX6_undo rfl kwm_L_84 ⟨rfl, rfl⟩ ⟨Nat.le_of_ble_eq_true rfl, Nat.le_of_ble_eq_true rfl⟩ hk (Nat.le_of_ble_eq_true rfl) dL_law_1388 (fun _ _ hf => kX6_undo hf) (fun r4 s6 => ?_)
    refine k_bipush (pc := 1391) (v := (k_ng 2)) dL_law_1391 (by decide) ?_
    refine k_icmp_ne (pc := 1393) 1533 dL_law_1393 (by decide) ?_ ?_
    · exact KO.nil
    · refine k_aload_n (pc := 1396) dL_law_1396 rfl ?_
      refine k_iload (pc := 1397) dL_law_1397 rfl ?_
      refine k_iconst (pc := 1399) (v := (nI 0)) dL_law_1399 (by decide) ?_
      refine k_LTi2 (pc := 1400) ckX6_lay rfl kwm_L_90 ⟨rfl, rfl⟩ ⟨Nat.le_of_ble_eq_true rfl, Nat.le_of_ble_eq_true rfl⟩ hk (Nat.le_of_ble_eq_true rfl) dL_law_1400 (fun _ _ hf => kX6_lay hf) (fun r7 s9 => ?_)
      refine k_iconst (pc := 1403) (v := (k_ng 1)) dL_law_1403 (by decide) ?_
      refine k_icmp_ne (pc := 1404) 1533 dL_law_1404 (by decide) ?_ ?_
      · exact KO.nil
      · refine k_aload_n (pc := 1407) dL_law_1407 rfl ?_
        refine k_iconst (pc := 1408) (v := (nI 0)) dL_law_1408 (by decide) ?_
        refine k_iload (pc := 1409) dL_law_1409 rfl ?_
        refine k_LTi2 (pc := 1411) ckX6_lay rfl kwm_L_90 ⟨rfl, rfl⟩ ⟨Nat.le_of_ble_eq_true rfl, Nat.le_of_ble_eq_true rfl⟩ hk (Nat.le_of_ble_eq_true rfl) dL_law_1411 (fun _ _ hf => kX6_lay hf) (fun r10 s12 => ?_)
        refine k_iconst (pc := 1414) (v := (k_ng 1)) dL_law_1414 (by decide) ?_
        refine k_icmp_ne (pc := 1415) 1533 dL_law_1415 (by decide) ?_ ?_
        · exact KO.nil
        · refine k_aload_n (pc := 1418) dL_law_1418 rfl ?_
          refine k_iload (pc := 1419) dL_law_1419 rfl ?_
          refine k_iconst (pc := 1421) (v := (nI 0)) dL_law_1421 (by decide) ?_
          refine k_LTi2 (pc := 1422) ckX6_tonight rfl kwm_L_64 ⟨rfl, rfl⟩ ⟨Nat.le_of_ble_eq_true rfl, Nat.le_of_ble_eq_true rfl⟩ hk (Nat.le_of_ble_eq_true rfl) dL_law_1422 (fun _ _ hf => kX6_tonight hf) (fun r13 s15 => ?_)
          refine k_iconst (pc := 1425) (v := (k_ng 1)) dL_law_1425 (by decide) ?_
          refine k_icmp_ne (pc := 1426) 1533 dL_law_1426 (by decide) ?_ ?_
          · exact KO.nil
          · refine k_aload_n (pc := 1429) dL_law_1429 rfl ?_
            refine k_iconst (pc := 1430) (v := (nI 0)) dL_law_1430 (by decide) ?_
            refine k_iconst (pc := 1431) (v := (nI 3)) dL_law_1431 (by decide) ?_
            refine k_LTi2 (pc := 1432) ckX6_tonight rfl kwm_L_64 ⟨rfl, rfl⟩ ⟨Nat.le_of_ble_eq_true rfl, Nat.le_of_ble_eq_true rfl⟩ hk (Nat.le_of_ble_eq_true rfl) dL_law_1432 (fun _ _ hf => kX6_tonight hf) (fun r16 s18 => ?_)
            refine k_bipush (pc := 1435) (v := (k_ng 2)) dL_law_1435 (by decide) ?_
            refine k_icmp_ne (pc := 1437) 1533 dL_law_1437 (by decide) ?_ ?_
            · exact KO.nil
            · exact kL_law_c1440 hX hk s18 l6
noncomputable def fL_law_c1286 (Ls : Nat) (xs : Nat → Int32) (s : k_S × k_S) : Option (Int32 × (k_S × k_S)) := k_gd ((nI 0)) 34 (k_bn (s.2.2 0 (Int32.toNatClampNeg ((nI 0)))) fun v1 => k_ob (fX6_choose s.1 (v1) ((k_ng 9))) fun r2 τ3 => k_bn (τ3, s.2) fun s4 => (if r2 = (k_ng 1) then k_gd ((nI 1)) 34 (k_ob (fX6_choose s4.1 ((nI 0)) (s4.2.2 0 (Int32.toNatClampNeg ((nI 1))))) fun r5 τ6 => k_bn (τ6, s4.2) fun s7 => (if r5 = (k_ng 1) then k_ob (fX6_choose s7.1 ((nI 0)) ((k_ng 1))) fun r8 τ9 => k_bn (τ9, s7.2) fun s10 => (if r8 = (k_ng 1) then k_ob (fX6_memory s10.1 ((nI 100))) fun r11 τ12 => k_bn (τ12, s10.2) fun s13 => (if r11 = (k_ng 2) then k_ob (fX6_memory s13.1 ((k_ng 1))) fun r14 τ15 => k_bn (τ15, s13.2) fun s16 => (if r14 = (k_ng 2) then k_gd ((nI 33)) 34 (k_ob (fX6_ofNight s16.1 (s16.2.2 0 (Int32.toNatClampNeg ((nI 33)))) ((nI 0)) ((nI 0))) fun r17 τ18 => k_bn (τ18, s16.2) fun s19 => (if r17 = (k_ng 1) then k_ob (fX6_ofNight s19.1 ((k_ng 1)) ((nI 0)) ((nI 0))) fun r20 τ21 => k_bn (τ21, s19.2) fun s22 => (if r20 = (k_ng 1) then fL_law_c1371 Ls xs s22 v1 else none) else none)) else none) else none) else none) else none)) else none))
set_option maxRecDepth 100000 in
set_option maxHeartbeats 4000000 in
theorem kL_law_c1286 {X : k_C} {q : Nat → Nat} {b Ls kc ks : Nat} {xs : Nat → Int32} (hX : k_At X b Ls xs) (hk : kc ≤ 600000 ∧ ks ≤ 7302249) (s : k_S × k_S) : KO X YL (cV 3 (k_I X) q) kc ks (k_QL X) 1286 [some (.ref (b)), some (.ref (q 0)), some (.ref (q 30)), some (.ref (q 31)), some (.ref (q 32)), none, none, none, none, none, none, none, none, none, none, none, none, none, none, none] [] s (fL_law_c1286 Ls xs s) := by
  unfold fL_law_c1286
  refine k_aload_n (pc := 1286) dL_law_1286 rfl ?_
  refine k_iconst (pc := 1287) (v := (nI 0)) dL_law_1287 (by decide) ?_
  refine k_lV3_0 (pc := 1288) dL_law_1288 ?_
  refine k_ist6 (pc := 1289) dL_law_1289 (Nat.le_of_ble_eq_true rfl) (fun v1 => ?_)
  refine k_aload_n (pc := 1291) dL_law_1291 rfl ?_
  refine k_iload (pc := 1292) dL_law_1292 rfl ?_
  refine k_bipush (pc := 1294) (v := (k_ng 9)) dL_law_1294 (by decide) ?_
  refine k_LTi2 (pc := 1296) ckX6_choose rfl kwm_L_43 ⟨rfl, rfl⟩ ⟨Nat.le_of_ble_eq_true rfl, Nat.le_of_ble_eq_true rfl⟩ hk (Nat.le_of_ble_eq_true rfl) dL_law_1296 (fun _ _ hf => kX6_choose hf) (fun r2 s4 => ?_)
  refine k_iconst (pc := 1299) (v := (k_ng 1)) dL_law_1299 (by decide) ?_
  refine k_icmp_ne (pc := 1300) 1533 dL_law_1300 (by decide) ?_ ?_
  · exact KO.nil
  · refine k_aload_n (pc := 1303) dL_law_1303 rfl ?_
    refine k_iconst (pc := 1304) (v := (nI 0)) dL_law_1304 (by decide) ?_
    refine k_aload_n (pc := 1305) dL_law_1305 rfl ?_
    refine k_iconst (pc := 1306) (v := (nI 1)) dL_law_1306 (by decide) ?_
    refine k_lV3_0 (pc := 1307) dL_law_1307 ?_
    refine k_LTi2 (pc := 1308) ckX6_choose rfl kwm_L_43 ⟨rfl, rfl⟩ ⟨Nat.le_of_ble_eq_true rfl, Nat.le_of_ble_eq_true rfl⟩ hk (Nat.le_of_ble_eq_true rfl) dL_law_1308 (fun _ _ hf => kX6_choose hf) (fun r5 s7 => ?_)
    refine k_iconst (pc := 1311) (v := (k_ng 1)) dL_law_1311 (by decide) ?_
    refine k_icmp_ne (pc := 1312) 1533 dL_law_1312 (by decide) ?_ ?_
    · exact KO.nil
    · refine k_aload_n (pc := 1315) dL_law_1315 rfl ?_
      refine k_iconst (pc := 1316) (v := (nI 0)) dL_law_1316 (by decide) ?_
      refine k_iconst (pc := 1317) (v := (k_ng 1)) dL_law_1317 (by decide) ?_
      refine k_LTi2 (pc := 1318) ckX6_choose rfl kwm_L_43 ⟨rfl, rfl⟩ ⟨Nat.le_of_ble_eq_true rfl, Nat.le_of_ble_eq_true rfl⟩ hk (Nat.le_of_ble_eq_true rfl) dL_law_1318 (fun _ _ hf => kX6_choose hf) (fun r8 s10 => ?_)
      refine k_iconst (pc := 1321) (v := (k_ng 1)) dL_law_1321 (by decide) ?_
      refine k_icmp_ne (pc := 1322) 1533 dL_law_1322 (by decide) ?_ ?_
      · exact KO.nil
      · refine k_aload_n (pc := 1325) dL_law_1325 rfl ?_
        refine k_bipush (pc := 1326) (v := (nI 100)) dL_law_1326 (by decide) ?_
        refine k_LTi1 (pc := 1328) ckX6_memory rfl kwm_L_54 ⟨rfl, rfl⟩ ⟨Nat.le_of_ble_eq_true rfl, Nat.le_of_ble_eq_true rfl⟩ hk (Nat.le_of_ble_eq_true rfl) dL_law_1328 (fun _ _ hf => kX6_memory hf) (fun r11 s13 => ?_)
        refine k_bipush (pc := 1331) (v := (k_ng 2)) dL_law_1331 (by decide) ?_
        refine k_icmp_ne (pc := 1333) 1533 dL_law_1333 (by decide) ?_ ?_
        · exact KO.nil
        · refine k_aload_n (pc := 1336) dL_law_1336 rfl ?_
          refine k_iconst (pc := 1337) (v := (k_ng 1)) dL_law_1337 (by decide) ?_
          refine k_LTi1 (pc := 1338) ckX6_memory rfl kwm_L_54 ⟨rfl, rfl⟩ ⟨Nat.le_of_ble_eq_true rfl, Nat.le_of_ble_eq_true rfl⟩ hk (Nat.le_of_ble_eq_true rfl) dL_law_1338 (fun _ _ hf => kX6_memory hf) (fun r14 s16 => ?_)
          refine k_bipush (pc := 1341) (v := (k_ng 2)) dL_law_1341 (by decide) ?_
          refine k_icmp_ne (pc := 1343) 1533 dL_law_1343 (by decide) ?_ ?_
          · exact KO.nil
          · refine k_aload_n (pc := 1346) dL_law_1346 rfl ?_
            refine k_aload_n (pc := 1347) dL_law_1347 rfl ?_
            refine k_bipush (pc := 1348) (v := (nI 33)) dL_law_1348 (by decide) ?_
            refine k_lV3_0 (pc := 1350) dL_law_1350 ?_
            refine k_iconst (pc := 1351) (v := (nI 0)) dL_law_1351 (by decide) ?_
            refine k_iconst (pc := 1352) (v := (nI 0)) dL_law_1352 (by decide) ?_
            refine k_LTi3 (pc := 1353) ckX6_ofNight rfl kwm_L_87 ⟨rfl, rfl⟩ ⟨Nat.le_of_ble_eq_true rfl, Nat.le_of_ble_eq_true rfl⟩ hk (Nat.le_of_ble_eq_true rfl) dL_law_1353 (fun _ _ hf => kX6_ofNight hf) (fun r17 s19 => ?_)
            refine k_iconst (pc := 1356) (v := (k_ng 1)) dL_law_1356 (by decide) ?_
            refine k_icmp_ne (pc := 1357) 1533 dL_law_1357 (by decide) ?_ ?_
            · exact KO.nil
            · refine k_aload_n (pc := 1360) dL_law_1360 rfl ?_
              refine k_iconst (pc := 1361) (v := (k_ng 1)) dL_law_1361 (by decide) ?_
              refine k_iconst (pc := 1362) (v := (nI 0)) dL_law_1362 (by decide) ?_
              refine k_iconst (pc := 1363) (v := (nI 0)) dL_law_1363 (by decide) ?_
              refine k_LTi3 (pc := 1364) ckX6_ofNight rfl kwm_L_87 ⟨rfl, rfl⟩ ⟨Nat.le_of_ble_eq_true rfl, Nat.le_of_ble_eq_true rfl⟩ hk (Nat.le_of_ble_eq_true rfl) dL_law_1364 (fun _ _ hf => kX6_ofNight hf) (fun r20 s22 => ?_)
              refine k_iconst (pc := 1367) (v := (k_ng 1)) dL_law_1367 (by decide) ?_
              refine k_icmp_ne (pc := 1368) 1533 dL_law_1368 (by decide) ?_ ?_
              · exact KO.nil
              · exact kL_law_c1371 hX hk s22 v1
noncomputable def fL_law_c83 (Ls : Nat) (xs : Nat → Int32) : Nat → k_S × k_S → Int32 → Option (Int32 × (k_S × k_S))
  | 0, _, _ => none
  | n + 1, s, l6 => (if l6 < (nI 11) then k_oq (fL_cell Ls xs (((nI 5) + (l6 - l6 / (nI 7) * (nI 7))))) fun r1 => k_bn (((r1 : Int32) >>> ((((l6 / (nI 7)) * (nI 3)) : Int32) &&& 31))) fun v2 => k_oq (fL_some (((v2 : Int32) >>> (((nI 9) : Int32) &&& 31))) ((nI 3))) fun r3 => (if r3 = 0 then k_oq (fL_some (((v2 : Int32) >>> (((nI 11) : Int32) &&& 31))) ((nI 4))) fun r4 => (if r4 = 0 then fL_law_c149 Ls xs (fL_law_c83 Ls xs n) s l6 v2 ((nI 99)) else k_oq (fL_some (((v2 : Int32) >>> (((nI 11) : Int32) &&& 31))) ((nI 5))) fun r5 => fL_law_c149 Ls xs (fL_law_c83 Ls xs n) s l6 v2 r5) else fL_law_c172 Ls xs (fL_law_c83 Ls xs n) s l6 v2) else fL_law_c1286 Ls xs s)
theorem fL_law_c83_s (Ls : Nat) (xs : Nat → Int32) (n : Nat) (s : k_S × k_S) (l6 : Int32) : fL_law_c83 Ls xs (n + 1) s l6 = (if l6 < (nI 11) then k_oq (fL_cell Ls xs (((nI 5) + (l6 - l6 / (nI 7) * (nI 7))))) fun r1 => k_bn (((r1 : Int32) >>> ((((l6 / (nI 7)) * (nI 3)) : Int32) &&& 31))) fun v2 => k_oq (fL_some (((v2 : Int32) >>> (((nI 9) : Int32) &&& 31))) ((nI 3))) fun r3 => (if r3 = 0 then k_oq (fL_some (((v2 : Int32) >>> (((nI 11) : Int32) &&& 31))) ((nI 4))) fun r4 => (if r4 = 0 then fL_law_c149 Ls xs (fL_law_c83 Ls xs n) s l6 v2 ((nI 99)) else k_oq (fL_some (((v2 : Int32) >>> (((nI 11) : Int32) &&& 31))) ((nI 5))) fun r5 => fL_law_c149 Ls xs (fL_law_c83 Ls xs n) s l6 v2 r5) else fL_law_c172 Ls xs (fL_law_c83 Ls xs n) s l6 v2) else fL_law_c1286 Ls xs s) := rfl
set_option maxRecDepth 100000 in
set_option maxHeartbeats 4000000 in
theorem kL_law_c83 {X : k_C} {b Ls : Nat} {xs : Nat → Int32} (hX : k_At X b Ls xs) : ∀ (n kc ks : Nat) (hn : kc + 2 * n ≤ 600000 ∧ ks + 30 * n ≤ 7302249) (q : Nat → Nat) (s : k_S × k_S) (l6 : Int32), KO X YL (cV 3 (k_I X) q) kc ks (k_QL X) 83 [some (.ref (b)), some (.ref (q 0)), some (.ref (q 30)), some (.ref (q 31)), some (.ref (q 32)), none, some (.int l6), none, none, none, none, none, none, none, none, none, none, none, none, none] [] s (fL_law_c83 Ls xs n s l6) := by
  intro n
  induction n with
  | zero => intros; exact KO.nil
  | succ n ih0 =>
    intro kc ks hn q s l6
    rw [fL_law_c83_s]
    have hk : kc ≤ 600000 ∧ ks ≤ 7302249 := ⟨by have := hn.1; omega, by have := hn.2; omega⟩
    have hr : kc + 2 ≤ 600000 ∧ ks + 30 ≤ 7302249 := ⟨by have := hn.1; omega, by have := hn.2; omega⟩
    have ih := ih0 (kc + 2) (ks + 30) ⟨by have := hn.1; omega, by have := hn.2; omega⟩
    clear ih0
    refine k_iload (pc := 83) dL_law_83 rfl ?_
    refine k_bipush (pc := 85) (v := (nI 11)) dL_law_85 (by decide) ?_
    refine k_icmp_ge (pc := 87) 1286 dL_law_87 (by decide) ?_ ?_
    · refine k_fg6 ?_
      exact kL_law_c1286 hX hk s
    · refine k_aload_n (pc := 90) dL_law_90 rfl ?_
      refine k_iconst (pc := 91) (v := (nI 5)) dL_law_91 (by decide) ?_
      refine k_iload (pc := 92) dL_law_92 rfl ?_
      refine k_bipush (pc := 94) (v := (nI 7)) dL_law_94 (by decide) ?_
      refine k_irem (pc := 96) dL_law_96 (by decide) ?_
      refine k_iadd (pc := 97) dL_law_97 ?_
      refine k_cqx (pc := 98) (n := 2) (As := [.ref (b), .int (((nI 5) + (l6 - l6 / (nI 7) * (nI 7))))]) hX.1 ckL_cell kwm_L_9 rfl ⟨rfl, rfl⟩ ⟨Nat.le_of_ble_eq_true rfl, Nat.le_of_ble_eq_true rfl⟩ hk (Nat.le_of_ble_eq_true rfl) dL_law_98 rfl (fun _ _ hf => kL_cell hf) (fun r1 => ?_)
      refine k_iload (pc := 101) dL_law_101 rfl ?_
      refine k_bipush (pc := 103) (v := (nI 7)) dL_law_103 (by decide) ?_
      refine k_idiv (pc := 105) dL_law_105 (by decide) ?_
      refine k_iconst (pc := 106) (v := (nI 3)) dL_law_106 (by decide) ?_
      refine k_imul (pc := 107) dL_law_107 ?_
      refine k_ishr (pc := 108) dL_law_108 ?_
      refine k_ist7 (pc := 109) dL_law_109 (Nat.le_of_ble_eq_true rfl) (fun v2 => ?_)
      refine k_iload (pc := 111) dL_law_111 rfl ?_
      refine k_bipush (pc := 113) (v := (nI 9)) dL_law_113 (by decide) ?_
      refine k_ishr (pc := 115) dL_law_115 ?_
      refine k_iconst (pc := 116) (v := (nI 3)) dL_law_116 (by decide) ?_
      refine k_cq (pc := 117) (n := 2) (W0 := ([] : va_W)) (As := [.int (((v2 : Int32) >>> (((nI 9) : Int32) &&& 31))), .int ((nI 3))]) [] (by decide) rfl ckL_some kwm_L_15 rfl ⟨rfl, rfl⟩ ⟨Nat.le_of_ble_eq_true rfl, Nat.le_of_ble_eq_true rfl⟩ hk (Nat.le_of_ble_eq_true rfl) dL_law_117 rfl (fun _ _ hf => kL_some hf) (fun r3 => ?_)
      refine k_if_ne (pc := 120) 172 dL_law_120 (by decide) ?_ ?_
      · exact kL_law_c172 hX hk hr (fL_law_c83 Ls xs n) ih s l6 v2
      · refine k_iload (pc := 123) dL_law_123 rfl ?_
        refine k_bipush (pc := 125) (v := (nI 11)) dL_law_125 (by decide) ?_
        refine k_ishr (pc := 127) dL_law_127 ?_
        refine k_iconst (pc := 128) (v := (nI 4)) dL_law_128 (by decide) ?_
        refine k_cq (pc := 129) (n := 2) (W0 := ([] : va_W)) (As := [.int (((v2 : Int32) >>> (((nI 11) : Int32) &&& 31))), .int ((nI 4))]) [] (by decide) rfl ckL_some kwm_L_15 rfl ⟨rfl, rfl⟩ ⟨Nat.le_of_ble_eq_true rfl, Nat.le_of_ble_eq_true rfl⟩ hk (Nat.le_of_ble_eq_true rfl) dL_law_129 rfl (fun _ _ hf => kL_some hf) (fun r4 => ?_)
        refine k_if_ne (pc := 132) 140 dL_law_132 (by decide) ?_ ?_
        · refine k_iload (pc := 140) dL_law_140 rfl ?_
          refine k_bipush (pc := 142) (v := (nI 11)) dL_law_142 (by decide) ?_
          refine k_ishr (pc := 144) dL_law_144 ?_
          refine k_iconst (pc := 145) (v := (nI 5)) dL_law_145 (by decide) ?_
          refine k_cq (pc := 146) (n := 2) (W0 := ([] : va_W)) (As := [.int (((v2 : Int32) >>> (((nI 11) : Int32) &&& 31))), .int ((nI 5))]) [] (by decide) rfl ckL_some kwm_L_15 rfl ⟨rfl, rfl⟩ ⟨Nat.le_of_ble_eq_true rfl, Nat.le_of_ble_eq_true rfl⟩ hk (Nat.le_of_ble_eq_true rfl) dL_law_146 rfl (fun _ _ hf => kL_some hf) (fun r5 => ?_)
          exact kL_law_c149 hX hk hr (fL_law_c83 Ls xs n) ih s l6 v2 r5
        · refine k_bipush (pc := 135) (v := (nI 99)) dL_law_135 (by decide) ?_
          refine k_goto (pc := 137) 149 dL_law_137 (by decide) ?_
          exact kL_law_c149 hX hk hr (fL_law_c83 Ls xs n) ih s l6 v2 ((nI 99))
noncomputable def fL_law_c80 (Ls : Nat) (xs : Nat → Int32) (s : k_S × k_S) : Option (Int32 × (k_S × k_S)) := k_bn ((nI 0)) fun v1 => fL_law_c83 Ls xs 12 s v1
set_option maxRecDepth 100000 in
set_option maxHeartbeats 4000000 in
theorem kL_law_c80 {X : k_C} {q : Nat → Nat} {b Ls kc ks : Nat} {xs : Nat → Int32} (hX : k_At X b Ls xs) (hk : kc ≤ 600000 ∧ ks ≤ 7302249) (h12 : kc + 2 * 12 ≤ 600000 ∧ ks + 30 * 12 ≤ 7302249) (s : k_S × k_S) : KO X YL (cV 3 (k_I X) q) kc ks (k_QL X) 80 [some (.ref (b)), some (.ref (q 0)), some (.ref (q 30)), some (.ref (q 31)), some (.ref (q 32)), none, none, none, none, none, none, none, none, none, none, none, none, none, none, none] [] s (fL_law_c80 Ls xs s) := by
  unfold fL_law_c80
  refine k_iconst (pc := 80) (v := (nI 0)) dL_law_80 (by decide) ?_
  refine k_ist6 (pc := 81) dL_law_81 (Nat.le_of_ble_eq_true rfl) (fun v1 => ?_)
  exact kL_law_c83 hX 12 kc ks h12 q s v1
noncomputable def fL_law_c61 (Ls : Nat) (xs : Nat → Int32) : Nat → k_S × k_S → Int32 → Option (Int32 × (k_S × k_S))
  | 0, _, _ => none
  | n + 1, s, l6 => (if l6 < (nI 5) then k_gd (l6) 5 (k_bn (k_sV s 2 (l6) ((k_ng 9))) fun s1 => k_bn (l6 + (nI 1)) fun v2 => fL_law_c61 Ls xs n s1 v2) else fL_law_c80 Ls xs s)
theorem fL_law_c61_s (Ls : Nat) (xs : Nat → Int32) (n : Nat) (s : k_S × k_S) (l6 : Int32) : fL_law_c61 Ls xs (n + 1) s l6 = (if l6 < (nI 5) then k_gd (l6) 5 (k_bn (k_sV s 2 (l6) ((k_ng 9))) fun s1 => k_bn (l6 + (nI 1)) fun v2 => fL_law_c61 Ls xs n s1 v2) else fL_law_c80 Ls xs s) := rfl
set_option maxRecDepth 100000 in
set_option maxHeartbeats 4000000 in
theorem kL_law_c61 {X : k_C} {q : Nat → Nat} {b Ls kc ks : Nat} {xs : Nat → Int32} (hX : k_At X b Ls xs) (hk : kc ≤ 600000 ∧ ks ≤ 7302249) (h12 : kc + 2 * 12 ≤ 600000 ∧ ks + 30 * 12 ≤ 7302249) : ∀ (n : Nat) (s : k_S × k_S) (l6 : Int32), KO X YL (cV 3 (k_I X) q) kc ks (k_QL X) 61 [some (.ref (b)), some (.ref (q 0)), some (.ref (q 30)), some (.ref (q 31)), some (.ref (q 32)), none, some (.int l6), none, none, none, none, none, none, none, none, none, none, none, none, none] [] s (fL_law_c61 Ls xs n s l6) := by
  intro n
  induction n with
  | zero => intros; exact KO.nil
  | succ n ih =>
    intro s l6
    rw [fL_law_c61_s]
    refine k_iload (pc := 61) dL_law_61 rfl ?_
    refine k_iconst (pc := 63) (v := (nI 5)) dL_law_63 (by decide) ?_
    refine k_icmp_ge (pc := 64) 80 dL_law_64 (by decide) ?_ ?_
    · refine k_fg6 ?_
      exact kL_law_c80 hX hk h12 s
    · refine k_aload (pc := 67) dL_law_67 rfl ?_
      refine k_iload (pc := 69) dL_law_69 rfl ?_
      refine k_bipush (pc := 71) (v := (k_ng 9)) dL_law_71 (by decide) ?_
      refine k_sV3_2 (pc := 73) dL_law_73 (fun s1 => ?_)
      refine k_iinc6 (pc := 74) (w := (nI 1)) dL_law_74 rfl (by decide) (Nat.le_of_ble_eq_true rfl) (fun v2 => ?_)
      refine k_goto (pc := 77) 61 dL_law_77 (by decide) ?_
      exact ih s1 v2
noncomputable def fL_law_c23 (Ls : Nat) (xs : Nat → Int32) (s : k_S × k_S) : Option (Int32 × (k_S × k_S)) := k_ob (fL_put Ls xs s ((nI 0)) ((nI 10))) fun r1 s2 => k_bn (r1) fun v3 => (if v3 < (nI 7) then none else k_ob (fX6_inn s2.1 ((nI 0)) ((nI 0)) ((nI 0)) (v3)) fun r4 τ5 => k_bn (τ5, s2.2) fun s6 => k_gd ((nI 1)) 34 ((if r4 = s6.2.2 0 (Int32.toNatClampNeg ((nI 1))) then k_bn ((nI 0)) fun v7 => fL_law_c61 Ls xs k_F s6 v7 else none)))
set_option maxRecDepth 100000 in
set_option maxHeartbeats 4000000 in
theorem kL_law_c23 {X : k_C} {q : Nat → Nat} {b Ls kc ks : Nat} {xs : Nat → Int32} (hX : k_At X b Ls xs) (hk : kc ≤ 600000 ∧ ks ≤ 7302249) (h12 : kc + 2 * 12 ≤ 600000 ∧ ks + 30 * 12 ≤ 7302249) (s : k_S × k_S) : KO X YL (cV 3 (k_I X) q) kc ks (k_QL X) 23 [some (.ref (b)), some (.ref (q 0)), some (.ref (q 30)), some (.ref (q 31)), some (.ref (q 32)), none, none, none, none, none, none, none, none, none, none, none, none, none, none, none] [] s (fL_law_c23 Ls xs s) := by
  unfold fL_law_c23
  refine k_aload_n (pc := 23) dL_law_23 rfl ?_
  refine k_aload_n (pc := 24) dL_law_24 rfl ?_
  refine k_iconst (pc := 25) (v := (nI 0)) dL_law_25 (by decide) ?_
  refine k_bipush (pc := 26) (v := (nI 10)) dL_law_26 (by decide) ?_
  refine k_aload_n (pc := 28) dL_law_28 rfl ?_
  refine k_callSx (pc := 29) (n := 5) (As := [.ref (q 0), .ref (b), .int ((nI 0)), .int ((nI 10)), .ref (q 30)]) (emb := k_ei) hX.1 (k_In.id (cV_same 3 _ _) s) ckL_put kwm_L_47 rfl ⟨rfl, rfl⟩ ⟨Nat.le_of_ble_eq_true rfl, Nat.le_of_ble_eq_true rfl⟩ hk (Nat.le_of_ble_eq_true rfl) dL_law_29 rfl (fun _ _ hf => kL_put hf) (fun r1 s2 => ?_)
  show KO X YL (cV 3 (k_I X) q) kc ks (k_QL X) 32 _ [.int r1] s2 _
  refine k_ist5 (pc := 32) dL_law_32 (Nat.le_of_ble_eq_true rfl) (fun v3 => ?_)
  refine k_iload (pc := 34) dL_law_34 rfl ?_
  refine k_bipush (pc := 36) (v := (nI 7)) dL_law_36 (by decide) ?_
  refine k_icmp_lt (pc := 38) 56 dL_law_38 (by decide) ?_ ?_
  · exact KO.nil
  · refine k_aload_n (pc := 41) dL_law_41 rfl ?_
    refine k_iconst (pc := 42) (v := (nI 0)) dL_law_42 (by decide) ?_
    refine k_iconst (pc := 43) (v := (nI 0)) dL_law_43 (by decide) ?_
    refine k_iconst (pc := 44) (v := (nI 0)) dL_law_44 (by decide) ?_
    refine k_iload (pc := 45) dL_law_45 rfl ?_
    refine k_LTi4 (pc := 47) ckX6_inn rfl kwm_L_50 ⟨rfl, rfl⟩ ⟨Nat.le_of_ble_eq_true rfl, Nat.le_of_ble_eq_true rfl⟩ hk (Nat.le_of_ble_eq_true rfl) dL_law_47 (fun _ _ hf => kX6_inn hf) (fun r4 s6 => ?_)
    refine k_aload_n (pc := 50) dL_law_50 rfl ?_
    refine k_iconst (pc := 51) (v := (nI 1)) dL_law_51 (by decide) ?_
    refine k_lV3_0 (pc := 52) dL_law_52 ?_
    refine k_icmp_eq (pc := 53) 58 dL_law_53 (by decide) ?_ ?_
    · refine k_iconst (pc := 58) (v := (nI 0)) dL_law_58 (by decide) ?_
      refine k_ist6 (pc := 59) dL_law_59 (Nat.le_of_ble_eq_true rfl) (fun v7 => ?_)
      refine k_fg5 ?_
      exact kL_law_c61 hX hk h12 k_F s6 v7
    · exact KO.nil
