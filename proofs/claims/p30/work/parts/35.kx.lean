/-! ===== kx: rows for the law's own static methods, its rows, the script (by program: wip/gen30/kx.py) ===== -/
def k_oq {α β γ : Type} (o : Option (α × β)) (k : α → Option γ) : Option γ := k_ob o (fun r _ => k r)
def k_nz {α : Type} (n : Int32) (o : Option α) : Option α := if n = 0 then none else o
def k_sV (s : k_S × k_S) (j : Nat) (i v : Int32) : k_S × k_S := (s.1, k_sa s.2 j i v)
/-- rows that stay as they are: the inn's, the nights', what is told -/
def cR (cI : ClassId) (q : Nat → Nat) (g b r : Nat → Int32) : va_W := [(q 0, .inl (cI, 34, .inl g)), (q 1, .inl (cI, 60, .inl b)), (q 2, .inl (cI, 5, .inl r))]
def cB (ph : Nat) (cI : ClassId) (q : Nat → Nat) (ρ : k_S) : va_W := ([(q 30, .inl (cI, 34, .inl (ρ.2 0))), (q 31, .inl (cI, 60, .inl (ρ.2 1))), (q 32, .inl (cI, 5, .inl (ρ.2 2))), (q 33, .inl (cI, 5, .inl (ρ.2 3))), (q 34, .inl (cI, 25, .inl (ρ.2 4)))] : va_W).take ph
def cV (ph : Nat) (cI : ClassId) (q : Nat → Nat) (s : k_S × k_S) : va_W := cT cI q s.1 ++ cB ph cI q s.2
theorem cV_same (ph : Nat) (cI : ClassId) (q : Nat → Nat) : k_same (cV ph cI q) := k_same_of fun s t => by
  unfold cV cB
  rw [List.map_append, List.map_append, List.map_take, List.map_take]
  rfl
theorem k_subD {A : Nat → Prop} {ws ws' : va_W} (hD : va_D A ws) (o : Nat) (h : ∀ (k : Nat) (x : Nat × va_E), ws'[k]? = some x → ws[o + k]? = some x) : va_D A ws' := by
  refine ⟨fun i j x y hi hj hxy => ?_, fun k x hk => hD.2 _ _ (h k x hk)⟩
  have := hD.1 _ _ x y (h i x hi) (h j y hj) hxy
  omega
theorem k_InT {S2 : Type} {cI : ClassId} {q : Nat → Nat} {B : S2 → va_W} (s : k_S × S2) : k_In (fun s : k_S × S2 => cT cI q s.1 ++ B s.2) s (cT cI q) s.1 (fun σ' => (σ', s.2)) := by
  have hl : ∀ τ0 (k : Nat) (x : Nat × va_E), (cT cI q τ0)[k]? = some x → (cT cI q τ0 ++ B s.2)[k]? = some x := fun τ0 k x hk => by
    rw [List.getElem?_append_left (List.getElem?_eq_some_iff.mp hk).1]
    exact hk
  refine ⟨cT_same _ _, fun k x hk => ⟨k, hl s.1 k x hk⟩, fun A hD τ0 => k_subD (hD (τ0, s.2)) 0 (fun k x hk => by rw [Nat.zero_add]; exact hl τ0 k x hk), fun τ0 k x hk => ?_⟩
  by_cases hlt : k < 30
  · have hk' : (cT cI q τ0 ++ B s.2)[k]? = some x := hk
    rw [List.getElem?_append_left (show k < (cT cI q τ0).length from hlt)] at hk'
    exact Or.inl ⟨k, hk'⟩
  · have hk' : (cT cI q τ0 ++ B s.2)[k]? = some x := hk
    have hs : (cT cI q s.1 ++ B s.2)[k]? = some x := by
      rw [List.getElem?_append_right (show (cT cI q τ0).length ≤ k from Nat.le_of_not_lt hlt)] at hk'
      rw [List.getElem?_append_right (show (cT cI q s.1).length ≤ k from Nat.le_of_not_lt hlt)]
      exact hk'
    refine Or.inr ⟨⟨k, hs⟩, fun A hD i q0 hi hq => ?_⟩
    have hi' := hl s.1 i q0 hi
    have := hD.1 i k q0 x hi' hs hq
    have : i < 30 := (List.getElem?_eq_some_iff.mp hi).1
    omega
theorem k_at_is {is : List Nat} {w ws : va_W} (hs : is.map (fun i => ws[i]?) = w.map some) (k : Nat) (q : Nat × va_E) (hq : w[k]? = some q) : ∃ i, is[k]? = some i ∧ ws[i]? = some q := by
  have h1 : (is.map (fun i => ws[i]?))[k]? = some (some q) := by rw [hs, List.getElem?_map, hq]; rfl
  rw [List.getElem?_map] at h1
  cases hi : is[k]? with
  | none => rw [hi] at h1; cases h1
  | some i => rw [hi] at h1; exact ⟨i, rfl, Option.some.inj h1⟩
theorem k_In_sub {S : Type} {cw : S → va_W} {σ : S} {W0 : va_W} (is : List Nat) (hnd : va_nd is = true) (h : is.map (fun i => (cw σ)[i]?) = W0.map some) : k_In cw σ (fun _ : Unit => W0) () (fun _ => σ) := by
  refine ⟨k_same_of fun _ _ => rfl, fun k q hq => ?_, fun A hD _ => (hD σ).sub is hnd h, fun _ k q hq => ?_⟩
  · obtain ⟨i, -, hi⟩ := k_at_is h k q hq
    exact ⟨i, hi⟩
  · by_cases hk : ∃ j : Nat, is[j]? = some k
    · obtain ⟨j, hj⟩ := hk
      have h1 : (is.map (fun i => (cw σ)[i]?))[j]? = some (some q) := by rw [List.getElem?_map, hj]; exact congrArg some hq
      rw [h, List.getElem?_map] at h1
      cases hw : W0[j]? with
      | none => rw [hw] at h1; cases h1
      | some x => rw [hw] at h1; exact Or.inl ⟨j, by rw [hw]; exact Option.some.inj h1⟩
    · refine Or.inr ⟨⟨k, hq⟩, fun A hD i q0 hi he => hk ?_⟩
      obtain ⟨j, h1, h2⟩ := k_at_is h i q0 hi
      have := hD.1 j k q0 q h2 hq he
      exact ⟨i, by rw [h1, this]⟩
section KIE
variable {X : k_C} {Y : k_Y} {kc ks : Nat} {Q : State → Prop} {pc : Nat} {L : List (Option Value)} {st : List Value} {ws : va_W}
theorem ki_ast (i : Nat) {x : Nat} (hd : ∃ k : Fin 4, decode Y.2.1 pc = .ok (.astore_n k, 1) ∧ (k : Nat) = i) (hi : i < Y.2.2.1) (kk : KI X Y kc ks Q (pc + 1) (L.set i (some (.ref x))) st ws) : KI X Y kc ks Q pc L (.ref x :: st) ws := by
  intro g H locs ls hP hD hS hL
  let l : List (Nat × Value) := (List.range L.length).filterMap (fun j => (L[j]?.join).map (fun v => (j, v)))
  have hm : ∀ q : Nat × Value, q ∈ l ↔ L[q.1]? = some (some q.2) := k_pairs L
  have hl : lv_has ls Y.2.2.1 l := ⟨hL.1, hL.2.1, fun q hq => (hL.2.2 _ _ ((hm q).mp hq)).1⟩
  obtain ⟨k, hd, hk⟩ := hd
  exact lv_astore_n g.1 g.2.1 hd hk hl hi rfl (fun ls' h2 => kk g H locs ls' hP hD hS (k_L.of_has hL h2 rfl))
theorem ki_ist (i : Nat) {x : Int32} (hd : ∃ k : Fin 4, decode Y.2.1 pc = .ok (.istore_n k, 1) ∧ (k : Nat) = i) (hi : i < Y.2.2.1) (kk : KI X Y kc ks Q (pc + 1) (L.set i (some (.int x))) st ws) : KI X Y kc ks Q pc L (.int x :: st) ws := by
  intro g H locs ls hP hD hS hL
  let l : List (Nat × Value) := (List.range L.length).filterMap (fun j => (L[j]?.join).map (fun v => (j, v)))
  have hm : ∀ q : Nat × Value, q ∈ l ↔ L[q.1]? = some (some q.2) := k_pairs L
  have hl : lv_has ls Y.2.2.1 l := ⟨hL.1, hL.2.1, fun q hq => (hL.2.2 _ _ ((hm q).mp hq)).1⟩
  obtain ⟨k, hd, hk⟩ := hd
  exact lv_istore_n g.1 g.2.1 hd hk hl hi rfl (fun ls' h2 => kk g H locs ls' hP hD hS (k_L.of_has hL h2 rfl))
theorem KI.toKO {S Rt : Type} {cw : S → va_W} {Q0 : Rt → S → State → Prop} {r : Rt} {σ σ' : S} {o : Option (Rt × S)} (hs : k_same cw) (ho : o = some (r, σ')) (is : List Nat) (hnd : va_nd is = true) (h1 : is.map (fun i => ws[i]?) = (cw σ).map some) (h2 : is.filterMap (fun i => ws[i]?) = cw σ) (kk : KO X Y cw kc ks Q0 pc L st σ o) : KI X Y kc ks (Q0 r σ') pc L st ws := by
  intro g H locs ls hP hD hS hL
  have hDs : va_D (k_A X) (cw σ) := hD.sub is hnd h1
  refine kk ⟨g.1, g.2.1, g.2.2.1, g.2.2.2.1, g.2.2.2.2.1, g.2.2.2.2.2.1, g.2.2.2.2.2.2.1, fun τ => ?_, g.2.2.2.2.2.2.2.1, g.2.2.2.2.2.2.2.2.1, g.2.2.2.2.2.2.2.2.2⟩ r σ' ho H locs ls (hP.sub is h2) hS hL
  refine ⟨fun i j x y hi hj hxy => ?_, fun k x hk => ?_⟩
  · obtain ⟨ex, hx⟩ := hs τ σ i x hi
    obtain ⟨ey, hy⟩ := hs τ σ j y hj
    exact hDs.1 i j _ _ hx hy hxy
  · obtain ⟨ex, hx⟩ := hs τ σ k x hk
    exact hDs.2 k (x.1, ex) hx
end KIE
section KX1
variable {S Rt : Type} {X : k_C} {Y : k_Y} {cw : S → va_W} {kc ks : Nat} {Q : Rt → S → State → Prop} {pc pc' : Nat} {L L' : List (Option Value)} {st st' : List Value} {σ : S} {o o1 o2 : Option (Rt × S)}
theorem k_ishr {x y : Int32} (hd : decode Y.2.1 pc = .ok (.ishr, 1)) (kk : KO X Y cw kc ks Q (pc + 1) L (.int (x >>> (y &&& 31)) :: st) σ o) : KO X Y cw kc ks Q pc L (.int y :: .int x :: st) σ o :=
  kk.lift fun g _ _ _ _ _ _ _ k => lv_ishr g.1 g.2.1 hd k
theorem k_ldc {index : Nat} {v : Int32} (hw : Cond.constant Y.2.2.2.1 index v ∈ k_ws) (hd : decode Y.2.1 pc = .ok (.ldc index, 2)) (kk : KO X Y cw kc ks Q (pc + 2) L (.int v :: st) σ o) : KO X Y cw kc ks Q pc L st σ o :=
  kk.lift fun g _ _ _ _ _ _ _ k => lv_ldc g.1 g.2.1 g.2.2.2.1 (g.2.2.2.2.1 _ hw) hd k
theorem k_irem' {x y : Int32} (hd : decode Y.2.1 pc = .ok (.irem, 1)) (kk : KO X Y cw kc ks Q (pc + 1) L (.int (x - x / y * y) :: st) σ o) : KO X Y cw kc ks Q pc L (.int y :: .int x :: st) σ (k_nz y o) := by
  unfold k_nz
  by_cases h : y = 0
  · rw [if_pos h]; exact KO.nil
  · rw [if_neg h]; exact k_irem hd h kk
theorem k_astL (i : Nat) {x : Nat} (hd : decode Y.2.1 pc = .ok (.astore i, 2)) (hi : i < Y.2.2.1) (kk : KO X Y cw kc ks Q (pc + 2) (L.set i (some (.ref x))) st σ o) : KO X Y cw kc ks Q pc L (.ref x :: st) σ o := by
  intro g r σ' ho H locs ls hP hS hL
  let l : List (Nat × Value) := (List.range L.length).filterMap (fun j => (L[j]?.join).map (fun v => (j, v)))
  have hm : ∀ q : Nat × Value, q ∈ l ↔ L[q.1]? = some (some q.2) := k_pairs L
  have hl : lv_has ls Y.2.2.1 l := ⟨hL.1, hL.2.1, fun q hq => (hL.2.2 _ _ ((hm q).mp hq)).1⟩
  exact lv_astore g.1 g.2.1 hd hl hi rfl fun ls' h2 => kk g r σ' ho H locs ls' hP hS (k_L.of_has hL h2 rfl)
theorem KO.widen {kc' ks' : Nat} (h : kc ≤ kc' ∧ ks ≤ ks') (kk : KO X Y cw kc' ks' Q pc L st σ o) : KO X Y cw kc ks Q pc L st σ o :=
  fun g r σ' ho H locs ls hP hS hL => W.widen h.1 h.2 (kk g r σ' ho H locs ls hP hS hL)
theorem KO.ofKI (h : ∀ r σ', o = some (r, σ') → KI X Y kc ks (Q r σ') pc L st (cw σ)) : KO X Y cw kc ks Q pc L st σ o :=
  fun g r σ' ho H locs ls hP hS hL => h r σ' ho ⟨g.1, g.2.1, g.2.2.1, g.2.2.2.1, g.2.2.2.2.1, g.2.2.2.2.2.1, g.2.2.2.2.2.2.1, g.2.2.2.2.2.2.2.2.1, g.2.2.2.2.2.2.2.2.2.1, g.2.2.2.2.2.2.2.2.2.2⟩ H locs ls hP (g.2.2.2.2.2.2.2.1 σ) hS hL
/-- a static method over rows that stay -/
theorem k_cq {y : MethodName} {bytes : ByteArray} {maxL : Nat} {ret : Option FieldType} {n index : Nat} {rm : Room} {W0 : va_W} {As : List Value} {f : Option (Int32 × Unit)} {kf : Int32 → Option (Rt × S)} {stk : List Value} (is : List Nat) (hnd : va_nd is = true) (h : is.map (fun i => (cw σ)[i]?) = W0.map some)
    (hok : k_Sok y bytes maxL ret n) (hm : Cond.methodLink Y.2.2.2.1 index y ∈ k_ws) (hlen : As.length = n) (hrm : rm.cells = 0 ∧ rm.slots = 0) (hR : rm.frames + 1 ≤ Y.1.frames ∧ 8 + (maxL + 11) + rm.locals ≤ Y.1.locals) (hk : kc ≤ Y.1.cells ∧ ks ≤ Y.1.slots) (hcat : (st.map fun v => v.category).sum ≤ 8) (hd : decode Y.2.1 pc = .ok (.invokestatic index, 3)) (hstk : stk = As.reverse ++ st)
    (hM : ∀ r τ, f = some (r, τ) → k_Ct k_ei y bytes maxL ret rm (fun _ : Unit => W0) (k_D X) (k_I X) As () r τ) (kk : ∀ r, KO X Y cw kc ks Q (pc + 3) L (.int r :: st) σ (kf r)) : KO X Y cw kc ks Q pc L stk σ (k_oq f kf) :=
  k_callS (k_In_sub is hnd h) hok hm hlen hrm hR hk hcat hd hstk hM (fun r _ => kk r)
end KX1
-- ---- contracts with the script: it lies outside of the world and stays
def k_Sc (X : k_C) (b Ls : Nat) (xs : Nat → Int32) : Prop := va_X b Ls xs (k_s X) (k_s X).heap ∧ b < (k_s X).heap.size ∧ ¬ k_A X b
def k_Cx {S Rt : Type} (b Ls : Nat) (xs : Nat → Int32) (emb : Rt → Option Value) (y : MethodName) (bytes : ByteArray) (maxL : Nat) (ret : Option FieldType) (rm : Room) (cw : S → va_W) (D : va_G) (cI : ClassId) (as : List Value) (σ : S) (r : Rt) (σ' : S) : Prop :=
  ∀ (l : Launch) (sz : Nat), Met l y (.code y bytes maxL ret :: k_ws) rm (va_Pc as (fun U => (U.heap.size = sz ∧ va_P D vwCl (cw σ) U.heap ∧ va_K D vwCl [(cI, .int)] U ∧ ∀ τ, va_D (fun _ => True) (cw τ)) ∧ va_X b Ls xs U U.heap ∧ b < sz ∧ ¬ va_A (cw σ) sz b)) (fun _ st oc t => (oc = .returned (emb r) ∧ va_P D vwCl (cw σ') t.heap) ∧ va_F (va_A (cw σ) sz) st t) 0 0 (va_A (cw σ) sz)
theorem k_metx {S Rt : Type} {b Ls : Nat} {xs : Nat → Int32} {emb : Rt → Option Value} {y : MethodName} {Y : k_Y} {cw : S → va_W} {D : va_G} {cI : ClassId} {as : List Value} {σ : S} {o : Option (Rt × S)} (hsame : k_same cw) (hcl : plainName y.cls = true) (hown : y.cls = Y.2.2.2.1) (hlen : as.length ≤ Y.2.2.1) (hcat : ∀ v ∈ as, v.category = 1)
    (h : ∀ X : k_C, k_D X = D → k_I X = cI → k_Sc X b Ls xs → KO X Y cw 0 0 (k_Q emb X cw) 0 (as.map some ++ List.replicate (Y.2.2.1 - as.length) none) [] σ o) {r : Rt} {σ' : S} (ho : o = some (r, σ')) : k_Cx b Ls xs emb y Y.2.1 Y.2.2.1 Y.2.2.2.2 Y.1 cw D cI as σ r σ' := by
  intro l sz
  refine Met.ofW (cc := Y.2.1) (maxL := Y.2.2.1) (ret := Y.2.2.2.2) hcl rfl ?_
  intro p e s m args below meth c s₁ B hml hv
  obtain ⟨rfl, ⟨hsz, hP, hK, hD0⟩, hX, hb, hA⟩ := hv
  have hts0 := atoms_spec (ws := .code y Y.2.1 Y.2.2.1 Y.2.2.2.2 :: k_ws) B.pre
  have hfc : s.vm.findClass y.cls = some m.cls := findClass_of_methodNamed B.named
  rw [lg_entry_eq]
  let X : k_C := ((p, l, e, s, m, as.toArray), (below, meth, c, D, cI, va_A (cw σ) sz), Y.1)
  have hG : k_G X Y cw := by
    refine ⟨B.exec, B.bytes, hml, by rw [← hown]; exact hfc, fun w hw => hts0 w (List.mem_cons_of_mem _ hw), hK, fun q hq => Or.inr (by rw [← hsz]; exact hq), fun τ => ?_, rfl, B.notSynchronized, B.returns⟩
    exact (hD0 τ).weaken fun k q hk _ => k_Asame hsame τ σ sz q.1 (va_A.in hk)
  have hL := k_L.entry as hlen hcat
  exact h X rfl rfl ⟨hX, by rw [← hsz] at hb; exact hb, hA⟩ hG r σ' ho s.heap [] _ hP va_S.rf hL
section KX2
variable {S Rt : Type} {X : k_C} {Y : k_Y} {cw : S → va_W} {kc ks : Nat} {Q : Rt → S → State → Prop} {pc pc' : Nat} {L L' : List (Option Value)} {st st' : List Value} {σ : S} {o o1 o2 : Option (Rt × S)}
theorem k_callSx {S0 R0 : Type} {b Ls : Nat} {xs : Nat → Int32} {emb : R0 → Option Value} {y : MethodName} {bytes : ByteArray} {maxL : Nat} {ret : Option FieldType} {n index : Nat} {rm : Room} {cw0 : S0 → va_W} {σ0 : S0} {put : S0 → S} {As : List Value} {f : Option (R0 × S0)} {kf : R0 → S0 → Option (Rt × S)} {stk : List Value} (hSc : k_Sc X b Ls xs)
    (hin : k_In cw σ cw0 σ0 put) (hok : k_Sok y bytes maxL ret n) (hm : Cond.methodLink Y.2.2.2.1 index y ∈ k_ws) (hlen : As.length = n) (hrm : rm.cells = 0 ∧ rm.slots = 0) (hR : rm.frames + 1 ≤ Y.1.frames ∧ 8 + (maxL + 11) + rm.locals ≤ Y.1.locals) (hk : kc ≤ Y.1.cells ∧ ks ≤ Y.1.slots) (hcat : (st.map fun v => v.category).sum ≤ 8) (hd : decode Y.2.1 pc = .ok (.invokestatic index, 3)) (hstk : stk = As.reverse ++ st)
    (hM : ∀ r τ, f = some (r, τ) → k_Cx b Ls xs emb y bytes maxL ret rm cw0 (k_D X) (k_I X) As σ0 r τ) (kk : ∀ r τ, KO X Y cw kc ks Q (pc + 3) L ((emb r).toList ++ st) (put τ) (kf r τ)) : KO X Y cw kc ks Q pc L stk σ (k_ob f kf) := by
  subst hstk
  intro g r σ' ho H locs ls hP hS hL
  cases hf : f with
  | none => rw [hf] at ho; cases ho
  | some a =>
    obtain ⟨r0, τ⟩ := a
    rw [hf] at ho
    obtain ⟨hco, hs, hini, hmh, hn⟩ := hok
    have hK := g.2.2.2.2.2.1
    obtain ⟨hX, hbl, hbA⟩ := hSc
    have hA0 : ∀ q, va_A (cw0 σ0) H.size q → k_A X q := by
      intro q hq
      rcases hq with ⟨k, e, hk0⟩ | hq
      · exact (hin.2.2.1 _ g.2.2.2.2.2.2.2.1 σ0).2 k _ hk0
      · exact g.2.2.2.2.2.2.1 q (Nat.le_trans hS.1 hq)
    have hrun := va_runS (As := As) (rest := st) (cells := kc) (slots := ks) (locs := locs) (g := F0 (k_m X) pc ls (As.reverse ++ st)) (nL := Y.2.2.1) ⟨g.1, g.2.1, g.2.2.1, g.2.2.2.1, g.2.2.2.2.1⟩ (hM r0 τ hf (k_l X) H.size) ⟨k_callB g hco hini hmh hn hm hrm hR, g.2.2.2.2.1 _ hs⟩ ⟨(by
        intro a U g mk q
        obtain ⟨q0, ⟨q1, qP, qK, qD⟩, qX, qb, qA⟩ := q
        exact ⟨q0, ⟨q1, qP, va_K.moved (u := U) (U := U.calling g mk a) (Vm.Alike.refl U.vm) qK, qD⟩, va_X.moved (u := U) (U := U.calling g mk a) (Vm.Alike.refl U.vm) qX, qb, qA⟩), fun U hU hW => ⟨rfl, ⟨by rw [hU], by rw [hU]; exact hin.P hP, va_K.moved hW.alike hK, fun τ0 => (hin.2.2.1 _ g.2.2.2.2.2.2.2.1 τ0).weaken (fun _ _ _ _ => trivial)⟩, by rw [hU]; exact va_X.moved hW.alike (hX.kept (hS.2.1 b hbl hbA)), Nat.lt_of_lt_of_le hbl hS.1, fun hz => hbA (hA0 b hz)⟩⟩ rfl hlen hL.1 rfl (lv_room hcat) hd (by rw [g.2.2.2.2.2.2.2.2.1]; exact hk) (p := k_p X) (e := k_e X) (below := k_b X) (meth := k_M X) (c := k_c X) (m := k_m X)
    exact k_run (B := va_P (k_D X) vwCl (cw0 τ)) hrun hS (fun q _ h => hA0 q h) hA0 (fun H1 locs1 hB hk1 hS1 => kk r0 τ g r σ' ho H1 locs1 ls (hin.back (g.2.2.2.2.2.2.2.1 σ) hP hk1 hB) hS1 hL)
theorem k_cqx {b Ls : Nat} {xs : Nat → Int32} {y : MethodName} {bytes : ByteArray} {maxL : Nat} {ret : Option FieldType} {n index : Nat} {rm : Room} {As : List Value} {f : Option (Int32 × Unit)} {kf : Int32 → Option (Rt × S)} {stk : List Value} (hSc : k_Sc X b Ls xs)
    (hok : k_Sok y bytes maxL ret n) (hm : Cond.methodLink Y.2.2.2.1 index y ∈ k_ws) (hlen : As.length = n) (hrm : rm.cells = 0 ∧ rm.slots = 0) (hR : rm.frames + 1 ≤ Y.1.frames ∧ 8 + (maxL + 11) + rm.locals ≤ Y.1.locals) (hk : kc ≤ Y.1.cells ∧ ks ≤ Y.1.slots) (hcat : (st.map fun v => v.category).sum ≤ 8) (hd : decode Y.2.1 pc = .ok (.invokestatic index, 3)) (hstk : stk = As.reverse ++ st)
    (hM : ∀ r τ, f = some (r, τ) → k_Cx b Ls xs k_ei y bytes maxL ret rm (fun _ : Unit => ([] : va_W)) (k_D X) (k_I X) As () r τ) (kk : ∀ r, KO X Y cw kc ks Q (pc + 3) L (.int r :: st) σ (kf r)) : KO X Y cw kc ks Q pc L stk σ (k_oq f kf) :=
  k_callSx hSc (k_In_sub [] rfl rfl) hok hm hlen hrm hR hk hcat hd hstk hM (fun r _ => kk r)
theorem k_sld {b Ls : Nat} {xs : Nat → Int32} {i : Int32} (hX : k_Sc X b Ls xs) (hd : decode Y.2.1 pc = .ok (.iaload, 1)) (kk : KO X Y cw kc ks Q (pc + 1) L (.int (xs i.toNatClampNeg) :: st) σ o) : KO X Y cw kc ks Q pc L (.int i :: .ref b :: st) σ (k_gd i Ls o) := by
  intro g r σ' ho H locs ls hP hS hL
  by_cases hi : i < 0 ∨ Ls ≤ i.toNatClampNeg
  · rw [k_gd, if_pos hi] at ho; cases ho
  · rw [k_gd, if_neg hi] at ho
    exact va_sld g.1 g.2.1 hX.1 hX.2.1 hX.2.2 hS hi hd (kk g r σ' ho H locs ls hP hS hL)
theorem k_slen {b Ls : Nat} {xs : Nat → Int32} (hX : k_Sc X b Ls xs) (hd : decode Y.2.1 pc = .ok (.arraylength, 1)) (kk : KO X Y cw kc ks Q (pc + 1) L (.int (nI Ls) :: st) σ o) : KO X Y cw kc ks Q pc L (.ref b :: st) σ o :=
  kk.lift fun g H locs ls _ _ hS _ k => va_slen g.1 g.2.1 hX.1 hX.2.1 hX.2.2 hS hd k
end KX2
-- ---- cell: the script, read
theorem ckL_cell : k_Sok yL_cell cL_cell 2 (some .int) 2 := ⟨kwk_L_cell, kws_L_cell, kwn_L, by decide, by decide +kernel⟩
abbrev rmL_cell : Room := { frames := 0, cells := 0, slots := 0, locals := 0 }
abbrev YL_cell : k_Y := (rmL_cell, cL_cell, 2, RL, (some .int))
def fL_cell (Ls : Nat) (xs : Nat → Int32) (k : Int32) : Option (Int32 × Unit) := if k < nI Ls then k_gd k Ls (some (xs (Int32.toNatClampNeg k), ())) else some ((747796405 : Int32) * (k + nI 1), ())
set_option maxRecDepth 100000 in
set_option maxHeartbeats 4000000 in
theorem kL_cell {b Ls : Nat} {xs : Nat → Int32} {D : va_G} {cI : ClassId} {k : Int32} {r : Int32} {τ : Unit} (h : fL_cell Ls xs k = some (r, τ)) : k_Cx b Ls xs k_ei yL_cell cL_cell 2 (some .int) rmL_cell (fun _ : Unit => ([] : va_W)) D cI [.ref b, .int k] () r τ := by
  refine k_metx (Y := YL_cell) (k_same_of fun _ _ => rfl) (by decide) rfl (Nat.le_of_ble_eq_true rfl) (List.forall_mem_cons.mpr ⟨rfl, List.forall_mem_cons.mpr ⟨rfl, fun _ h => absurd h List.not_mem_nil⟩⟩) (fun X hD hI hX => ?_) h
  subst hD hI
  show KO X YL_cell (fun _ : Unit => ([] : va_W)) 0 0 (k_Q k_ei X (fun _ : Unit => ([] : va_W))) 0 [some (.ref b), some (.int k)] [] () _
  unfold fL_cell
  refine k_iload_n (pc := 0) dL_cell_0 rfl ?_
  refine k_aload_n (pc := 1) dL_cell_1 rfl ?_
  refine k_slen (pc := 2) hX dL_cell_2 ?_
  refine k_icmp_ge (pc := 3) 12 dL_cell_3 (by decide) ?_ ?_
  · refine k_ldc (pc := 12) kwo_L_7 dL_cell_12 ?_
    refine k_iload_n (pc := 14) dL_cell_14 rfl ?_
    refine k_iconst (pc := 15) (v := (nI 1)) dL_cell_15 (by decide) ?_
    refine k_iadd (pc := 16) dL_cell_16 ?_
    refine k_imul (pc := 17) dL_cell_17 ?_
    exact k_ireturn (pc := 18) rfl dL_cell_18
  · refine k_aload_n (pc := 6) dL_cell_6 rfl ?_
    refine k_iload_n (pc := 7) dL_cell_7 rfl ?_
    refine k_sld (pc := 8) hX dL_cell_8 ?_
    refine k_goto (pc := 9) 18 dL_cell_9 (by decide) ?_
    exact k_ireturn (pc := 18) rfl dL_cell_18
section KX3
variable {Rt : Type} {X : k_C} {Y : k_Y} {ph : Nat} {q : Nat → Nat} {kc ks : Nat} {Q : Rt → k_S × k_S → State → Prop} {pc : Nat} {L : List (Option Value)} {st : List Value} {s : k_S × k_S}
theorem k_LTi0 {y : MethodName} {bytes : ByteArray} {maxL : Nat} {ret0 : Option FieldType} {index : Nat} {rm : Room} {f : Option (Int32 × k_S)} {kg : Int32 → k_S × k_S → Option (Rt × (k_S × k_S))} (hok : k_Vok y bytes maxL ret0 0) (hc : y.cls = RX6) (hm : Cond.methodLink Y.2.2.2.1 index y ∈ k_ws) (hrm : rm.cells = 0 ∧ rm.slots = 0) (hR : rm.frames + 1 ≤ Y.1.frames ∧ 8 + (maxL + 11) + rm.locals ≤ Y.1.locals) (hk : kc ≤ Y.1.cells ∧ ks ≤ Y.1.slots) (hcat : (st.map fun v => v.category).sum ≤ 8) (hd : decode Y.2.1 pc = .ok (.invokevirtual index, 3)) (hM : ∀ r τ, f = some (r, τ) → k_Ct k_ei y bytes maxL ret0 rm (cT (k_I X) q) (k_D X) (k_I X) (.ref (q 0) :: []) s.1 r τ) (kk : ∀ r s2, KO X Y (cV ph (k_I X) q) kc ks Q (pc + 3) L (.int r :: st) s2 (kg r s2)) : KO X Y (cV ph (k_I X) q) kc ks Q pc L (.ref (q 0) :: st) s (k_ob f fun r τ => k_bn (τ, s.2) (kg r)) := k_Vi0 (k_InT (B := cB ph (k_I X) q) s) hok hm ⟨0, 6, _, _, rfl, rfl, hc.symm⟩ hrm hR hk hcat hd hM (fun r τ => kk r (τ, s.2))
theorem k_LTi1 {y : MethodName} {bytes : ByteArray} {maxL : Nat} {ret0 : Option FieldType} {index : Nat} {rm : Room} {v1 : Value} {f : Option (Int32 × k_S)} {kg : Int32 → k_S × k_S → Option (Rt × (k_S × k_S))} (hok : k_Vok y bytes maxL ret0 1) (hc : y.cls = RX6) (hm : Cond.methodLink Y.2.2.2.1 index y ∈ k_ws) (hrm : rm.cells = 0 ∧ rm.slots = 0) (hR : rm.frames + 1 ≤ Y.1.frames ∧ 8 + (maxL + 11) + rm.locals ≤ Y.1.locals) (hk : kc ≤ Y.1.cells ∧ ks ≤ Y.1.slots) (hcat : (st.map fun v => v.category).sum ≤ 8) (hd : decode Y.2.1 pc = .ok (.invokevirtual index, 3)) (hM : ∀ r τ, f = some (r, τ) → k_Ct k_ei y bytes maxL ret0 rm (cT (k_I X) q) (k_D X) (k_I X) (.ref (q 0) :: [v1]) s.1 r τ) (kk : ∀ r s2, KO X Y (cV ph (k_I X) q) kc ks Q (pc + 3) L (.int r :: st) s2 (kg r s2)) : KO X Y (cV ph (k_I X) q) kc ks Q pc L (v1 :: .ref (q 0) :: st) s (k_ob f fun r τ => k_bn (τ, s.2) (kg r)) := k_Vi1 (k_InT (B := cB ph (k_I X) q) s) hok hm ⟨0, 6, _, _, rfl, rfl, hc.symm⟩ hrm hR hk hcat hd hM (fun r τ => kk r (τ, s.2))
theorem k_LTi2 {y : MethodName} {bytes : ByteArray} {maxL : Nat} {ret0 : Option FieldType} {index : Nat} {rm : Room} {v1 v2 : Value} {f : Option (Int32 × k_S)} {kg : Int32 → k_S × k_S → Option (Rt × (k_S × k_S))} (hok : k_Vok y bytes maxL ret0 2) (hc : y.cls = RX6) (hm : Cond.methodLink Y.2.2.2.1 index y ∈ k_ws) (hrm : rm.cells = 0 ∧ rm.slots = 0) (hR : rm.frames + 1 ≤ Y.1.frames ∧ 8 + (maxL + 11) + rm.locals ≤ Y.1.locals) (hk : kc ≤ Y.1.cells ∧ ks ≤ Y.1.slots) (hcat : (st.map fun v => v.category).sum ≤ 8) (hd : decode Y.2.1 pc = .ok (.invokevirtual index, 3)) (hM : ∀ r τ, f = some (r, τ) → k_Ct k_ei y bytes maxL ret0 rm (cT (k_I X) q) (k_D X) (k_I X) (.ref (q 0) :: [v1, v2]) s.1 r τ) (kk : ∀ r s2, KO X Y (cV ph (k_I X) q) kc ks Q (pc + 3) L (.int r :: st) s2 (kg r s2)) : KO X Y (cV ph (k_I X) q) kc ks Q pc L (v2 :: v1 :: .ref (q 0) :: st) s (k_ob f fun r τ => k_bn (τ, s.2) (kg r)) := k_Vi2 (k_InT (B := cB ph (k_I X) q) s) hok hm ⟨0, 6, _, _, rfl, rfl, hc.symm⟩ hrm hR hk hcat hd hM (fun r τ => kk r (τ, s.2))
theorem k_LTi3 {y : MethodName} {bytes : ByteArray} {maxL : Nat} {ret0 : Option FieldType} {index : Nat} {rm : Room} {v1 v2 v3 : Value} {f : Option (Int32 × k_S)} {kg : Int32 → k_S × k_S → Option (Rt × (k_S × k_S))} (hok : k_Vok y bytes maxL ret0 3) (hc : y.cls = RX6) (hm : Cond.methodLink Y.2.2.2.1 index y ∈ k_ws) (hrm : rm.cells = 0 ∧ rm.slots = 0) (hR : rm.frames + 1 ≤ Y.1.frames ∧ 8 + (maxL + 11) + rm.locals ≤ Y.1.locals) (hk : kc ≤ Y.1.cells ∧ ks ≤ Y.1.slots) (hcat : (st.map fun v => v.category).sum ≤ 8) (hd : decode Y.2.1 pc = .ok (.invokevirtual index, 3)) (hM : ∀ r τ, f = some (r, τ) → k_Ct k_ei y bytes maxL ret0 rm (cT (k_I X) q) (k_D X) (k_I X) (.ref (q 0) :: [v1, v2, v3]) s.1 r τ) (kk : ∀ r s2, KO X Y (cV ph (k_I X) q) kc ks Q (pc + 3) L (.int r :: st) s2 (kg r s2)) : KO X Y (cV ph (k_I X) q) kc ks Q pc L (v3 :: v2 :: v1 :: .ref (q 0) :: st) s (k_ob f fun r τ => k_bn (τ, s.2) (kg r)) := k_Vi3 (k_InT (B := cB ph (k_I X) q) s) hok hm ⟨0, 6, _, _, rfl, rfl, hc.symm⟩ hrm hR hk hcat hd hM (fun r τ => kk r (τ, s.2))
theorem k_LTi4 {y : MethodName} {bytes : ByteArray} {maxL : Nat} {ret0 : Option FieldType} {index : Nat} {rm : Room} {v1 v2 v3 v4 : Value} {f : Option (Int32 × k_S)} {kg : Int32 → k_S × k_S → Option (Rt × (k_S × k_S))} (hok : k_Vok y bytes maxL ret0 4) (hc : y.cls = RX6) (hm : Cond.methodLink Y.2.2.2.1 index y ∈ k_ws) (hrm : rm.cells = 0 ∧ rm.slots = 0) (hR : rm.frames + 1 ≤ Y.1.frames ∧ 8 + (maxL + 11) + rm.locals ≤ Y.1.locals) (hk : kc ≤ Y.1.cells ∧ ks ≤ Y.1.slots) (hcat : (st.map fun v => v.category).sum ≤ 8) (hd : decode Y.2.1 pc = .ok (.invokevirtual index, 3)) (hM : ∀ r τ, f = some (r, τ) → k_Ct k_ei y bytes maxL ret0 rm (cT (k_I X) q) (k_D X) (k_I X) (.ref (q 0) :: [v1, v2, v3, v4]) s.1 r τ) (kk : ∀ r s2, KO X Y (cV ph (k_I X) q) kc ks Q (pc + 3) L (.int r :: st) s2 (kg r s2)) : KO X Y (cV ph (k_I X) q) kc ks Q pc L (v4 :: v3 :: v2 :: v1 :: .ref (q 0) :: st) s (k_ob f fun r τ => k_bn (τ, s.2) (kg r)) := k_Vi4 (k_InT (B := cB ph (k_I X) q) s) hok hm ⟨0, 6, _, _, rfl, rfl, hc.symm⟩ hrm hR hk hcat hd hM (fun r τ => kk r (τ, s.2))
theorem k_lV3_0 {o : Option (Rt × (k_S × k_S))} {i : Int32} (hd : decode Y.2.1 pc = .ok (.iaload, 1)) (kk : KO X Y (cV 3 (k_I X) q) kc ks Q (pc + 1) L (.int (s.2.2 0 i.toNatClampNeg) :: st) s o) : KO X Y (cV 3 (k_I X) q) kc ks Q pc L (.int i :: .ref (q 30) :: st) s (k_gd i 34 o) := k_iald 30 rfl hd kk
theorem k_sV3_0 {i x : Int32} {kf : k_S × k_S → Option (Rt × (k_S × k_S))} (hd : decode Y.2.1 pc = .ok (.iastore, 1)) (kk : ∀ s' : k_S × k_S, KO X Y (cV 3 (k_I X) q) kc ks Q (pc + 1) L st s' (kf s')) : KO X Y (cV 3 (k_I X) q) kc ks Q pc L (.int x :: .int i :: .ref (q 30) :: st) s (k_gd i 34 (k_bn (k_sV s 0 i x) kf)) := k_iast 30 rfl rfl hd kk
theorem k_lV3_1 {o : Option (Rt × (k_S × k_S))} {i : Int32} (hd : decode Y.2.1 pc = .ok (.iaload, 1)) (kk : KO X Y (cV 3 (k_I X) q) kc ks Q (pc + 1) L (.int (s.2.2 1 i.toNatClampNeg) :: st) s o) : KO X Y (cV 3 (k_I X) q) kc ks Q pc L (.int i :: .ref (q 31) :: st) s (k_gd i 60 o) := k_iald 31 rfl hd kk
theorem k_sV3_1 {i x : Int32} {kf : k_S × k_S → Option (Rt × (k_S × k_S))} (hd : decode Y.2.1 pc = .ok (.iastore, 1)) (kk : ∀ s' : k_S × k_S, KO X Y (cV 3 (k_I X) q) kc ks Q (pc + 1) L st s' (kf s')) : KO X Y (cV 3 (k_I X) q) kc ks Q pc L (.int x :: .int i :: .ref (q 31) :: st) s (k_gd i 60 (k_bn (k_sV s 1 i x) kf)) := k_iast 31 rfl rfl hd kk
theorem k_lV3_2 {o : Option (Rt × (k_S × k_S))} {i : Int32} (hd : decode Y.2.1 pc = .ok (.iaload, 1)) (kk : KO X Y (cV 3 (k_I X) q) kc ks Q (pc + 1) L (.int (s.2.2 2 i.toNatClampNeg) :: st) s o) : KO X Y (cV 3 (k_I X) q) kc ks Q pc L (.int i :: .ref (q 32) :: st) s (k_gd i 5 o) := k_iald 32 rfl hd kk
theorem k_sV3_2 {i x : Int32} {kf : k_S × k_S → Option (Rt × (k_S × k_S))} (hd : decode Y.2.1 pc = .ok (.iastore, 1)) (kk : ∀ s' : k_S × k_S, KO X Y (cV 3 (k_I X) q) kc ks Q (pc + 1) L st s' (kf s')) : KO X Y (cV 3 (k_I X) q) kc ks Q pc L (.int x :: .int i :: .ref (q 32) :: st) s (k_gd i 5 (k_bn (k_sV s 2 i x) kf)) := k_iast 32 rfl rfl hd kk
theorem k_lV4_0 {o : Option (Rt × (k_S × k_S))} {i : Int32} (hd : decode Y.2.1 pc = .ok (.iaload, 1)) (kk : KO X Y (cV 4 (k_I X) q) kc ks Q (pc + 1) L (.int (s.2.2 0 i.toNatClampNeg) :: st) s o) : KO X Y (cV 4 (k_I X) q) kc ks Q pc L (.int i :: .ref (q 30) :: st) s (k_gd i 34 o) := k_iald 30 rfl hd kk
theorem k_sV4_0 {i x : Int32} {kf : k_S × k_S → Option (Rt × (k_S × k_S))} (hd : decode Y.2.1 pc = .ok (.iastore, 1)) (kk : ∀ s' : k_S × k_S, KO X Y (cV 4 (k_I X) q) kc ks Q (pc + 1) L st s' (kf s')) : KO X Y (cV 4 (k_I X) q) kc ks Q pc L (.int x :: .int i :: .ref (q 30) :: st) s (k_gd i 34 (k_bn (k_sV s 0 i x) kf)) := k_iast 30 rfl rfl hd kk
theorem k_lV4_1 {o : Option (Rt × (k_S × k_S))} {i : Int32} (hd : decode Y.2.1 pc = .ok (.iaload, 1)) (kk : KO X Y (cV 4 (k_I X) q) kc ks Q (pc + 1) L (.int (s.2.2 1 i.toNatClampNeg) :: st) s o) : KO X Y (cV 4 (k_I X) q) kc ks Q pc L (.int i :: .ref (q 31) :: st) s (k_gd i 60 o) := k_iald 31 rfl hd kk
theorem k_sV4_1 {i x : Int32} {kf : k_S × k_S → Option (Rt × (k_S × k_S))} (hd : decode Y.2.1 pc = .ok (.iastore, 1)) (kk : ∀ s' : k_S × k_S, KO X Y (cV 4 (k_I X) q) kc ks Q (pc + 1) L st s' (kf s')) : KO X Y (cV 4 (k_I X) q) kc ks Q pc L (.int x :: .int i :: .ref (q 31) :: st) s (k_gd i 60 (k_bn (k_sV s 1 i x) kf)) := k_iast 31 rfl rfl hd kk
theorem k_lV4_2 {o : Option (Rt × (k_S × k_S))} {i : Int32} (hd : decode Y.2.1 pc = .ok (.iaload, 1)) (kk : KO X Y (cV 4 (k_I X) q) kc ks Q (pc + 1) L (.int (s.2.2 2 i.toNatClampNeg) :: st) s o) : KO X Y (cV 4 (k_I X) q) kc ks Q pc L (.int i :: .ref (q 32) :: st) s (k_gd i 5 o) := k_iald 32 rfl hd kk
theorem k_sV4_2 {i x : Int32} {kf : k_S × k_S → Option (Rt × (k_S × k_S))} (hd : decode Y.2.1 pc = .ok (.iastore, 1)) (kk : ∀ s' : k_S × k_S, KO X Y (cV 4 (k_I X) q) kc ks Q (pc + 1) L st s' (kf s')) : KO X Y (cV 4 (k_I X) q) kc ks Q pc L (.int x :: .int i :: .ref (q 32) :: st) s (k_gd i 5 (k_bn (k_sV s 2 i x) kf)) := k_iast 32 rfl rfl hd kk
theorem k_lV4_3 {o : Option (Rt × (k_S × k_S))} {i : Int32} (hd : decode Y.2.1 pc = .ok (.iaload, 1)) (kk : KO X Y (cV 4 (k_I X) q) kc ks Q (pc + 1) L (.int (s.2.2 3 i.toNatClampNeg) :: st) s o) : KO X Y (cV 4 (k_I X) q) kc ks Q pc L (.int i :: .ref (q 33) :: st) s (k_gd i 5 o) := k_iald 33 rfl hd kk
theorem k_sV4_3 {i x : Int32} {kf : k_S × k_S → Option (Rt × (k_S × k_S))} (hd : decode Y.2.1 pc = .ok (.iastore, 1)) (kk : ∀ s' : k_S × k_S, KO X Y (cV 4 (k_I X) q) kc ks Q (pc + 1) L st s' (kf s')) : KO X Y (cV 4 (k_I X) q) kc ks Q pc L (.int x :: .int i :: .ref (q 33) :: st) s (k_gd i 5 (k_bn (k_sV s 3 i x) kf)) := k_iast 33 rfl rfl hd kk
theorem k_lV5_0 {o : Option (Rt × (k_S × k_S))} {i : Int32} (hd : decode Y.2.1 pc = .ok (.iaload, 1)) (kk : KO X Y (cV 5 (k_I X) q) kc ks Q (pc + 1) L (.int (s.2.2 0 i.toNatClampNeg) :: st) s o) : KO X Y (cV 5 (k_I X) q) kc ks Q pc L (.int i :: .ref (q 30) :: st) s (k_gd i 34 o) := k_iald 30 rfl hd kk
theorem k_sV5_0 {i x : Int32} {kf : k_S × k_S → Option (Rt × (k_S × k_S))} (hd : decode Y.2.1 pc = .ok (.iastore, 1)) (kk : ∀ s' : k_S × k_S, KO X Y (cV 5 (k_I X) q) kc ks Q (pc + 1) L st s' (kf s')) : KO X Y (cV 5 (k_I X) q) kc ks Q pc L (.int x :: .int i :: .ref (q 30) :: st) s (k_gd i 34 (k_bn (k_sV s 0 i x) kf)) := k_iast 30 rfl rfl hd kk
theorem k_lV5_1 {o : Option (Rt × (k_S × k_S))} {i : Int32} (hd : decode Y.2.1 pc = .ok (.iaload, 1)) (kk : KO X Y (cV 5 (k_I X) q) kc ks Q (pc + 1) L (.int (s.2.2 1 i.toNatClampNeg) :: st) s o) : KO X Y (cV 5 (k_I X) q) kc ks Q pc L (.int i :: .ref (q 31) :: st) s (k_gd i 60 o) := k_iald 31 rfl hd kk
theorem k_sV5_1 {i x : Int32} {kf : k_S × k_S → Option (Rt × (k_S × k_S))} (hd : decode Y.2.1 pc = .ok (.iastore, 1)) (kk : ∀ s' : k_S × k_S, KO X Y (cV 5 (k_I X) q) kc ks Q (pc + 1) L st s' (kf s')) : KO X Y (cV 5 (k_I X) q) kc ks Q pc L (.int x :: .int i :: .ref (q 31) :: st) s (k_gd i 60 (k_bn (k_sV s 1 i x) kf)) := k_iast 31 rfl rfl hd kk
theorem k_lV5_2 {o : Option (Rt × (k_S × k_S))} {i : Int32} (hd : decode Y.2.1 pc = .ok (.iaload, 1)) (kk : KO X Y (cV 5 (k_I X) q) kc ks Q (pc + 1) L (.int (s.2.2 2 i.toNatClampNeg) :: st) s o) : KO X Y (cV 5 (k_I X) q) kc ks Q pc L (.int i :: .ref (q 32) :: st) s (k_gd i 5 o) := k_iald 32 rfl hd kk
theorem k_sV5_2 {i x : Int32} {kf : k_S × k_S → Option (Rt × (k_S × k_S))} (hd : decode Y.2.1 pc = .ok (.iastore, 1)) (kk : ∀ s' : k_S × k_S, KO X Y (cV 5 (k_I X) q) kc ks Q (pc + 1) L st s' (kf s')) : KO X Y (cV 5 (k_I X) q) kc ks Q pc L (.int x :: .int i :: .ref (q 32) :: st) s (k_gd i 5 (k_bn (k_sV s 2 i x) kf)) := k_iast 32 rfl rfl hd kk
theorem k_lV5_3 {o : Option (Rt × (k_S × k_S))} {i : Int32} (hd : decode Y.2.1 pc = .ok (.iaload, 1)) (kk : KO X Y (cV 5 (k_I X) q) kc ks Q (pc + 1) L (.int (s.2.2 3 i.toNatClampNeg) :: st) s o) : KO X Y (cV 5 (k_I X) q) kc ks Q pc L (.int i :: .ref (q 33) :: st) s (k_gd i 5 o) := k_iald 33 rfl hd kk
theorem k_sV5_3 {i x : Int32} {kf : k_S × k_S → Option (Rt × (k_S × k_S))} (hd : decode Y.2.1 pc = .ok (.iastore, 1)) (kk : ∀ s' : k_S × k_S, KO X Y (cV 5 (k_I X) q) kc ks Q (pc + 1) L st s' (kf s')) : KO X Y (cV 5 (k_I X) q) kc ks Q pc L (.int x :: .int i :: .ref (q 33) :: st) s (k_gd i 5 (k_bn (k_sV s 3 i x) kf)) := k_iast 33 rfl rfl hd kk
theorem k_lV5_4 {o : Option (Rt × (k_S × k_S))} {i : Int32} (hd : decode Y.2.1 pc = .ok (.iaload, 1)) (kk : KO X Y (cV 5 (k_I X) q) kc ks Q (pc + 1) L (.int (s.2.2 4 i.toNatClampNeg) :: st) s o) : KO X Y (cV 5 (k_I X) q) kc ks Q pc L (.int i :: .ref (q 34) :: st) s (k_gd i 25 o) := k_iald 34 rfl hd kk
theorem k_sV5_4 {i x : Int32} {kf : k_S × k_S → Option (Rt × (k_S × k_S))} (hd : decode Y.2.1 pc = .ok (.iastore, 1)) (kk : ∀ s' : k_S × k_S, KO X Y (cV 5 (k_I X) q) kc ks Q (pc + 1) L st s' (kf s')) : KO X Y (cV 5 (k_I X) q) kc ks Q pc L (.int x :: .int i :: .ref (q 34) :: st) s (k_gd i 25 (k_bn (k_sV s 4 i x) kf)) := k_iast 34 rfl rfl hd kk
set_option maxRecDepth 100000 in
theorem k_newV3 {kf : k_S × k_S → Option (Rt × (k_S × k_S))} (hc : kc + 1 ≤ Y.1.cells) (hs : ks + 5 ≤ Y.1.slots) (hd : decode Y.2.1 pc = .ok (.newarray .int, 2)) (kk : ∀ (a : Nat) (s' : k_S × k_S), KO X Y (cV 4 (k_I X) (k_up q 33 a)) (kc + 1) (ks + 5) Q (pc + 2) L (.ref a :: st) s' (kf s')) : KO X Y (cV 3 (k_I X) q) kc ks Q pc L (.int (nI 5) :: st) s (k_bn (s.1, k_sA s.2 3 (fun _ => 0)) kf) := by
  refine KO.ofKI fun r σ' ho => ?_
  refine ki_newa 5 (by decide) (by decide) (Nat.le_of_ble_eq_true rfl) hc hs hd (fun a => ?_)
  exact KI.toKO (cw := cV 4 (k_I X) (k_up q 33 a)) (σ := (s.1, k_sA s.2 3 (fun _ => 0))) (cV_same _ _ _) ho (List.range 34) (by decide) rfl rfl (kk a _)
set_option maxRecDepth 100000 in
theorem k_newV4 {kf : k_S × k_S → Option (Rt × (k_S × k_S))} (hc : kc + 1 ≤ Y.1.cells) (hs : ks + 25 ≤ Y.1.slots) (hd : decode Y.2.1 pc = .ok (.newarray .int, 2)) (kk : ∀ (a : Nat) (s' : k_S × k_S), KO X Y (cV 5 (k_I X) (k_up q 34 a)) (kc + 1) (ks + 25) Q (pc + 2) L (.ref a :: st) s' (kf s')) : KO X Y (cV 4 (k_I X) q) kc ks Q pc L (.int (nI 25) :: st) s (k_bn (s.1, k_sA s.2 4 (fun _ => 0)) kf) := by
  refine KO.ofKI fun r σ' ho => ?_
  refine ki_newa 25 (by decide) (by decide) (Nat.le_of_ble_eq_true rfl) hc hs hd (fun a => ?_)
  exact KI.toKO (cw := cV 5 (k_I X) (k_up q 34 a)) (σ := (s.1, k_sA s.2 4 (fun _ => 0))) (cV_same _ _ _) ho (List.range 35) (by decide) rfl rfl (kk a _)
set_option maxRecDepth 100000 in
theorem k_drop4 {o : Option (Rt × (k_S × k_S))} (kk : KO X Y (cV 3 (k_I X) q) kc ks Q pc L st s o) : KO X Y (cV 4 (k_I X) q) kc ks Q pc L st s o := by
  refine KO.ofKI fun r σ' ho => ?_
  exact KI.toKO (cw := cV 3 (k_I X) q) (σ := s) (cV_same _ _ _) ho (List.range 33) (by decide) rfl rfl kk
set_option maxRecDepth 100000 in
theorem k_drop5 {o : Option (Rt × (k_S × k_S))} (kk : KO X Y (cV 3 (k_I X) q) kc ks Q pc L st s o) : KO X Y (cV 5 (k_I X) q) kc ks Q pc L st s o := by
  refine KO.ofKI fun r σ' ho => ?_
  exact KI.toKO (cw := cV 3 (k_I X) q) (σ := s) (cV_same _ _ _) ho (List.range 33) (by decide) rfl rfl kk
end KX3
